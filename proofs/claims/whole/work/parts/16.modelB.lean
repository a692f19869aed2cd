/-! PaperDollsModel.canSet()I -/
def L_X10_canSet : List (Nat × Instr × Nat) := [(0, .aload_n 0, 1), (1, .invokevirtual 106, 3), (4, .iconst 0, 1), (5, .istore_n 1, 1), (6, .iconst 0, 1), (7, .istore_n 2, 1), (8, .iload_n 2, 1), (9, .aload_n 0, 1), (10, .getfield 7, 3), (13, .iconst 0, 1), (14, .iaload, 1), (15, .if_icmp .ge 27, 3), (18, .iload_n 1, 1), (19, .aload_n 0, 1), (20, .iload_n 2, 1), (21, .invokevirtual 66, 3), (24, .ifCond .eq 9, 3), (27, .iconst 1, 1), (28, .iload_n 2, 1), (29, .ishl, 1), (30, .goto 4, 3), (33, .iconst 0, 1), (34, .ior, 1), (35, .istore_n 1, 1), (36, .iinc 2 1, 3), (39, .goto (-31), 3), (42, .iload_n 1, 1), (43, .ireturn, 1)]
theorem dd_X10_canSet : ∀ q ∈ L_X10_canSet, decode cX10_canSet q.1 = .ok q.2 := by decide +kernel
abbrev M_X10_canSet : zM := (cX10_canSet, RX10, "canSet", 3, some .int, 3, 0, 0)
theorem u_X10_canSet : zCal yX10_canSet (M_X10_canSet) 0 := ⟨(zmem 1040 (by decide +kernel) rfl : Cond.code yX10_canSet cX10_canSet 3 (some .int) ∈ zTb), zmem 63 (by decide +kernel) rfl, by decide +kernel, Nat.le_of_ble_eq_true rfl⟩
theorem qi_X10_canSet : Cond.instanceMethod yX10_canSet ∈ zTb := zmem 1039 (by decide +kernel) rfl
theorem qs_X10_canSet : Cond.selects yX10_canSet.cls yX10_canSet yX10_canSet ∈ zTb := zmem 41 (by decide +kernel) rfl
def f_X10_canSet_34 (k8 : Nat → Int32 → Int32 → zH → zR) (v0 : Nat) (v2 : Int32) (t0 : Int32) (t1 : Int32) (h : zH) : zR :=
  zlt (t1 ||| t0) fun x1 =>
  k8 v0 x1 (v2 + 1) h
set_option maxRecDepth 100000 in
set_option maxHeartbeats 4000000 in
theorem zb_X10_canSet_34 (Y : zY) (k8 : Nat → Int32 → Int32 → zH → zR) (hk8 : ∀ (v0 : Nat) (v1 : Int32) (v2 : Int32) (h : zH), Z Y M_X10_canSet 0 0 8 [(0, .ref v0), (1, .int v1), (2, .int v2)] [] h (k8 v0 v1 v2 h)) (v0 : Nat) (v2 : Int32) (t0 : Int32) (t1 : Int32) (h : zH) : Z Y M_X10_canSet 0 0 34 [(0, .ref v0), (2, .int v2)] [.int t0, .int t1] h (f_X10_canSet_34 k8 v0 v2 t0 t1 h) := by
  rw [f_X10_canSet_34]
  refine z_ior (zat dd_X10_canSet 22 rfl) ?_
  refine z_let (fun x1 => ?_)
  refine z_istore_n (lv' := [(1, .int x1), (0, .ref v0), (2, .int v2)]) (zat dd_X10_canSet 23 rfl) rfl (Nat.le_of_ble_eq_true rfl) rfl ?_
  refine z_iinc (y := v2 + 1) (lv' := [(2, .int (v2 + 1)), (1, .int x1), (0, .ref v0)]) 2 (zat dd_X10_canSet 24 rfl) rfl rfl (Nat.le_of_ble_eq_true rfl) rfl ?_
  refine z_goto (tgt := 8) (zat dd_X10_canSet 25 rfl) (by decide) ?_
  refine z_sub [2, 1, 0] rfl ?_
  exact hk8 v0 x1 (v2 + 1) h
def f_X10_canSet_8 : Nat → Nat → Int32 → Int32 → zH → zR
  | 0, _, _, _, _ => none
  | n + 1, v0, v1, v2, h =>
  zgR h v0 6 0 fun a1 =>
  zaI h a1 0 0 fun x2 =>
  if x2 ≤ v2 then
  zrI v1 h
  else
  zoc h v0 6 <|
  zcI (f_X10_canPut v0 v2 h) fun x3 h4 =>
  if x3 = 0 then
  f_X10_canSet_34 (f_X10_canSet_8 n) v0 v2 0 v1 h4
  else
  f_X10_canSet_34 (f_X10_canSet_8 n) v0 v2 (1 <<< (v2 &&& 31)) v1 h4
set_option maxRecDepth 100000 in
set_option maxHeartbeats 4000000 in
theorem zb_X10_canSet_8 (Y : zY) : ∀ (n : Nat) (v0 : Nat) (v1 : Int32) (v2 : Int32) (h : zH), Z Y M_X10_canSet 0 0 8 [(0, .ref v0), (1, .int v1), (2, .int v2)] [] h (f_X10_canSet_8 n v0 v1 v2 h) := by
  intro n
  induction n with
  | zero =>
    intro v0 v1 v2 h
    rw [f_X10_canSet_8]
    exact z_none
  | succ n ih =>
    intro v0 v1 v2 h
    rw [f_X10_canSet_8]
    refine z_iload_n 2 (zat dd_X10_canSet 6 rfl) rfl rfl ?_
    refine z_aload_n 0 (zat dd_X10_canSet 7 rfl) rfl rfl ?_
    refine z_getR fl_X10_7 (zat dd_X10_canSet 8 rfl) (fun a1 => ?_)
    refine z_iconst (x := 0) (zat dd_X10_canSet 9 rfl) (by decide) ?_
    refine z_iald (zat dd_X10_canSet 10 rfl) (fun x2 => ?_)
    refine z_icmp_ge (tgt := 42) (zat dd_X10_canSet 11 rfl) (by decide) ?_ ?_
    · refine z_iload_n 1 (zat dd_X10_canSet 26 rfl) rfl rfl ?_
      exact z_iret rfl (zat dd_X10_canSet 27 rfl)
    · refine z_iload_n 1 (zat dd_X10_canSet 12 rfl) rfl rfl ?_
      refine z_aload_n 0 (zat dd_X10_canSet 13 rfl) rfl rfl ?_
      refine z_iload_n 2 (zat dd_X10_canSet 14 rfl) rfl rfl ?_
      refine z_callV_I0 (M2 := M_X10_canPut) [.int v2] (fun l D _ _ => m_X10_canPut l D v0 v2 h) u_X10_canPut ql_X10_66 qi_X10_canPut qs_X10_canPut (ci := 6) rfl rfl rfl (Nat.le_of_ble_eq_true rfl) (by decide) rfl rfl (zat dd_X10_canSet 15 rfl) (fun x3 h4 => ?_)
      refine z_if_eq (tgt := 33) (zat dd_X10_canSet 16 rfl) (by decide) ?_ ?_
      · refine z_iconst (x := 0) (zat dd_X10_canSet 21 rfl) (by decide) ?_
        refine z_sub [0, 2] rfl ?_
        exact zb_X10_canSet_34 Y (f_X10_canSet_8 n) ih v0 v2 0 v1 h4
      · refine z_iconst (x := 1) (zat dd_X10_canSet 17 rfl) (by decide) ?_
        refine z_iload_n 2 (zat dd_X10_canSet 18 rfl) rfl rfl ?_
        refine z_ishl (zat dd_X10_canSet 19 rfl) ?_
        refine z_goto (tgt := 34) (zat dd_X10_canSet 20 rfl) (by decide) ?_
        refine z_sub [0, 2] rfl ?_
        exact zb_X10_canSet_34 Y (f_X10_canSet_8 n) ih v0 v2 (1 <<< (v2 &&& 31)) v1 h4
def f_X10_canSet (v0 : Nat) (h : zH) : zR :=
  zoc h v0 6 <|
  zcV (f_X10_aside v0 h) fun h1 =>
  f_X10_canSet_8 zF v0 0 0 h1
set_option maxRecDepth 100000 in
set_option maxHeartbeats 4000000 in
theorem m_X10_canSet (l : Launch) (D : zD) (v0 : Nat) (h : zH) : zMet l D yX10_canSet M_X10_canSet [.ref v0] h (f_X10_canSet v0 h) := by
  refine zMet.of (by decide +kernel) ⟨rfl, rfl⟩ (Nat.le_of_ble_eq_true rfl) (fun Y hl hD => ?_)
  show Z Y M_X10_canSet 0 0 0 [(0, .ref v0)] [] h _
  rw [f_X10_canSet]
  refine z_aload_n 0 (zat dd_X10_canSet 0 rfl) rfl rfl ?_
  refine z_callV_V0 (M2 := M_X10_aside) [] (fun l D _ _ => m_X10_aside l D v0 h) u_X10_aside ql_X10_106 qi_X10_aside qs_X10_aside (ci := 6) rfl rfl rfl (Nat.le_of_ble_eq_true rfl) (by decide) rfl rfl (zat dd_X10_canSet 1 rfl) (fun h1 => ?_)
  refine z_iconst (x := 0) (zat dd_X10_canSet 2 rfl) (by decide) ?_
  refine z_istore_n (lv' := [(1, .int 0), (0, .ref v0)]) (zat dd_X10_canSet 3 rfl) rfl (Nat.le_of_ble_eq_true rfl) rfl ?_
  refine z_iconst (x := 0) (zat dd_X10_canSet 4 rfl) (by decide) ?_
  refine z_istore_n (lv' := [(2, .int 0), (1, .int 0), (0, .ref v0)]) (zat dd_X10_canSet 5 rfl) rfl (Nat.le_of_ble_eq_true rfl) rfl ?_
  refine z_sub [2, 1, 0] rfl ?_
  exact zb_X10_canSet_8 Y zF v0 0 0 h1
/-! PaperDollsModel.can()I -/
def L_X10_can : List (Nat × Instr × Nat) := [(0, .aload_n 0, 1), (1, .invokevirtual 183, 3), (4, .ireturn, 1)]
theorem dd_X10_can : ∀ q ∈ L_X10_can, decode cX10_can q.1 = .ok q.2 := by decide +kernel
abbrev M_X10_can : zM := (cX10_can, RX10, "can", 1, some .int, 4, 0, 0)
theorem u_X10_can : zCal yX10_can (M_X10_can) 0 := ⟨(zmem 1036 (by decide +kernel) rfl : Cond.code yX10_can cX10_can 1 (some .int) ∈ zTb), zmem 63 (by decide +kernel) rfl, by decide +kernel, Nat.le_of_ble_eq_true rfl⟩
theorem qi_X10_can : Cond.instanceMethod yX10_can ∈ zTb := zmem 1034 (by decide +kernel) rfl
theorem qs_X10_can : Cond.selects yX10_can.cls yX10_can yX10_can ∈ zTb := zmem 1035 (by decide +kernel) rfl
def f_X10_can (v0 : Nat) (h : zH) : zR :=
  zoc h v0 6 <|
  zcI (f_X10_canSet v0 h) fun x1 h2 =>
  zrI x1 h2
set_option maxRecDepth 100000 in
set_option maxHeartbeats 4000000 in
theorem m_X10_can (l : Launch) (D : zD) (v0 : Nat) (h : zH) : zMet l D yX10_can M_X10_can [.ref v0] h (f_X10_can v0 h) := by
  refine zMet.of (by decide +kernel) ⟨rfl, rfl⟩ (Nat.le_of_ble_eq_true rfl) (fun Y hl hD => ?_)
  show Z Y M_X10_can 0 0 0 [(0, .ref v0)] [] h _
  rw [f_X10_can]
  refine z_aload_n 0 (zat dd_X10_can 0 rfl) rfl rfl ?_
  refine z_callV_I0 (M2 := M_X10_canSet) [] (fun l D _ _ => m_X10_canSet l D v0 h) u_X10_canSet ql_X10_183 qi_X10_canSet qs_X10_canSet (ci := 6) rfl rfl rfl (Nat.le_of_ble_eq_true rfl) (by decide) rfl rfl (zat dd_X10_can 1 rfl) (fun x1 h2 => ?_)
  exact z_iret rfl (zat dd_X10_can 2 rfl)
/-! PaperDollsModel.off()I -/
def L_X10_off : List (Nat × Instr × Nat) := [(0, .aload_n 0, 1), (1, .invokevirtual 106, 3), (4, .iconst 0, 1), (5, .istore_n 1, 1), (6, .iconst 0, 1), (7, .istore_n 2, 1), (8, .iload_n 2, 1), (9, .aload_n 0, 1), (10, .getfield 7, 3), (13, .iconst 0, 1), (14, .iaload, 1), (15, .if_icmp .ge 27, 3), (18, .iload_n 1, 1), (19, .aload_n 0, 1), (20, .iload_n 2, 1), (21, .invokevirtual 70, 3), (24, .ifCond .eq 9, 3), (27, .iconst 1, 1), (28, .iload_n 2, 1), (29, .ishl, 1), (30, .goto 4, 3), (33, .iconst 0, 1), (34, .ior, 1), (35, .istore_n 1, 1), (36, .iinc 2 1, 3), (39, .goto (-31), 3), (42, .iload_n 1, 1), (43, .ireturn, 1)]
theorem dd_X10_off : ∀ q ∈ L_X10_off, decode cX10_off q.1 = .ok q.2 := by decide +kernel
abbrev M_X10_off : zM := (cX10_off, RX10, "off", 3, some .int, 2, 0, 0)
theorem u_X10_off : zCal yX10_off (M_X10_off) 0 := ⟨(zmem 1044 (by decide +kernel) rfl : Cond.code yX10_off cX10_off 3 (some .int) ∈ zTb), zmem 63 (by decide +kernel) rfl, by decide +kernel, Nat.le_of_ble_eq_true rfl⟩
theorem qi_X10_off : Cond.instanceMethod yX10_off ∈ zTb := zmem 1042 (by decide +kernel) rfl
theorem qs_X10_off : Cond.selects yX10_off.cls yX10_off yX10_off ∈ zTb := zmem 1043 (by decide +kernel) rfl
def f_X10_off_34 (k8 : Nat → Int32 → Int32 → zH → zR) (v0 : Nat) (v2 : Int32) (t0 : Int32) (t1 : Int32) (h : zH) : zR :=
  zlt (t1 ||| t0) fun x1 =>
  k8 v0 x1 (v2 + 1) h
set_option maxRecDepth 100000 in
set_option maxHeartbeats 4000000 in
theorem zb_X10_off_34 (Y : zY) (k8 : Nat → Int32 → Int32 → zH → zR) (hk8 : ∀ (v0 : Nat) (v1 : Int32) (v2 : Int32) (h : zH), Z Y M_X10_off 0 0 8 [(0, .ref v0), (1, .int v1), (2, .int v2)] [] h (k8 v0 v1 v2 h)) (v0 : Nat) (v2 : Int32) (t0 : Int32) (t1 : Int32) (h : zH) : Z Y M_X10_off 0 0 34 [(0, .ref v0), (2, .int v2)] [.int t0, .int t1] h (f_X10_off_34 k8 v0 v2 t0 t1 h) := by
  rw [f_X10_off_34]
  refine z_ior (zat dd_X10_off 22 rfl) ?_
  refine z_let (fun x1 => ?_)
  refine z_istore_n (lv' := [(1, .int x1), (0, .ref v0), (2, .int v2)]) (zat dd_X10_off 23 rfl) rfl (Nat.le_of_ble_eq_true rfl) rfl ?_
  refine z_iinc (y := v2 + 1) (lv' := [(2, .int (v2 + 1)), (1, .int x1), (0, .ref v0)]) 2 (zat dd_X10_off 24 rfl) rfl rfl (Nat.le_of_ble_eq_true rfl) rfl ?_
  refine z_goto (tgt := 8) (zat dd_X10_off 25 rfl) (by decide) ?_
  refine z_sub [2, 1, 0] rfl ?_
  exact hk8 v0 x1 (v2 + 1) h
def f_X10_off_8 : Nat → Nat → Int32 → Int32 → zH → zR
  | 0, _, _, _, _ => none
  | n + 1, v0, v1, v2, h =>
  zgR h v0 6 0 fun a1 =>
  zaI h a1 0 0 fun x2 =>
  if x2 ≤ v2 then
  zrI v1 h
  else
  zoc h v0 6 <|
  zcI (f_X10_canTake v0 v2 h) fun x3 h4 =>
  if x3 = 0 then
  f_X10_off_34 (f_X10_off_8 n) v0 v2 0 v1 h4
  else
  f_X10_off_34 (f_X10_off_8 n) v0 v2 (1 <<< (v2 &&& 31)) v1 h4
set_option maxRecDepth 100000 in
set_option maxHeartbeats 4000000 in
theorem zb_X10_off_8 (Y : zY) : ∀ (n : Nat) (v0 : Nat) (v1 : Int32) (v2 : Int32) (h : zH), Z Y M_X10_off 0 0 8 [(0, .ref v0), (1, .int v1), (2, .int v2)] [] h (f_X10_off_8 n v0 v1 v2 h) := by
  intro n
  induction n with
  | zero =>
    intro v0 v1 v2 h
    rw [f_X10_off_8]
    exact z_none
  | succ n ih =>
    intro v0 v1 v2 h
    rw [f_X10_off_8]
    refine z_iload_n 2 (zat dd_X10_off 6 rfl) rfl rfl ?_
    refine z_aload_n 0 (zat dd_X10_off 7 rfl) rfl rfl ?_
    refine z_getR fl_X10_7 (zat dd_X10_off 8 rfl) (fun a1 => ?_)
    refine z_iconst (x := 0) (zat dd_X10_off 9 rfl) (by decide) ?_
    refine z_iald (zat dd_X10_off 10 rfl) (fun x2 => ?_)
    refine z_icmp_ge (tgt := 42) (zat dd_X10_off 11 rfl) (by decide) ?_ ?_
    · refine z_iload_n 1 (zat dd_X10_off 26 rfl) rfl rfl ?_
      exact z_iret rfl (zat dd_X10_off 27 rfl)
    · refine z_iload_n 1 (zat dd_X10_off 12 rfl) rfl rfl ?_
      refine z_aload_n 0 (zat dd_X10_off 13 rfl) rfl rfl ?_
      refine z_iload_n 2 (zat dd_X10_off 14 rfl) rfl rfl ?_
      refine z_callV_I0 (M2 := M_X10_canTake) [.int v2] (fun l D _ _ => m_X10_canTake l D v0 v2 h) u_X10_canTake ql_X10_70 qi_X10_canTake qs_X10_canTake (ci := 6) rfl rfl rfl (Nat.le_of_ble_eq_true rfl) (by decide) rfl rfl (zat dd_X10_off 15 rfl) (fun x3 h4 => ?_)
      refine z_if_eq (tgt := 33) (zat dd_X10_off 16 rfl) (by decide) ?_ ?_
      · refine z_iconst (x := 0) (zat dd_X10_off 21 rfl) (by decide) ?_
        refine z_sub [0, 2] rfl ?_
        exact zb_X10_off_34 Y (f_X10_off_8 n) ih v0 v2 0 v1 h4
      · refine z_iconst (x := 1) (zat dd_X10_off 17 rfl) (by decide) ?_
        refine z_iload_n 2 (zat dd_X10_off 18 rfl) rfl rfl ?_
        refine z_ishl (zat dd_X10_off 19 rfl) ?_
        refine z_goto (tgt := 34) (zat dd_X10_off 20 rfl) (by decide) ?_
        refine z_sub [0, 2] rfl ?_
        exact zb_X10_off_34 Y (f_X10_off_8 n) ih v0 v2 (1 <<< (v2 &&& 31)) v1 h4
def f_X10_off (v0 : Nat) (h : zH) : zR :=
  zoc h v0 6 <|
  zcV (f_X10_aside v0 h) fun h1 =>
  f_X10_off_8 zF v0 0 0 h1
set_option maxRecDepth 100000 in
set_option maxHeartbeats 4000000 in
theorem m_X10_off (l : Launch) (D : zD) (v0 : Nat) (h : zH) : zMet l D yX10_off M_X10_off [.ref v0] h (f_X10_off v0 h) := by
  refine zMet.of (by decide +kernel) ⟨rfl, rfl⟩ (Nat.le_of_ble_eq_true rfl) (fun Y hl hD => ?_)
  show Z Y M_X10_off 0 0 0 [(0, .ref v0)] [] h _
  rw [f_X10_off]
  refine z_aload_n 0 (zat dd_X10_off 0 rfl) rfl rfl ?_
  refine z_callV_V0 (M2 := M_X10_aside) [] (fun l D _ _ => m_X10_aside l D v0 h) u_X10_aside ql_X10_106 qi_X10_aside qs_X10_aside (ci := 6) rfl rfl rfl (Nat.le_of_ble_eq_true rfl) (by decide) rfl rfl (zat dd_X10_off 1 rfl) (fun h1 => ?_)
  refine z_iconst (x := 0) (zat dd_X10_off 2 rfl) (by decide) ?_
  refine z_istore_n (lv' := [(1, .int 0), (0, .ref v0)]) (zat dd_X10_off 3 rfl) rfl (Nat.le_of_ble_eq_true rfl) rfl ?_
  refine z_iconst (x := 0) (zat dd_X10_off 4 rfl) (by decide) ?_
  refine z_istore_n (lv' := [(2, .int 0), (1, .int 0), (0, .ref v0)]) (zat dd_X10_off 5 rfl) rfl (Nat.le_of_ble_eq_true rfl) rfl ?_
  refine z_sub [2, 1, 0] rfl ?_
  exact zb_X10_off_8 Y zF v0 0 0 h1
/-! PaperDollsModel.going(I)I -/
def L_X10_going : List (Nat × Instr × Nat) := [(0, .aload_n 0, 1), (1, .iload_n 1, 1), (2, .invokevirtual 165, 3), (5, .ifCond .ne 8, 3), (8, .aload_n 0, 1), (9, .invokevirtual 85, 3), (12, .ireturn, 1), (13, .iconst 0, 1), (14, .istore_n 2, 1), (15, .iconst 0, 1), (16, .istore_n 3, 1), (17, .iload_n 3, 1), (18, .aload_n 0, 1), (19, .getfield 7, 3), (22, .iconst 0, 1), (23, .iaload, 1), (24, .if_icmp .ge 28, 3), (27, .iload_n 2, 1), (28, .aload_n 0, 1), (29, .iload_n 1, 1), (30, .iload_n 3, 1), (31, .invokevirtual 186, 3), (34, .ifCond .eq 9, 3), (37, .iconst 1, 1), (38, .iload_n 3, 1), (39, .ishl, 1), (40, .goto 4, 3), (43, .iconst 0, 1), (44, .ior, 1), (45, .istore_n 2, 1), (46, .iinc 3 1, 3), (49, .goto (-32), 3), (52, .iload_n 2, 1), (53, .ireturn, 1)]
theorem dd_X10_going : ∀ q ∈ L_X10_going, decode cX10_going q.1 = .ok q.2 := by decide +kernel
abbrev M_X10_going : zM := (cX10_going, RX10, "going", 4, some .int, 2, 0, 0)
theorem u_X10_going : zCal yX10_going (M_X10_going) 1 := ⟨(zmem 1048 (by decide +kernel) rfl : Cond.code yX10_going cX10_going 4 (some .int) ∈ zTb), zmem 63 (by decide +kernel) rfl, by decide +kernel, Nat.le_of_ble_eq_true rfl⟩
theorem qi_X10_going : Cond.instanceMethod yX10_going ∈ zTb := zmem 1046 (by decide +kernel) rfl
theorem qs_X10_going : Cond.selects yX10_going.cls yX10_going yX10_going ∈ zTb := zmem 1047 (by decide +kernel) rfl
def f_X10_going_44 (k17 : Nat → Int32 → Int32 → Int32 → zH → zR) (v0 : Nat) (v1 : Int32) (v3 : Int32) (t0 : Int32) (t1 : Int32) (h : zH) : zR :=
  zlt (t1 ||| t0) fun x1 =>
  k17 v0 v1 x1 (v3 + 1) h
set_option maxRecDepth 100000 in
set_option maxHeartbeats 4000000 in
theorem zb_X10_going_44 (Y : zY) (k17 : Nat → Int32 → Int32 → Int32 → zH → zR) (hk17 : ∀ (v0 : Nat) (v1 : Int32) (v2 : Int32) (v3 : Int32) (h : zH), Z Y M_X10_going 0 0 17 [(0, .ref v0), (1, .int v1), (2, .int v2), (3, .int v3)] [] h (k17 v0 v1 v2 v3 h)) (v0 : Nat) (v1 : Int32) (v3 : Int32) (t0 : Int32) (t1 : Int32) (h : zH) : Z Y M_X10_going 0 0 44 [(0, .ref v0), (1, .int v1), (3, .int v3)] [.int t0, .int t1] h (f_X10_going_44 k17 v0 v1 v3 t0 t1 h) := by
  rw [f_X10_going_44]
  refine z_ior (zat dd_X10_going 28 rfl) ?_
  refine z_let (fun x1 => ?_)
  refine z_istore_n (lv' := [(2, .int x1), (0, .ref v0), (1, .int v1), (3, .int v3)]) (zat dd_X10_going 29 rfl) rfl (Nat.le_of_ble_eq_true rfl) rfl ?_
  refine z_iinc (y := v3 + 1) (lv' := [(3, .int (v3 + 1)), (2, .int x1), (0, .ref v0), (1, .int v1)]) 3 (zat dd_X10_going 30 rfl) rfl rfl (Nat.le_of_ble_eq_true rfl) rfl ?_
  refine z_goto (tgt := 17) (zat dd_X10_going 31 rfl) (by decide) ?_
  refine z_sub [2, 3, 1, 0] rfl ?_
  exact hk17 v0 v1 x1 (v3 + 1) h
def f_X10_going_17 : Nat → Nat → Int32 → Int32 → Int32 → zH → zR
  | 0, _, _, _, _, _ => none
  | n + 1, v0, v1, v2, v3, h =>
  zgR h v0 6 0 fun a1 =>
  zaI h a1 0 0 fun x2 =>
  if x2 ≤ v3 then
  zrI v2 h
  else
  zoc h v0 6 <|
  zcI (f_X10_areGoing v0 v1 v3 h) fun x3 h4 =>
  if x3 = 0 then
  f_X10_going_44 (f_X10_going_17 n) v0 v1 v3 0 v2 h4
  else
  f_X10_going_44 (f_X10_going_17 n) v0 v1 v3 (1 <<< (v3 &&& 31)) v2 h4
set_option maxRecDepth 100000 in
set_option maxHeartbeats 4000000 in
theorem zb_X10_going_17 (Y : zY) : ∀ (n : Nat) (v0 : Nat) (v1 : Int32) (v2 : Int32) (v3 : Int32) (h : zH), Z Y M_X10_going 0 0 17 [(0, .ref v0), (1, .int v1), (2, .int v2), (3, .int v3)] [] h (f_X10_going_17 n v0 v1 v2 v3 h) := by
  intro n
  induction n with
  | zero =>
    intro v0 v1 v2 v3 h
    rw [f_X10_going_17]
    exact z_none
  | succ n ih =>
    intro v0 v1 v2 v3 h
    rw [f_X10_going_17]
    refine z_iload_n 3 (zat dd_X10_going 11 rfl) rfl rfl ?_
    refine z_aload_n 0 (zat dd_X10_going 12 rfl) rfl rfl ?_
    refine z_getR fl_X10_7 (zat dd_X10_going 13 rfl) (fun a1 => ?_)
    refine z_iconst (x := 0) (zat dd_X10_going 14 rfl) (by decide) ?_
    refine z_iald (zat dd_X10_going 15 rfl) (fun x2 => ?_)
    refine z_icmp_ge (tgt := 52) (zat dd_X10_going 16 rfl) (by decide) ?_ ?_
    · refine z_iload_n 2 (zat dd_X10_going 32 rfl) rfl rfl ?_
      exact z_iret rfl (zat dd_X10_going 33 rfl)
    · refine z_iload_n 2 (zat dd_X10_going 17 rfl) rfl rfl ?_
      refine z_aload_n 0 (zat dd_X10_going 18 rfl) rfl rfl ?_
      refine z_iload_n 1 (zat dd_X10_going 19 rfl) rfl rfl ?_
      refine z_iload_n 3 (zat dd_X10_going 20 rfl) rfl rfl ?_
      refine z_callV_I0 (M2 := M_X10_areGoing) [.int v1, .int v3] (fun l D _ _ => m_X10_areGoing l D v0 v1 v3 h) u_X10_areGoing ql_X10_186 qi_X10_areGoing qs_X10_areGoing (ci := 6) rfl rfl rfl (Nat.le_of_ble_eq_true rfl) (by decide) rfl rfl (zat dd_X10_going 21 rfl) (fun x3 h4 => ?_)
      refine z_if_eq (tgt := 43) (zat dd_X10_going 22 rfl) (by decide) ?_ ?_
      · refine z_iconst (x := 0) (zat dd_X10_going 27 rfl) (by decide) ?_
        refine z_sub [0, 1, 3] rfl ?_
        exact zb_X10_going_44 Y (f_X10_going_17 n) ih v0 v1 v3 0 v2 h4
      · refine z_iconst (x := 1) (zat dd_X10_going 23 rfl) (by decide) ?_
        refine z_iload_n 3 (zat dd_X10_going 24 rfl) rfl rfl ?_
        refine z_ishl (zat dd_X10_going 25 rfl) ?_
        refine z_goto (tgt := 44) (zat dd_X10_going 26 rfl) (by decide) ?_
        refine z_sub [0, 1, 3] rfl ?_
        exact zb_X10_going_44 Y (f_X10_going_17 n) ih v0 v1 v3 (1 <<< (v3 &&& 31)) v2 h4
def f_X10_going (v0 : Nat) (v1 : Int32) (h : zH) : zR :=
  zoc h v0 6 <|
  zcI (f_X10_isPiece v0 v1 h) fun x1 h2 =>
  if x1 = 0 then
  zoc h2 v0 6 <|
  zcI (f_X10_bad v0 h2) fun x3 h4 =>
  zrI x3 h4
  else
  f_X10_going_17 zF v0 v1 0 0 h2
set_option maxRecDepth 100000 in
set_option maxHeartbeats 4000000 in
theorem m_X10_going (l : Launch) (D : zD) (v0 : Nat) (v1 : Int32) (h : zH) : zMet l D yX10_going M_X10_going [.ref v0, .int v1] h (f_X10_going v0 v1 h) := by
  refine zMet.of (by decide +kernel) ⟨rfl, rfl⟩ (Nat.le_of_ble_eq_true rfl) (fun Y hl hD => ?_)
  show Z Y M_X10_going 0 0 0 [(0, .ref v0), (1, .int v1)] [] h _
  rw [f_X10_going]
  refine z_aload_n 0 (zat dd_X10_going 0 rfl) rfl rfl ?_
  refine z_iload_n 1 (zat dd_X10_going 1 rfl) rfl rfl ?_
  refine z_callV_I0 (M2 := M_X10_isPiece) [.int v1] (fun l D _ _ => m_X10_isPiece l D v0 v1 h) u_X10_isPiece ql_X10_165 qi_X10_isPiece qs_X10_isPiece (ci := 6) rfl rfl rfl (Nat.le_of_ble_eq_true rfl) (by decide) rfl rfl (zat dd_X10_going 2 rfl) (fun x1 h2 => ?_)
  refine z_if_ne (tgt := 13) (zat dd_X10_going 3 rfl) (by decide) ?_ ?_
  · refine z_iconst (x := 0) (zat dd_X10_going 7 rfl) (by decide) ?_
    refine z_istore_n (lv' := [(2, .int 0), (0, .ref v0), (1, .int v1)]) (zat dd_X10_going 8 rfl) rfl (Nat.le_of_ble_eq_true rfl) rfl ?_
    refine z_iconst (x := 0) (zat dd_X10_going 9 rfl) (by decide) ?_
    refine z_istore_n (lv' := [(3, .int 0), (2, .int 0), (0, .ref v0), (1, .int v1)]) (zat dd_X10_going 10 rfl) rfl (Nat.le_of_ble_eq_true rfl) rfl ?_
    refine z_sub [2, 3, 1, 0] rfl ?_
    exact zb_X10_going_17 Y zF v0 v1 0 0 h2
  · refine z_aload_n 0 (zat dd_X10_going 4 rfl) rfl rfl ?_
    refine z_callV_I0 (M2 := M_X10_bad) [] (fun l D _ _ => m_X10_bad l D v0 h2) u_X10_bad ql_X10_85 qi_X10_bad qs_X10_bad (ci := 6) rfl rfl rfl (Nat.le_of_ble_eq_true rfl) (by decide) rfl rfl (zat dd_X10_going 5 rfl) (fun x3 h4 => ?_)
    exact z_iret rfl (zat dd_X10_going 6 rfl)
/-! PaperDollsModel.coveredBy(I)I -/
def L_X10_coveredBy : List (Nat × Instr × Nat) := [(0, .iconst 0, 1), (1, .istore_n 2, 1), (2, .iconst 0, 1), (3, .istore_n 3, 1), (4, .iload_n 3, 1), (5, .aload_n 0, 1), (6, .getfield 7, 3), (9, .iconst 0, 1), (10, .iaload, 1), (11, .if_icmp .ge 36, 3), (14, .iload_n 2, 1), (15, .iload_n 1, 1), (16, .iload_n 3, 1), (17, .invokestatic 180, 3), (20, .ifCond .eq 18, 3), (23, .aload_n 0, 1), (24, .getfield 7, 3), (27, .bipush 12, 2), (29, .iload_n 3, 1), (30, .iadd, 1), (31, .iaload, 1), (32, .invokestatic 63, 3), (35, .goto 4, 3), (38, .iconst 0, 1), (39, .ior, 1), (40, .istore_n 2, 1), (41, .iinc 3 1, 3), (44, .goto (-40), 3), (47, .iload_n 2, 1), (48, .ireturn, 1)]
theorem dd_X10_coveredBy : ∀ q ∈ L_X10_coveredBy, decode cX10_coveredBy q.1 = .ok q.2 := by decide +kernel
abbrev M_X10_coveredBy : zM := (cX10_coveredBy, RX10, "coveredBy", 4, some .int, 1, 0, 0)
theorem u_X10_coveredBy : zCal yX10_coveredBy (M_X10_coveredBy) 1 := ⟨(zmem 1072 (by decide +kernel) rfl : Cond.code yX10_coveredBy cX10_coveredBy 4 (some .int) ∈ zTb), zmem 63 (by decide +kernel) rfl, by decide +kernel, Nat.le_of_ble_eq_true rfl⟩
theorem qi_X10_coveredBy : Cond.instanceMethod yX10_coveredBy ∈ zTb := zmem 1071 (by decide +kernel) rfl
theorem qs_X10_coveredBy : Cond.selects yX10_coveredBy.cls yX10_coveredBy yX10_coveredBy ∈ zTb := zmem 46 (by decide +kernel) rfl
def f_X10_coveredBy_39 (k4 : Nat → Int32 → Int32 → Int32 → zH → zR) (v0 : Nat) (v1 : Int32) (v3 : Int32) (t0 : Int32) (t1 : Int32) (h : zH) : zR :=
  zlt (t1 ||| t0) fun x1 =>
  k4 v0 v1 x1 (v3 + 1) h
set_option maxRecDepth 100000 in
set_option maxHeartbeats 4000000 in
theorem zb_X10_coveredBy_39 (Y : zY) (k4 : Nat → Int32 → Int32 → Int32 → zH → zR) (hk4 : ∀ (v0 : Nat) (v1 : Int32) (v2 : Int32) (v3 : Int32) (h : zH), Z Y M_X10_coveredBy 0 0 4 [(0, .ref v0), (1, .int v1), (2, .int v2), (3, .int v3)] [] h (k4 v0 v1 v2 v3 h)) (v0 : Nat) (v1 : Int32) (v3 : Int32) (t0 : Int32) (t1 : Int32) (h : zH) : Z Y M_X10_coveredBy 0 0 39 [(0, .ref v0), (1, .int v1), (3, .int v3)] [.int t0, .int t1] h (f_X10_coveredBy_39 k4 v0 v1 v3 t0 t1 h) := by
  rw [f_X10_coveredBy_39]
  refine z_ior (zat dd_X10_coveredBy 24 rfl) ?_
  refine z_let (fun x1 => ?_)
  refine z_istore_n (lv' := [(2, .int x1), (0, .ref v0), (1, .int v1), (3, .int v3)]) (zat dd_X10_coveredBy 25 rfl) rfl (Nat.le_of_ble_eq_true rfl) rfl ?_
  refine z_iinc (y := v3 + 1) (lv' := [(3, .int (v3 + 1)), (2, .int x1), (0, .ref v0), (1, .int v1)]) 3 (zat dd_X10_coveredBy 26 rfl) rfl rfl (Nat.le_of_ble_eq_true rfl) rfl ?_
  refine z_goto (tgt := 4) (zat dd_X10_coveredBy 27 rfl) (by decide) ?_
  refine z_sub [2, 3, 1, 0] rfl ?_
  exact hk4 v0 v1 x1 (v3 + 1) h
def f_X10_coveredBy_4 : Nat → Nat → Int32 → Int32 → Int32 → zH → zR
  | 0, _, _, _, _, _ => none
  | n + 1, v0, v1, v2, v3, h =>
  zgR h v0 6 0 fun a1 =>
  zaI h a1 0 0 fun x2 =>
  if x2 ≤ v3 then
  zrI v2 h
  else
  zcI (f_X10_has v1 v3 h) fun x3 h4 =>
  if x3 = 0 then
  f_X10_coveredBy_39 (f_X10_coveredBy_4 n) v0 v1 v3 0 v2 h4
  else
  zgR h4 v0 6 0 fun a5 =>
  zaI h4 a5 0 (12 + v3) fun x6 =>
  zcI (f_X10_covers x6 h4) fun x7 h8 =>
  f_X10_coveredBy_39 (f_X10_coveredBy_4 n) v0 v1 v3 x7 v2 h8
set_option maxRecDepth 100000 in
set_option maxHeartbeats 4000000 in
theorem zb_X10_coveredBy_4 (Y : zY) : ∀ (n : Nat) (v0 : Nat) (v1 : Int32) (v2 : Int32) (v3 : Int32) (h : zH), Z Y M_X10_coveredBy 0 0 4 [(0, .ref v0), (1, .int v1), (2, .int v2), (3, .int v3)] [] h (f_X10_coveredBy_4 n v0 v1 v2 v3 h) := by
  intro n
  induction n with
  | zero =>
    intro v0 v1 v2 v3 h
    rw [f_X10_coveredBy_4]
    exact z_none
  | succ n ih =>
    intro v0 v1 v2 v3 h
    rw [f_X10_coveredBy_4]
    refine z_iload_n 3 (zat dd_X10_coveredBy 4 rfl) rfl rfl ?_
    refine z_aload_n 0 (zat dd_X10_coveredBy 5 rfl) rfl rfl ?_
    refine z_getR fl_X10_7 (zat dd_X10_coveredBy 6 rfl) (fun a1 => ?_)
    refine z_iconst (x := 0) (zat dd_X10_coveredBy 7 rfl) (by decide) ?_
    refine z_iald (zat dd_X10_coveredBy 8 rfl) (fun x2 => ?_)
    refine z_icmp_ge (tgt := 47) (zat dd_X10_coveredBy 9 rfl) (by decide) ?_ ?_
    · refine z_iload_n 2 (zat dd_X10_coveredBy 28 rfl) rfl rfl ?_
      exact z_iret rfl (zat dd_X10_coveredBy 29 rfl)
    · refine z_iload_n 2 (zat dd_X10_coveredBy 10 rfl) rfl rfl ?_
      refine z_iload_n 1 (zat dd_X10_coveredBy 11 rfl) rfl rfl ?_
      refine z_iload_n 3 (zat dd_X10_coveredBy 12 rfl) rfl rfl ?_
      refine z_callS_I0 (M2 := M_X10_has) [.int v1, .int v3] (fun l D _ _ => m_X10_has l D v1 v3 h) u_X10_has ql_X10_180 qi_X10_has rfl rfl (Nat.le_of_ble_eq_true rfl) (by decide) rfl rfl (zat dd_X10_coveredBy 13 rfl) (fun x3 h4 => ?_)
      refine z_if_eq (tgt := 38) (zat dd_X10_coveredBy 14 rfl) (by decide) ?_ ?_
      · refine z_iconst (x := 0) (zat dd_X10_coveredBy 23 rfl) (by decide) ?_
        refine z_sub [0, 1, 3] rfl ?_
        exact zb_X10_coveredBy_39 Y (f_X10_coveredBy_4 n) ih v0 v1 v3 0 v2 h4
      · refine z_aload_n 0 (zat dd_X10_coveredBy 15 rfl) rfl rfl ?_
        refine z_getR fl_X10_7 (zat dd_X10_coveredBy 16 rfl) (fun a5 => ?_)
        refine z_bipush (x := 12) (zat dd_X10_coveredBy 17 rfl) (by decide) ?_
        refine z_iload_n 3 (zat dd_X10_coveredBy 18 rfl) rfl rfl ?_
        refine z_iadd (zat dd_X10_coveredBy 19 rfl) ?_
        refine z_iald (zat dd_X10_coveredBy 20 rfl) (fun x6 => ?_)
        refine z_callS_I0 (M2 := M_X10_covers) [.int x6] (fun l D _ _ => m_X10_covers l D x6 h4) u_X10_covers ql_X10_63 qi_X10_covers rfl rfl (Nat.le_of_ble_eq_true rfl) (by decide) rfl rfl (zat dd_X10_coveredBy 21 rfl) (fun x7 h8 => ?_)
        refine z_goto (tgt := 39) (zat dd_X10_coveredBy 22 rfl) (by decide) ?_
        refine z_sub [0, 1, 3] rfl ?_
        exact zb_X10_coveredBy_39 Y (f_X10_coveredBy_4 n) ih v0 v1 v3 x7 v2 h8
def f_X10_coveredBy (v0 : Nat) (v1 : Int32) (h : zH) : zR :=
  f_X10_coveredBy_4 zF v0 v1 0 0 h
set_option maxRecDepth 100000 in
set_option maxHeartbeats 4000000 in
theorem m_X10_coveredBy (l : Launch) (D : zD) (v0 : Nat) (v1 : Int32) (h : zH) : zMet l D yX10_coveredBy M_X10_coveredBy [.ref v0, .int v1] h (f_X10_coveredBy v0 v1 h) := by
  refine zMet.of (by decide +kernel) ⟨rfl, rfl⟩ (Nat.le_of_ble_eq_true rfl) (fun Y hl hD => ?_)
  show Z Y M_X10_coveredBy 0 0 0 [(0, .ref v0), (1, .int v1)] [] h _
  rw [f_X10_coveredBy]
  refine z_iconst (x := 0) (zat dd_X10_coveredBy 0 rfl) (by decide) ?_
  refine z_istore_n (lv' := [(2, .int 0), (0, .ref v0), (1, .int v1)]) (zat dd_X10_coveredBy 1 rfl) rfl (Nat.le_of_ble_eq_true rfl) rfl ?_
  refine z_iconst (x := 0) (zat dd_X10_coveredBy 2 rfl) (by decide) ?_
  refine z_istore_n (lv' := [(3, .int 0), (2, .int 0), (0, .ref v0), (1, .int v1)]) (zat dd_X10_coveredBy 3 rfl) rfl (Nat.le_of_ble_eq_true rfl) rfl ?_
  refine z_sub [2, 3, 1, 0] rfl ?_
  exact zb_X10_coveredBy_4 Y zF v0 v1 0 0 h
/-! PaperDollsModel.isOutfit(I)Z -/
def L_X10_isOutfit : List (Nat × Instr × Nat) := [(0, .aload_n 0, 1), (1, .iload_n 1, 1), (2, .invokevirtual 189, 3), (5, .bipush 15, 2), (7, .if_icmp .ne 7, 3), (10, .iconst 1, 1), (11, .goto 4, 3), (14, .iconst 0, 1), (15, .istore_n 2, 1), (16, .iconst 0, 1), (17, .istore_n 3, 1), (18, .iload_n 3, 1), (19, .aload_n 0, 1), (20, .getfield 7, 3), (23, .iconst 0, 1), (24, .iaload, 1), (25, .if_icmp .ge 121, 3), (28, .iload_n 2, 1), (29, .ifCond .eq 117, 3), (32, .iload_n 1, 1), (33, .iload_n 3, 1), (34, .invokestatic 180, 3), (37, .ifCond .eq 103, 3), (40, .aload_n 0, 1), (41, .getfield 7, 3), (44, .bipush 12, 2), (46, .iload_n 3, 1), (47, .iadd, 1), (48, .iaload, 1), (49, .aload_n 0, 1), (50, .getfield 7, 3), (53, .bipush 28, 2), (55, .iload_n 3, 1), (56, .iadd, 1), (57, .iaload, 1), (58, .aload_n 0, 1), (59, .getfield 7, 3), (62, .bipush 36, 2), (64, .iload_n 3, 1), (65, .iadd, 1), (66, .iaload, 1), (67, .invokestatic 52, 3), (70, .iconst 1, 1), (71, .if_icmp .lt 23, 3), (74, .aload_n 0, 1), (75, .iload_n 1, 1), (76, .iconst 1, 1), (77, .iload_n 3, 1), (78, .ishl, 1), (79, .iconst (-1), 1), (80, .ixor, 1), (81, .iand, 1), (82, .invokevirtual 189, 3), (85, .bipush 15, 2), (87, .if_icmp .eq 7, 3), (90, .iconst 1, 1), (91, .goto 4, 3), (94, .iconst 0, 1), (95, .istore_n 2, 1), (96, .iconst 0, 1), (97, .istore 4, 2), (99, .iload 4, 2), (101, .iload_n 3, 1), (102, .if_icmp .ge 38, 3), (105, .iload_n 2, 1), (106, .ifCond .eq 26, 3), (109, .iload_n 1, 1), (110, .iload 4, 2), (112, .invokestatic 180, 3), (115, .ifCond .eq 13, 3), (118, .aload_n 0, 1), (119, .iload_n 3, 1), (120, .iload 4, 2), (122, .invokevirtual 186, 3), (125, .ifCond .eq 7, 3), (128, .iconst 1, 1), (129, .goto 4, 3), (132, .iconst 0, 1), (133, .istore_n 2, 1), (134, .iinc 4 1, 3), (137, .goto (-38), 3), (140, .iinc 3 1, 3), (143, .goto (-125), 3), (146, .iload_n 2, 1), (147, .ireturn, 1)]
theorem dd_X10_isOutfit : ∀ q ∈ L_X10_isOutfit, decode cX10_isOutfit q.1 = .ok q.2 := by decide +kernel
abbrev M_X10_isOutfit : zM := (cX10_isOutfit, RX10, "isOutfit", 5, some .boolean, 2, 0, 0)
theorem u_X10_isOutfit : zCal yX10_isOutfit (M_X10_isOutfit) 1 := ⟨(zmem 1068 (by decide +kernel) rfl : Cond.code yX10_isOutfit cX10_isOutfit 5 (some .boolean) ∈ zTb), zmem 63 (by decide +kernel) rfl, by decide +kernel, Nat.le_of_ble_eq_true rfl⟩
theorem qi_X10_isOutfit : Cond.instanceMethod yX10_isOutfit ∈ zTb := zmem 1067 (by decide +kernel) rfl
theorem qs_X10_isOutfit : Cond.selects yX10_isOutfit.cls yX10_isOutfit yX10_isOutfit ∈ zTb := zmem 45 (by decide +kernel) rfl
def f_X10_isOutfit_146 (v2 : Int32) (h : zH) : zR :=
  zrZ v2 h
set_option maxRecDepth 100000 in
set_option maxHeartbeats 4000000 in
theorem zb_X10_isOutfit_146 (Y : zY) (v2 : Int32) (h : zH) : Z Y M_X10_isOutfit 0 0 146 [(2, .int v2)] [] h (f_X10_isOutfit_146 v2 h) := by
  rw [f_X10_isOutfit_146]
  refine z_iload_n 0 (zat dd_X10_isOutfit 83 rfl) rfl rfl ?_
  exact z_zret rfl (zat dd_X10_isOutfit 84 rfl)
def f_X10_isOutfit_140 (k18 : Nat → Int32 → Int32 → Int32 → zH → zR) (v0 : Nat) (v1 : Int32) (v2 : Int32) (v3 : Int32) (h : zH) : zR :=
  k18 v0 v1 v2 (v3 + 1) h
set_option maxRecDepth 100000 in
set_option maxHeartbeats 4000000 in
theorem zb_X10_isOutfit_140 (Y : zY) (k18 : Nat → Int32 → Int32 → Int32 → zH → zR) (hk18 : ∀ (v0 : Nat) (v1 : Int32) (v2 : Int32) (v3 : Int32) (h : zH), Z Y M_X10_isOutfit 0 0 18 [(0, .ref v0), (1, .int v1), (2, .int v2), (3, .int v3)] [] h (k18 v0 v1 v2 v3 h)) (v0 : Nat) (v1 : Int32) (v2 : Int32) (v3 : Int32) (h : zH) : Z Y M_X10_isOutfit 0 0 140 [(0, .ref v0), (1, .int v1), (2, .int v2), (3, .int v3)] [] h (f_X10_isOutfit_140 k18 v0 v1 v2 v3 h) := by
  rw [f_X10_isOutfit_140]
  refine z_iinc (y := v3 + 1) (lv' := [(3, .int (v3 + 1)), (0, .ref v0), (1, .int v1), (2, .int v2)]) 3 (zat dd_X10_isOutfit 81 rfl) rfl rfl (Nat.le_of_ble_eq_true rfl) rfl ?_
  refine z_goto (tgt := 18) (zat dd_X10_isOutfit 82 rfl) (by decide) ?_
  refine z_sub [1, 2, 3, 0] rfl ?_
  exact hk18 v0 v1 v2 (v3 + 1) h
def f_X10_isOutfit_133 (k99 : Nat → Int32 → Int32 → Int32 → Int32 → zH → zR) (v0 : Nat) (v1 : Int32) (v3 : Int32) (v4 : Int32) (t0 : Int32) (h : zH) : zR :=
  k99 v0 v1 t0 v3 (v4 + 1) h
set_option maxRecDepth 100000 in
set_option maxHeartbeats 4000000 in
theorem zb_X10_isOutfit_133 (Y : zY) (k99 : Nat → Int32 → Int32 → Int32 → Int32 → zH → zR) (hk99 : ∀ (v0 : Nat) (v1 : Int32) (v2 : Int32) (v3 : Int32) (v4 : Int32) (h : zH), Z Y M_X10_isOutfit 0 0 99 [(0, .ref v0), (1, .int v1), (2, .int v2), (3, .int v3), (4, .int v4)] [] h (k99 v0 v1 v2 v3 v4 h)) (v0 : Nat) (v1 : Int32) (v3 : Int32) (v4 : Int32) (t0 : Int32) (h : zH) : Z Y M_X10_isOutfit 0 0 133 [(0, .ref v0), (1, .int v1), (3, .int v3), (4, .int v4)] [.int t0] h (f_X10_isOutfit_133 k99 v0 v1 v3 v4 t0 h) := by
  rw [f_X10_isOutfit_133]
  refine z_istore_n (lv' := [(2, .int t0), (0, .ref v0), (1, .int v1), (3, .int v3), (4, .int v4)]) (zat dd_X10_isOutfit 78 rfl) rfl (Nat.le_of_ble_eq_true rfl) rfl ?_
  refine z_iinc (y := v4 + 1) (lv' := [(4, .int (v4 + 1)), (2, .int t0), (0, .ref v0), (1, .int v1), (3, .int v3)]) 4 (zat dd_X10_isOutfit 79 rfl) rfl rfl (Nat.le_of_ble_eq_true rfl) rfl ?_
  refine z_goto (tgt := 99) (zat dd_X10_isOutfit 80 rfl) (by decide) ?_
  refine z_sub [2, 3, 1, 4, 0] rfl ?_
  exact hk99 v0 v1 t0 v3 (v4 + 1) h
def f_X10_isOutfit_132 (k99 : Nat → Int32 → Int32 → Int32 → Int32 → zH → zR) (v0 : Nat) (v1 : Int32) (v3 : Int32) (v4 : Int32) (h : zH) : zR :=
  f_X10_isOutfit_133 k99 v0 v1 v3 v4 0 h
set_option maxRecDepth 100000 in
set_option maxHeartbeats 4000000 in
theorem zb_X10_isOutfit_132 (Y : zY) (k99 : Nat → Int32 → Int32 → Int32 → Int32 → zH → zR) (hk99 : ∀ (v0 : Nat) (v1 : Int32) (v2 : Int32) (v3 : Int32) (v4 : Int32) (h : zH), Z Y M_X10_isOutfit 0 0 99 [(0, .ref v0), (1, .int v1), (2, .int v2), (3, .int v3), (4, .int v4)] [] h (k99 v0 v1 v2 v3 v4 h)) (v0 : Nat) (v1 : Int32) (v3 : Int32) (v4 : Int32) (h : zH) : Z Y M_X10_isOutfit 0 0 132 [(0, .ref v0), (1, .int v1), (3, .int v3), (4, .int v4)] [] h (f_X10_isOutfit_132 k99 v0 v1 v3 v4 h) := by
  rw [f_X10_isOutfit_132]
  refine z_iconst (x := 0) (zat dd_X10_isOutfit 77 rfl) (by decide) ?_
  exact zb_X10_isOutfit_133 Y k99 hk99 v0 v1 v3 v4 0 h
def f_X10_isOutfit_128 (k99 : Nat → Int32 → Int32 → Int32 → Int32 → zH → zR) (v0 : Nat) (v1 : Int32) (v3 : Int32) (v4 : Int32) (h : zH) : zR :=
  f_X10_isOutfit_133 k99 v0 v1 v3 v4 1 h
set_option maxRecDepth 100000 in
set_option maxHeartbeats 4000000 in
theorem zb_X10_isOutfit_128 (Y : zY) (k99 : Nat → Int32 → Int32 → Int32 → Int32 → zH → zR) (hk99 : ∀ (v0 : Nat) (v1 : Int32) (v2 : Int32) (v3 : Int32) (v4 : Int32) (h : zH), Z Y M_X10_isOutfit 0 0 99 [(0, .ref v0), (1, .int v1), (2, .int v2), (3, .int v3), (4, .int v4)] [] h (k99 v0 v1 v2 v3 v4 h)) (v0 : Nat) (v1 : Int32) (v3 : Int32) (v4 : Int32) (h : zH) : Z Y M_X10_isOutfit 0 0 128 [(0, .ref v0), (1, .int v1), (3, .int v3), (4, .int v4)] [] h (f_X10_isOutfit_128 k99 v0 v1 v3 v4 h) := by
  rw [f_X10_isOutfit_128]
  refine z_iconst (x := 1) (zat dd_X10_isOutfit 75 rfl) (by decide) ?_
  refine z_goto (tgt := 133) (zat dd_X10_isOutfit 76 rfl) (by decide) ?_
  exact zb_X10_isOutfit_133 Y k99 hk99 v0 v1 v3 v4 1 h
def f_X10_isOutfit_99 (k18 : Nat → Int32 → Int32 → Int32 → zH → zR) : Nat → Nat → Int32 → Int32 → Int32 → Int32 → zH → zR
  | 0, _, _, _, _, _, _ => none
  | n + 1, v0, v1, v2, v3, v4, h =>
  if v3 ≤ v4 then
  f_X10_isOutfit_140 k18 v0 v1 v2 v3 h
  else
  if v2 = 0 then
  f_X10_isOutfit_132 (f_X10_isOutfit_99 k18 n) v0 v1 v3 v4 h
  else
  zcI (f_X10_has v1 v4 h) fun x1 h2 =>
  if x1 = 0 then
  f_X10_isOutfit_128 (f_X10_isOutfit_99 k18 n) v0 v1 v3 v4 h2
  else
  zoc h2 v0 6 <|
  zcI (f_X10_areGoing v0 v3 v4 h2) fun x3 h4 =>
  if x3 = 0 then
  f_X10_isOutfit_132 (f_X10_isOutfit_99 k18 n) v0 v1 v3 v4 h4
  else
  f_X10_isOutfit_128 (f_X10_isOutfit_99 k18 n) v0 v1 v3 v4 h4
set_option maxRecDepth 100000 in
set_option maxHeartbeats 4000000 in
theorem zb_X10_isOutfit_99 (Y : zY) (k18 : Nat → Int32 → Int32 → Int32 → zH → zR) (hk18 : ∀ (v0 : Nat) (v1 : Int32) (v2 : Int32) (v3 : Int32) (h : zH), Z Y M_X10_isOutfit 0 0 18 [(0, .ref v0), (1, .int v1), (2, .int v2), (3, .int v3)] [] h (k18 v0 v1 v2 v3 h)) : ∀ (n : Nat) (v0 : Nat) (v1 : Int32) (v2 : Int32) (v3 : Int32) (v4 : Int32) (h : zH), Z Y M_X10_isOutfit 0 0 99 [(0, .ref v0), (1, .int v1), (2, .int v2), (3, .int v3), (4, .int v4)] [] h (f_X10_isOutfit_99 k18 n v0 v1 v2 v3 v4 h) := by
  intro n
  induction n with
  | zero =>
    intro v0 v1 v2 v3 v4 h
    rw [f_X10_isOutfit_99]
    exact z_none
  | succ n ih =>
    intro v0 v1 v2 v3 v4 h
    rw [f_X10_isOutfit_99]
    refine z_iload 4 (zat dd_X10_isOutfit 61 rfl) rfl ?_
    refine z_iload_n 3 (zat dd_X10_isOutfit 62 rfl) rfl rfl ?_
    refine z_icmp_ge (tgt := 140) (zat dd_X10_isOutfit 63 rfl) (by decide) ?_ ?_
    · refine z_sub [0, 1, 2, 3] rfl ?_
      exact zb_X10_isOutfit_140 Y k18 hk18 v0 v1 v2 v3 h
    · refine z_iload_n 2 (zat dd_X10_isOutfit 64 rfl) rfl rfl ?_
      refine z_if_eq (tgt := 132) (zat dd_X10_isOutfit 65 rfl) (by decide) ?_ ?_
      · refine z_sub [0, 1, 3, 4] rfl ?_
        exact zb_X10_isOutfit_132 Y (f_X10_isOutfit_99 k18 n) ih v0 v1 v3 v4 h
      · refine z_iload_n 1 (zat dd_X10_isOutfit 66 rfl) rfl rfl ?_
        refine z_iload 4 (zat dd_X10_isOutfit 67 rfl) rfl ?_
        refine z_callS_I0 (M2 := M_X10_has) [.int v1, .int v4] (fun l D _ _ => m_X10_has l D v1 v4 h) u_X10_has ql_X10_180 qi_X10_has rfl rfl (Nat.le_of_ble_eq_true rfl) (by decide) rfl rfl (zat dd_X10_isOutfit 68 rfl) (fun x1 h2 => ?_)
        refine z_if_eq (tgt := 128) (zat dd_X10_isOutfit 69 rfl) (by decide) ?_ ?_
        · refine z_sub [0, 1, 3, 4] rfl ?_
          exact zb_X10_isOutfit_128 Y (f_X10_isOutfit_99 k18 n) ih v0 v1 v3 v4 h2
        · refine z_aload_n 0 (zat dd_X10_isOutfit 70 rfl) rfl rfl ?_
          refine z_iload_n 3 (zat dd_X10_isOutfit 71 rfl) rfl rfl ?_
          refine z_iload 4 (zat dd_X10_isOutfit 72 rfl) rfl ?_
          refine z_callV_I0 (M2 := M_X10_areGoing) [.int v3, .int v4] (fun l D _ _ => m_X10_areGoing l D v0 v3 v4 h2) u_X10_areGoing ql_X10_186 qi_X10_areGoing qs_X10_areGoing (ci := 6) rfl rfl rfl (Nat.le_of_ble_eq_true rfl) (by decide) rfl rfl (zat dd_X10_isOutfit 73 rfl) (fun x3 h4 => ?_)
          refine z_if_eq (tgt := 132) (zat dd_X10_isOutfit 74 rfl) (by decide) ?_ ?_
          · refine z_sub [0, 1, 3, 4] rfl ?_
            exact zb_X10_isOutfit_132 Y (f_X10_isOutfit_99 k18 n) ih v0 v1 v3 v4 h4
          · refine z_sub [0, 1, 3, 4] rfl ?_
            exact zb_X10_isOutfit_128 Y (f_X10_isOutfit_99 k18 n) ih v0 v1 v3 v4 h4
def f_X10_isOutfit_95 (k18 : Nat → Int32 → Int32 → Int32 → zH → zR) (v0 : Nat) (v1 : Int32) (v3 : Int32) (t0 : Int32) (h : zH) : zR :=
  f_X10_isOutfit_99 k18 zF v0 v1 t0 v3 0 h
set_option maxRecDepth 100000 in
set_option maxHeartbeats 4000000 in
theorem zb_X10_isOutfit_95 (Y : zY) (k18 : Nat → Int32 → Int32 → Int32 → zH → zR) (hk18 : ∀ (v0 : Nat) (v1 : Int32) (v2 : Int32) (v3 : Int32) (h : zH), Z Y M_X10_isOutfit 0 0 18 [(0, .ref v0), (1, .int v1), (2, .int v2), (3, .int v3)] [] h (k18 v0 v1 v2 v3 h)) (v0 : Nat) (v1 : Int32) (v3 : Int32) (t0 : Int32) (h : zH) : Z Y M_X10_isOutfit 0 0 95 [(0, .ref v0), (1, .int v1), (3, .int v3)] [.int t0] h (f_X10_isOutfit_95 k18 v0 v1 v3 t0 h) := by
  rw [f_X10_isOutfit_95]
  refine z_istore_n (lv' := [(2, .int t0), (0, .ref v0), (1, .int v1), (3, .int v3)]) (zat dd_X10_isOutfit 58 rfl) rfl (Nat.le_of_ble_eq_true rfl) rfl ?_
  refine z_iconst (x := 0) (zat dd_X10_isOutfit 59 rfl) (by decide) ?_
  refine z_istore (lv' := [(4, .int 0), (2, .int t0), (0, .ref v0), (1, .int v1), (3, .int v3)]) (zat dd_X10_isOutfit 60 rfl) (Nat.le_of_ble_eq_true rfl) rfl ?_
  refine z_sub [2, 3, 1, 4, 0] rfl ?_
  exact zb_X10_isOutfit_99 Y k18 hk18 zF v0 v1 t0 v3 0 h
def f_X10_isOutfit_94 (k18 : Nat → Int32 → Int32 → Int32 → zH → zR) (v0 : Nat) (v1 : Int32) (v3 : Int32) (h : zH) : zR :=
  f_X10_isOutfit_95 k18 v0 v1 v3 0 h
set_option maxRecDepth 100000 in
set_option maxHeartbeats 4000000 in
theorem zb_X10_isOutfit_94 (Y : zY) (k18 : Nat → Int32 → Int32 → Int32 → zH → zR) (hk18 : ∀ (v0 : Nat) (v1 : Int32) (v2 : Int32) (v3 : Int32) (h : zH), Z Y M_X10_isOutfit 0 0 18 [(0, .ref v0), (1, .int v1), (2, .int v2), (3, .int v3)] [] h (k18 v0 v1 v2 v3 h)) (v0 : Nat) (v1 : Int32) (v3 : Int32) (h : zH) : Z Y M_X10_isOutfit 0 0 94 [(0, .ref v0), (1, .int v1), (3, .int v3)] [] h (f_X10_isOutfit_94 k18 v0 v1 v3 h) := by
  rw [f_X10_isOutfit_94]
  refine z_iconst (x := 0) (zat dd_X10_isOutfit 57 rfl) (by decide) ?_
  exact zb_X10_isOutfit_95 Y k18 hk18 v0 v1 v3 0 h
def f_X10_isOutfit_18 : Nat → Nat → Int32 → Int32 → Int32 → zH → zR
  | 0, _, _, _, _, _ => none
  | n + 1, v0, v1, v2, v3, h =>
  zgR h v0 6 0 fun a1 =>
  zaI h a1 0 0 fun x2 =>
  if x2 ≤ v3 then
  f_X10_isOutfit_146 v2 h
  else
  if v2 = 0 then
  f_X10_isOutfit_146 v2 h
  else
  zcI (f_X10_has v1 v3 h) fun x3 h4 =>
  if x3 = 0 then
  f_X10_isOutfit_140 (f_X10_isOutfit_18 n) v0 v1 v2 v3 h4
  else
  zgR h4 v0 6 0 fun a5 =>
  zaI h4 a5 0 (12 + v3) fun x6 =>
  zgR h4 v0 6 0 fun a7 =>
  zaI h4 a7 0 (28 + v3) fun x8 =>
  zgR h4 v0 6 0 fun a9 =>
  zaI h4 a9 0 (36 + v3) fun x10 =>
  zcI (f_X10_holds x6 x8 x10 h4) fun x11 h12 =>
  if x11 < 1 then
  f_X10_isOutfit_94 (f_X10_isOutfit_18 n) v0 v1 v3 h12
  else
  zoc h12 v0 6 <|
  zcI (f_X10_coveredBy v0 (v1 &&& ((1 <<< (v3 &&& 31)) ^^^ (-1))) h12) fun x13 h14 =>
  if x13 = 15 then
  f_X10_isOutfit_94 (f_X10_isOutfit_18 n) v0 v1 v3 h14
  else
  f_X10_isOutfit_95 (f_X10_isOutfit_18 n) v0 v1 v3 1 h14
set_option maxRecDepth 100000 in
set_option maxHeartbeats 4000000 in
theorem zb_X10_isOutfit_18 (Y : zY) : ∀ (n : Nat) (v0 : Nat) (v1 : Int32) (v2 : Int32) (v3 : Int32) (h : zH), Z Y M_X10_isOutfit 0 0 18 [(0, .ref v0), (1, .int v1), (2, .int v2), (3, .int v3)] [] h (f_X10_isOutfit_18 n v0 v1 v2 v3 h) := by
  intro n
  induction n with
  | zero =>
    intro v0 v1 v2 v3 h
    rw [f_X10_isOutfit_18]
    exact z_none
  | succ n ih =>
    intro v0 v1 v2 v3 h
    rw [f_X10_isOutfit_18]
    refine z_iload_n 3 (zat dd_X10_isOutfit 11 rfl) rfl rfl ?_
    refine z_aload_n 0 (zat dd_X10_isOutfit 12 rfl) rfl rfl ?_
    refine z_getR fl_X10_7 (zat dd_X10_isOutfit 13 rfl) (fun a1 => ?_)
    refine z_iconst (x := 0) (zat dd_X10_isOutfit 14 rfl) (by decide) ?_
    refine z_iald (zat dd_X10_isOutfit 15 rfl) (fun x2 => ?_)
    refine z_icmp_ge (tgt := 146) (zat dd_X10_isOutfit 16 rfl) (by decide) ?_ ?_
    · refine z_sub [2] rfl ?_
      exact zb_X10_isOutfit_146 Y v2 h
    · refine z_iload_n 2 (zat dd_X10_isOutfit 17 rfl) rfl rfl ?_
      refine z_if_eq (tgt := 146) (zat dd_X10_isOutfit 18 rfl) (by decide) ?_ ?_
      · refine z_sub [2] rfl ?_
        exact zb_X10_isOutfit_146 Y v2 h
      · refine z_iload_n 1 (zat dd_X10_isOutfit 19 rfl) rfl rfl ?_
        refine z_iload_n 3 (zat dd_X10_isOutfit 20 rfl) rfl rfl ?_
        refine z_callS_I0 (M2 := M_X10_has) [.int v1, .int v3] (fun l D _ _ => m_X10_has l D v1 v3 h) u_X10_has ql_X10_180 qi_X10_has rfl rfl (Nat.le_of_ble_eq_true rfl) (by decide) rfl rfl (zat dd_X10_isOutfit 21 rfl) (fun x3 h4 => ?_)
        refine z_if_eq (tgt := 140) (zat dd_X10_isOutfit 22 rfl) (by decide) ?_ ?_
        · exact zb_X10_isOutfit_140 Y (f_X10_isOutfit_18 n) ih v0 v1 v2 v3 h4
        · refine z_aload_n 0 (zat dd_X10_isOutfit 23 rfl) rfl rfl ?_
          refine z_getR fl_X10_7 (zat dd_X10_isOutfit 24 rfl) (fun a5 => ?_)
          refine z_bipush (x := 12) (zat dd_X10_isOutfit 25 rfl) (by decide) ?_
          refine z_iload_n 3 (zat dd_X10_isOutfit 26 rfl) rfl rfl ?_
          refine z_iadd (zat dd_X10_isOutfit 27 rfl) ?_
          refine z_iald (zat dd_X10_isOutfit 28 rfl) (fun x6 => ?_)
          refine z_aload_n 0 (zat dd_X10_isOutfit 29 rfl) rfl rfl ?_
          refine z_getR fl_X10_7 (zat dd_X10_isOutfit 30 rfl) (fun a7 => ?_)
          refine z_bipush (x := 28) (zat dd_X10_isOutfit 31 rfl) (by decide) ?_
          refine z_iload_n 3 (zat dd_X10_isOutfit 32 rfl) rfl rfl ?_
          refine z_iadd (zat dd_X10_isOutfit 33 rfl) ?_
          refine z_iald (zat dd_X10_isOutfit 34 rfl) (fun x8 => ?_)
          refine z_aload_n 0 (zat dd_X10_isOutfit 35 rfl) rfl rfl ?_
          refine z_getR fl_X10_7 (zat dd_X10_isOutfit 36 rfl) (fun a9 => ?_)
          refine z_bipush (x := 36) (zat dd_X10_isOutfit 37 rfl) (by decide) ?_
          refine z_iload_n 3 (zat dd_X10_isOutfit 38 rfl) rfl rfl ?_
          refine z_iadd (zat dd_X10_isOutfit 39 rfl) ?_
          refine z_iald (zat dd_X10_isOutfit 40 rfl) (fun x10 => ?_)
          refine z_callS_I0 (M2 := M_X10_holds) [.int x6, .int x8, .int x10] (fun l D _ _ => m_X10_holds l D x6 x8 x10 h4) u_X10_holds ql_X10_52 qi_X10_holds rfl rfl (Nat.le_of_ble_eq_true rfl) (by decide) rfl rfl (zat dd_X10_isOutfit 41 rfl) (fun x11 h12 => ?_)
          refine z_iconst (x := 1) (zat dd_X10_isOutfit 42 rfl) (by decide) ?_
          refine z_icmp_lt (tgt := 94) (zat dd_X10_isOutfit 43 rfl) (by decide) ?_ ?_
          · refine z_sub [0, 1, 3] rfl ?_
            exact zb_X10_isOutfit_94 Y (f_X10_isOutfit_18 n) ih v0 v1 v3 h12
          · refine z_aload_n 0 (zat dd_X10_isOutfit 44 rfl) rfl rfl ?_
            refine z_iload_n 1 (zat dd_X10_isOutfit 45 rfl) rfl rfl ?_
            refine z_iconst (x := 1) (zat dd_X10_isOutfit 46 rfl) (by decide) ?_
            refine z_iload_n 3 (zat dd_X10_isOutfit 47 rfl) rfl rfl ?_
            refine z_ishl (zat dd_X10_isOutfit 48 rfl) ?_
            refine z_iconst (x := (-1)) (zat dd_X10_isOutfit 49 rfl) (by decide) ?_
            refine z_ixor (zat dd_X10_isOutfit 50 rfl) ?_
            refine z_iand (zat dd_X10_isOutfit 51 rfl) ?_
            refine z_callV_I0 (M2 := M_X10_coveredBy) [.int (v1 &&& ((1 <<< (v3 &&& 31)) ^^^ (-1)))] (fun l D _ _ => m_X10_coveredBy l D v0 (v1 &&& ((1 <<< (v3 &&& 31)) ^^^ (-1))) h12) u_X10_coveredBy ql_X10_189 qi_X10_coveredBy qs_X10_coveredBy (ci := 6) rfl rfl rfl (Nat.le_of_ble_eq_true rfl) (by decide) rfl rfl (zat dd_X10_isOutfit 52 rfl) (fun x13 h14 => ?_)
            refine z_bipush (x := 15) (zat dd_X10_isOutfit 53 rfl) (by decide) ?_
            refine z_icmp_eq (tgt := 94) (zat dd_X10_isOutfit 54 rfl) (by decide) ?_ ?_
            · refine z_sub [0, 1, 3] rfl ?_
              exact zb_X10_isOutfit_94 Y (f_X10_isOutfit_18 n) ih v0 v1 v3 h14
            · refine z_iconst (x := 1) (zat dd_X10_isOutfit 55 rfl) (by decide) ?_
              refine z_goto (tgt := 95) (zat dd_X10_isOutfit 56 rfl) (by decide) ?_
              refine z_sub [0, 1, 3] rfl ?_
              exact zb_X10_isOutfit_95 Y (f_X10_isOutfit_18 n) ih v0 v1 v3 1 h14
def f_X10_isOutfit_15 (v0 : Nat) (v1 : Int32) (t0 : Int32) (h : zH) : zR :=
  f_X10_isOutfit_18 zF v0 v1 t0 0 h
set_option maxRecDepth 100000 in
set_option maxHeartbeats 4000000 in
theorem zb_X10_isOutfit_15 (Y : zY) (v0 : Nat) (v1 : Int32) (t0 : Int32) (h : zH) : Z Y M_X10_isOutfit 0 0 15 [(0, .ref v0), (1, .int v1)] [.int t0] h (f_X10_isOutfit_15 v0 v1 t0 h) := by
  rw [f_X10_isOutfit_15]
  refine z_istore_n (lv' := [(2, .int t0), (0, .ref v0), (1, .int v1)]) (zat dd_X10_isOutfit 8 rfl) rfl (Nat.le_of_ble_eq_true rfl) rfl ?_
  refine z_iconst (x := 0) (zat dd_X10_isOutfit 9 rfl) (by decide) ?_
  refine z_istore_n (lv' := [(3, .int 0), (2, .int t0), (0, .ref v0), (1, .int v1)]) (zat dd_X10_isOutfit 10 rfl) rfl (Nat.le_of_ble_eq_true rfl) rfl ?_
  refine z_sub [2, 3, 1, 0] rfl ?_
  exact zb_X10_isOutfit_18 Y zF v0 v1 t0 0 h
def f_X10_isOutfit (v0 : Nat) (v1 : Int32) (h : zH) : zR :=
  zoc h v0 6 <|
  zcI (f_X10_coveredBy v0 v1 h) fun x1 h2 =>
  if x1 = 15 then
  f_X10_isOutfit_15 v0 v1 1 h2
  else
  f_X10_isOutfit_15 v0 v1 0 h2
set_option maxRecDepth 100000 in
set_option maxHeartbeats 4000000 in
theorem m_X10_isOutfit (l : Launch) (D : zD) (v0 : Nat) (v1 : Int32) (h : zH) : zMet l D yX10_isOutfit M_X10_isOutfit [.ref v0, .int v1] h (f_X10_isOutfit v0 v1 h) := by
  refine zMet.of (by decide +kernel) ⟨rfl, rfl⟩ (Nat.le_of_ble_eq_true rfl) (fun Y hl hD => ?_)
  show Z Y M_X10_isOutfit 0 0 0 [(0, .ref v0), (1, .int v1)] [] h _
  rw [f_X10_isOutfit]
  refine z_aload_n 0 (zat dd_X10_isOutfit 0 rfl) rfl rfl ?_
  refine z_iload_n 1 (zat dd_X10_isOutfit 1 rfl) rfl rfl ?_
  refine z_callV_I0 (M2 := M_X10_coveredBy) [.int v1] (fun l D _ _ => m_X10_coveredBy l D v0 v1 h) u_X10_coveredBy ql_X10_189 qi_X10_coveredBy qs_X10_coveredBy (ci := 6) rfl rfl rfl (Nat.le_of_ble_eq_true rfl) (by decide) rfl rfl (zat dd_X10_isOutfit 2 rfl) (fun x1 h2 => ?_)
  refine z_bipush (x := 15) (zat dd_X10_isOutfit 3 rfl) (by decide) ?_
  refine z_icmp_ne (tgt := 14) (zat dd_X10_isOutfit 4 rfl) (by decide) ?_ ?_
  · refine z_iconst (x := 0) (zat dd_X10_isOutfit 7 rfl) (by decide) ?_
    exact zb_X10_isOutfit_15 Y v0 v1 0 h2
  · refine z_iconst (x := 1) (zat dd_X10_isOutfit 5 rfl) (by decide) ?_
    refine z_goto (tgt := 15) (zat dd_X10_isOutfit 6 rfl) (by decide) ?_
    exact zb_X10_isOutfit_15 Y v0 v1 1 h2
/-! PaperDollsModel.outfitAt(I)I -/
def L_X10_outfitAt : List (Nat × Instr × Nat) := [(0, .iconst 0, 1), (1, .istore_n 2, 1), (2, .iconst 1, 1), (3, .istore_n 3, 1), (4, .iload_n 3, 1), (5, .iconst 1, 1), (6, .aload_n 0, 1), (7, .getfield 7, 3), (10, .iconst 0, 1), (11, .iaload, 1), (12, .ishl, 1), (13, .if_icmp .ge 27, 3), (16, .aload_n 0, 1), (17, .iload_n 3, 1), (18, .invokevirtual 192, 3), (21, .ifCond .eq 13, 3), (24, .iload_n 2, 1), (25, .iload_n 1, 1), (26, .if_icmp .ne 5, 3), (29, .iload_n 3, 1), (30, .ireturn, 1), (31, .iinc 2 1, 3), (34, .iinc 3 1, 3), (37, .goto (-33), 3), (40, .iload_n 2, 1), (41, .ireturn, 1)]
theorem dd_X10_outfitAt : ∀ q ∈ L_X10_outfitAt, decode cX10_outfitAt q.1 = .ok q.2 := by decide +kernel
abbrev M_X10_outfitAt : zM := (cX10_outfitAt, RX10, "outfitAt", 4, some .int, 3, 0, 0)
theorem u_X10_outfitAt : zCal yX10_outfitAt (M_X10_outfitAt) 1 := ⟨(zmem 1064 (by decide +kernel) rfl : Cond.code yX10_outfitAt cX10_outfitAt 4 (some .int) ∈ zTb), zmem 63 (by decide +kernel) rfl, by decide +kernel, Nat.le_of_ble_eq_true rfl⟩
theorem qi_X10_outfitAt : Cond.instanceMethod yX10_outfitAt ∈ zTb := zmem 1063 (by decide +kernel) rfl
theorem qs_X10_outfitAt : Cond.selects yX10_outfitAt.cls yX10_outfitAt yX10_outfitAt ∈ zTb := zmem 44 (by decide +kernel) rfl
def f_X10_outfitAt_34 (k4 : Nat → Int32 → Int32 → Int32 → zH → zR) (v0 : Nat) (v1 : Int32) (v2 : Int32) (v3 : Int32) (h : zH) : zR :=
  k4 v0 v1 v2 (v3 + 1) h
set_option maxRecDepth 100000 in
set_option maxHeartbeats 4000000 in
theorem zb_X10_outfitAt_34 (Y : zY) (k4 : Nat → Int32 → Int32 → Int32 → zH → zR) (hk4 : ∀ (v0 : Nat) (v1 : Int32) (v2 : Int32) (v3 : Int32) (h : zH), Z Y M_X10_outfitAt 0 0 4 [(0, .ref v0), (1, .int v1), (2, .int v2), (3, .int v3)] [] h (k4 v0 v1 v2 v3 h)) (v0 : Nat) (v1 : Int32) (v2 : Int32) (v3 : Int32) (h : zH) : Z Y M_X10_outfitAt 0 0 34 [(0, .ref v0), (1, .int v1), (2, .int v2), (3, .int v3)] [] h (f_X10_outfitAt_34 k4 v0 v1 v2 v3 h) := by
  rw [f_X10_outfitAt_34]
  refine z_iinc (y := v3 + 1) (lv' := [(3, .int (v3 + 1)), (0, .ref v0), (1, .int v1), (2, .int v2)]) 3 (zat dd_X10_outfitAt 22 rfl) rfl rfl (Nat.le_of_ble_eq_true rfl) rfl ?_
  refine z_goto (tgt := 4) (zat dd_X10_outfitAt 23 rfl) (by decide) ?_
  refine z_sub [1, 2, 3, 0] rfl ?_
  exact hk4 v0 v1 v2 (v3 + 1) h
def f_X10_outfitAt_4 : Nat → Nat → Int32 → Int32 → Int32 → zH → zR
  | 0, _, _, _, _, _ => none
  | n + 1, v0, v1, v2, v3, h =>
  zgR h v0 6 0 fun a1 =>
  zaI h a1 0 0 fun x2 =>
  if (1 <<< (x2 &&& 31)) ≤ v3 then
  zrI v2 h
  else
  zoc h v0 6 <|
  zcI (f_X10_isOutfit v0 v3 h) fun x3 h4 =>
  if x3 = 0 then
  f_X10_outfitAt_34 (f_X10_outfitAt_4 n) v0 v1 v2 v3 h4
  else
  if v2 = v1 then
  zrI v3 h4
  else
  f_X10_outfitAt_34 (f_X10_outfitAt_4 n) v0 v1 (v2 + 1) v3 h4
set_option maxRecDepth 100000 in
set_option maxHeartbeats 4000000 in
theorem zb_X10_outfitAt_4 (Y : zY) : ∀ (n : Nat) (v0 : Nat) (v1 : Int32) (v2 : Int32) (v3 : Int32) (h : zH), Z Y M_X10_outfitAt 0 0 4 [(0, .ref v0), (1, .int v1), (2, .int v2), (3, .int v3)] [] h (f_X10_outfitAt_4 n v0 v1 v2 v3 h) := by
  intro n
  induction n with
  | zero =>
    intro v0 v1 v2 v3 h
    rw [f_X10_outfitAt_4]
    exact z_none
  | succ n ih =>
    intro v0 v1 v2 v3 h
    rw [f_X10_outfitAt_4]
    refine z_iload_n 3 (zat dd_X10_outfitAt 4 rfl) rfl rfl ?_
    refine z_iconst (x := 1) (zat dd_X10_outfitAt 5 rfl) (by decide) ?_
    refine z_aload_n 0 (zat dd_X10_outfitAt 6 rfl) rfl rfl ?_
    refine z_getR fl_X10_7 (zat dd_X10_outfitAt 7 rfl) (fun a1 => ?_)
    refine z_iconst (x := 0) (zat dd_X10_outfitAt 8 rfl) (by decide) ?_
    refine z_iald (zat dd_X10_outfitAt 9 rfl) (fun x2 => ?_)
    refine z_ishl (zat dd_X10_outfitAt 10 rfl) ?_
    refine z_icmp_ge (tgt := 40) (zat dd_X10_outfitAt 11 rfl) (by decide) ?_ ?_
    · refine z_iload_n 2 (zat dd_X10_outfitAt 24 rfl) rfl rfl ?_
      exact z_iret rfl (zat dd_X10_outfitAt 25 rfl)
    · refine z_aload_n 0 (zat dd_X10_outfitAt 12 rfl) rfl rfl ?_
      refine z_iload_n 3 (zat dd_X10_outfitAt 13 rfl) rfl rfl ?_
      refine z_callV_I0 (M2 := M_X10_isOutfit) [.int v3] (fun l D _ _ => m_X10_isOutfit l D v0 v3 h) u_X10_isOutfit ql_X10_192 qi_X10_isOutfit qs_X10_isOutfit (ci := 6) rfl rfl rfl (Nat.le_of_ble_eq_true rfl) (by decide) rfl rfl (zat dd_X10_outfitAt 14 rfl) (fun x3 h4 => ?_)
      refine z_if_eq (tgt := 34) (zat dd_X10_outfitAt 15 rfl) (by decide) ?_ ?_
      · exact zb_X10_outfitAt_34 Y (f_X10_outfitAt_4 n) ih v0 v1 v2 v3 h4
      · refine z_iload_n 2 (zat dd_X10_outfitAt 16 rfl) rfl rfl ?_
        refine z_iload_n 1 (zat dd_X10_outfitAt 17 rfl) rfl rfl ?_
        refine z_icmp_ne (tgt := 31) (zat dd_X10_outfitAt 18 rfl) (by decide) ?_ ?_
        · refine z_iinc (y := v2 + 1) (lv' := [(2, .int (v2 + 1)), (0, .ref v0), (1, .int v1), (3, .int v3)]) 2 (zat dd_X10_outfitAt 21 rfl) rfl rfl (Nat.le_of_ble_eq_true rfl) rfl ?_
          refine z_sub [1, 2, 0, 3] rfl ?_
          exact zb_X10_outfitAt_34 Y (f_X10_outfitAt_4 n) ih v0 v1 (v2 + 1) v3 h4
        · refine z_iload_n 3 (zat dd_X10_outfitAt 19 rfl) rfl rfl ?_
          exact z_iret rfl (zat dd_X10_outfitAt 20 rfl)
def f_X10_outfitAt (v0 : Nat) (v1 : Int32) (h : zH) : zR :=
  f_X10_outfitAt_4 zF v0 v1 0 1 h
set_option maxRecDepth 100000 in
set_option maxHeartbeats 4000000 in
theorem m_X10_outfitAt (l : Launch) (D : zD) (v0 : Nat) (v1 : Int32) (h : zH) : zMet l D yX10_outfitAt M_X10_outfitAt [.ref v0, .int v1] h (f_X10_outfitAt v0 v1 h) := by
  refine zMet.of (by decide +kernel) ⟨rfl, rfl⟩ (Nat.le_of_ble_eq_true rfl) (fun Y hl hD => ?_)
  show Z Y M_X10_outfitAt 0 0 0 [(0, .ref v0), (1, .int v1)] [] h _
  rw [f_X10_outfitAt]
  refine z_iconst (x := 0) (zat dd_X10_outfitAt 0 rfl) (by decide) ?_
  refine z_istore_n (lv' := [(2, .int 0), (0, .ref v0), (1, .int v1)]) (zat dd_X10_outfitAt 1 rfl) rfl (Nat.le_of_ble_eq_true rfl) rfl ?_
  refine z_iconst (x := 1) (zat dd_X10_outfitAt 2 rfl) (by decide) ?_
  refine z_istore_n (lv' := [(3, .int 1), (2, .int 0), (0, .ref v0), (1, .int v1)]) (zat dd_X10_outfitAt 3 rfl) rfl (Nat.le_of_ble_eq_true rfl) rfl ?_
  refine z_sub [2, 3, 1, 0] rfl ?_
  exact zb_X10_outfitAt_4 Y zF v0 v1 0 1 h
/-! PaperDollsModel.outfitMany()I -/
def L_X10_outfitMany : List (Nat × Instr × Nat) := [(0, .aload_n 0, 1), (1, .bipush (-101), 2), (3, .invokevirtual 195, 3), (6, .ireturn, 1)]
theorem dd_X10_outfitMany : ∀ q ∈ L_X10_outfitMany, decode cX10_outfitMany q.1 = .ok q.2 := by decide +kernel
abbrev M_X10_outfitMany : zM := (cX10_outfitMany, RX10, "outfitMany", 1, some .int, 4, 0, 0)
theorem u_X10_outfitMany : zCal yX10_outfitMany (M_X10_outfitMany) 0 := ⟨(zmem 1060 (by decide +kernel) rfl : Cond.code yX10_outfitMany cX10_outfitMany 1 (some .int) ∈ zTb), zmem 63 (by decide +kernel) rfl, by decide +kernel, Nat.le_of_ble_eq_true rfl⟩
theorem qi_X10_outfitMany : Cond.instanceMethod yX10_outfitMany ∈ zTb := zmem 1059 (by decide +kernel) rfl
theorem qs_X10_outfitMany : Cond.selects yX10_outfitMany.cls yX10_outfitMany yX10_outfitMany ∈ zTb := zmem 43 (by decide +kernel) rfl
def f_X10_outfitMany (v0 : Nat) (h : zH) : zR :=
  zoc h v0 6 <|
  zcI (f_X10_outfitAt v0 (-101) h) fun x1 h2 =>
  zrI x1 h2
set_option maxRecDepth 100000 in
set_option maxHeartbeats 4000000 in
theorem m_X10_outfitMany (l : Launch) (D : zD) (v0 : Nat) (h : zH) : zMet l D yX10_outfitMany M_X10_outfitMany [.ref v0] h (f_X10_outfitMany v0 h) := by
  refine zMet.of (by decide +kernel) ⟨rfl, rfl⟩ (Nat.le_of_ble_eq_true rfl) (fun Y hl hD => ?_)
  show Z Y M_X10_outfitMany 0 0 0 [(0, .ref v0)] [] h _
  rw [f_X10_outfitMany]
  refine z_aload_n 0 (zat dd_X10_outfitMany 0 rfl) rfl rfl ?_
  refine z_bipush (x := (-101)) (zat dd_X10_outfitMany 1 rfl) (by decide) ?_
  refine z_callV_I0 (M2 := M_X10_outfitAt) [.int (-101)] (fun l D _ _ => m_X10_outfitAt l D v0 (-101) h) u_X10_outfitAt ql_X10_195 qi_X10_outfitAt qs_X10_outfitAt (ci := 6) rfl rfl rfl (Nat.le_of_ble_eq_true rfl) (by decide) rfl rfl (zat dd_X10_outfitMany 2 rfl) (fun x1 h2 => ?_)
  exact z_iret rfl (zat dd_X10_outfitMany 3 rfl)
/-! PaperDollsModel.outfits(I)I -/
def L_X10_outfits : List (Nat × Instr × Nat) := [(0, .iload_n 1, 1), (1, .iconst (-1), 1), (2, .if_icmp .ge 8, 3), (5, .aload_n 0, 1), (6, .invokevirtual 85, 3), (9, .ireturn, 1), (10, .aload_n 0, 1), (11, .invokevirtual 198, 3), (14, .istore_n 2, 1), (15, .iload_n 1, 1), (16, .ifCond .ge 7, 3), (19, .iload_n 2, 1), (20, .goto 18, 3), (23, .iload_n 1, 1), (24, .iload_n 2, 1), (25, .if_icmp .ge 11, 3), (28, .aload_n 0, 1), (29, .iload_n 1, 1), (30, .invokevirtual 195, 3), (33, .goto 5, 3), (36, .bipush (-5), 2), (38, .ireturn, 1)]
theorem dd_X10_outfits : ∀ q ∈ L_X10_outfits, decode cX10_outfits q.1 = .ok q.2 := by decide +kernel
abbrev M_X10_outfits : zM := (cX10_outfits, RX10, "outfits", 3, some .int, 5, 0, 0)
theorem u_X10_outfits : zCal yX10_outfits (M_X10_outfits) 1 := ⟨(zmem 1056 (by decide +kernel) rfl : Cond.code yX10_outfits cX10_outfits 3 (some .int) ∈ zTb), zmem 63 (by decide +kernel) rfl, by decide +kernel, Nat.le_of_ble_eq_true rfl⟩
theorem qi_X10_outfits : Cond.instanceMethod yX10_outfits ∈ zTb := zmem 1054 (by decide +kernel) rfl
theorem qs_X10_outfits : Cond.selects yX10_outfits.cls yX10_outfits yX10_outfits ∈ zTb := zmem 1055 (by decide +kernel) rfl
def f_X10_outfits_38 (t0 : Int32) (h : zH) : zR :=
  zrI t0 h
set_option maxRecDepth 100000 in
set_option maxHeartbeats 4000000 in
theorem zb_X10_outfits_38 (Y : zY) (t0 : Int32) (h : zH) : Z Y M_X10_outfits 0 0 38 [] [.int t0] h (f_X10_outfits_38 t0 h) := by
  rw [f_X10_outfits_38]
  exact z_iret rfl (zat dd_X10_outfits 21 rfl)
def f_X10_outfits (v0 : Nat) (v1 : Int32) (h : zH) : zR :=
  if (-1) ≤ v1 then
  zoc h v0 6 <|
  zcI (f_X10_outfitMany v0 h) fun x1 h2 =>
  if 0 ≤ v1 then
  if x1 ≤ v1 then
  f_X10_outfits_38 (-5) h2
  else
  zoc h2 v0 6 <|
  zcI (f_X10_outfitAt v0 v1 h2) fun x3 h4 =>
  f_X10_outfits_38 x3 h4
  else
  f_X10_outfits_38 x1 h2
  else
  zoc h v0 6 <|
  zcI (f_X10_bad v0 h) fun x5 h6 =>
  zrI x5 h6
set_option maxRecDepth 100000 in
set_option maxHeartbeats 4000000 in
theorem m_X10_outfits (l : Launch) (D : zD) (v0 : Nat) (v1 : Int32) (h : zH) : zMet l D yX10_outfits M_X10_outfits [.ref v0, .int v1] h (f_X10_outfits v0 v1 h) := by
  refine zMet.of (by decide +kernel) ⟨rfl, rfl⟩ (Nat.le_of_ble_eq_true rfl) (fun Y hl hD => ?_)
  show Z Y M_X10_outfits 0 0 0 [(0, .ref v0), (1, .int v1)] [] h _
  rw [f_X10_outfits]
  refine z_iload_n 1 (zat dd_X10_outfits 0 rfl) rfl rfl ?_
  refine z_iconst (x := (-1)) (zat dd_X10_outfits 1 rfl) (by decide) ?_
  refine z_icmp_ge (tgt := 10) (zat dd_X10_outfits 2 rfl) (by decide) ?_ ?_
  · refine z_aload_n 0 (zat dd_X10_outfits 6 rfl) rfl rfl ?_
    refine z_callV_I0 (M2 := M_X10_outfitMany) [] (fun l D _ _ => m_X10_outfitMany l D v0 h) u_X10_outfitMany ql_X10_198 qi_X10_outfitMany qs_X10_outfitMany (ci := 6) rfl rfl rfl (Nat.le_of_ble_eq_true rfl) (by decide) rfl rfl (zat dd_X10_outfits 7 rfl) (fun x1 h2 => ?_)
    refine z_istore_n (lv' := [(2, .int x1), (0, .ref v0), (1, .int v1)]) (zat dd_X10_outfits 8 rfl) rfl (Nat.le_of_ble_eq_true rfl) rfl ?_
    refine z_iload_n 2 (zat dd_X10_outfits 9 rfl) rfl rfl ?_
    refine z_if_ge (tgt := 23) (zat dd_X10_outfits 10 rfl) (by decide) ?_ ?_
    · refine z_iload_n 2 (zat dd_X10_outfits 13 rfl) rfl rfl ?_
      refine z_iload_n 0 (zat dd_X10_outfits 14 rfl) rfl rfl ?_
      refine z_icmp_ge (tgt := 36) (zat dd_X10_outfits 15 rfl) (by decide) ?_ ?_
      · refine z_bipush (x := (-5)) (zat dd_X10_outfits 20 rfl) (by decide) ?_
        refine z_sub [] rfl ?_
        exact zb_X10_outfits_38 Y (-5) h2
      · refine z_aload_n 1 (zat dd_X10_outfits 16 rfl) rfl rfl ?_
        refine z_iload_n 2 (zat dd_X10_outfits 17 rfl) rfl rfl ?_
        refine z_callV_I0 (M2 := M_X10_outfitAt) [.int v1] (fun l D _ _ => m_X10_outfitAt l D v0 v1 h2) u_X10_outfitAt ql_X10_195 qi_X10_outfitAt qs_X10_outfitAt (ci := 6) rfl rfl rfl (Nat.le_of_ble_eq_true rfl) (by decide) rfl rfl (zat dd_X10_outfits 18 rfl) (fun x3 h4 => ?_)
        refine z_goto (tgt := 38) (zat dd_X10_outfits 19 rfl) (by decide) ?_
        refine z_sub [] rfl ?_
        exact zb_X10_outfits_38 Y x3 h4
    · refine z_iload_n 0 (zat dd_X10_outfits 11 rfl) rfl rfl ?_
      refine z_goto (tgt := 38) (zat dd_X10_outfits 12 rfl) (by decide) ?_
      refine z_sub [] rfl ?_
      exact zb_X10_outfits_38 Y x1 h2
  · refine z_aload_n 0 (zat dd_X10_outfits 3 rfl) rfl rfl ?_
    refine z_callV_I0 (M2 := M_X10_bad) [] (fun l D _ _ => m_X10_bad l D v0 h) u_X10_bad ql_X10_85 qi_X10_bad qs_X10_bad (ci := 6) rfl rfl rfl (Nat.le_of_ble_eq_true rfl) (by decide) rfl rfl (zat dd_X10_outfits 4 rfl) (fun x5 h6 => ?_)
    exact z_iret rfl (zat dd_X10_outfits 5 rfl)
/-! PaperDollsModel.lean(I)I -/
def L_X10_lean : List (Nat × Instr × Nat) := [(0, .iload_n 1, 1), (1, .i2l, 1), (2, .lconst 0, 1), (3, .lconst 1, 1), (4, .invokestatic 48, 3), (7, .ifCond .ne 8, 3), (10, .aload_n 0, 1), (11, .invokevirtual 85, 3), (14, .ireturn, 1), (15, .bipush (-101), 2), (17, .istore_n 2, 1), (18, .iconst 1, 1), (19, .istore_n 3, 1), (20, .iload_n 3, 1), (21, .iconst 1, 1), (22, .aload_n 0, 1), (23, .getfield 7, 3), (26, .iconst 0, 1), (27, .iaload, 1), (28, .ishl, 1), (29, .if_icmp .ge 40, 3), (32, .aload_n 0, 1), (33, .iload_n 3, 1), (34, .invokevirtual 192, 3), (37, .ifCond .eq 24, 3), (40, .iload_n 2, 1), (41, .bipush (-101), 2), (43, .if_icmp .eq 14, 3), (46, .iload_n 3, 1), (47, .invokestatic 201, 3), (50, .iload_n 2, 1), (51, .invokestatic 201, 3), (54, .if_icmp .ge 7, 3), (57, .iload_n 3, 1), (58, .goto 4, 3), (61, .iload_n 2, 1), (62, .istore_n 2, 1), (63, .iinc 3 1, 3), (66, .goto (-46), 3), (69, .iload_n 2, 1), (70, .bipush (-101), 2), (72, .if_icmp .eq 8, 3), (75, .iload_n 1, 1), (76, .iconst 1, 1), (77, .if_icmp .ne 7, 3), (80, .iload_n 2, 1), (81, .goto 7, 3), (84, .iload_n 2, 1), (85, .invokestatic 201, 3), (88, .ireturn, 1)]
theorem dd_X10_lean : ∀ q ∈ L_X10_lean, decode cX10_lean q.1 = .ok q.2 := by decide +kernel
abbrev M_X10_lean : zM := (cX10_lean, RX10, "lean", 4, some .int, 3, 0, 0)
theorem u_X10_lean : zCal yX10_lean (M_X10_lean) 1 := ⟨(zmem 1076 (by decide +kernel) rfl : Cond.code yX10_lean cX10_lean 4 (some .int) ∈ zTb), zmem 63 (by decide +kernel) rfl, by decide +kernel, Nat.le_of_ble_eq_true rfl⟩
theorem qi_X10_lean : Cond.instanceMethod yX10_lean ∈ zTb := zmem 1074 (by decide +kernel) rfl
theorem qs_X10_lean : Cond.selects yX10_lean.cls yX10_lean yX10_lean ∈ zTb := zmem 1075 (by decide +kernel) rfl
def f_X10_lean_88 (t0 : Int32) (h : zH) : zR :=
  zrI t0 h
set_option maxRecDepth 100000 in
set_option maxHeartbeats 4000000 in
theorem zb_X10_lean_88 (Y : zY) (t0 : Int32) (h : zH) : Z Y M_X10_lean 0 0 88 [] [.int t0] h (f_X10_lean_88 t0 h) := by
  rw [f_X10_lean_88]
  exact z_iret rfl (zat dd_X10_lean 49 rfl)
def f_X10_lean_80 (v2 : Int32) (h : zH) : zR :=
  f_X10_lean_88 v2 h
set_option maxRecDepth 100000 in
set_option maxHeartbeats 4000000 in
theorem zb_X10_lean_80 (Y : zY) (v2 : Int32) (h : zH) : Z Y M_X10_lean 0 0 80 [(2, .int v2)] [] h (f_X10_lean_80 v2 h) := by
  rw [f_X10_lean_80]
  refine z_iload_n 0 (zat dd_X10_lean 45 rfl) rfl rfl ?_
  refine z_goto (tgt := 88) (zat dd_X10_lean 46 rfl) (by decide) ?_
  refine z_sub [] rfl ?_
  exact zb_X10_lean_88 Y v2 h
def f_X10_lean_62 (k20 : Nat → Int32 → Int32 → Int32 → zH → zR) (v0 : Nat) (v1 : Int32) (v3 : Int32) (t0 : Int32) (h : zH) : zR :=
  k20 v0 v1 t0 (v3 + 1) h
set_option maxRecDepth 100000 in
set_option maxHeartbeats 4000000 in
theorem zb_X10_lean_62 (Y : zY) (k20 : Nat → Int32 → Int32 → Int32 → zH → zR) (hk20 : ∀ (v0 : Nat) (v1 : Int32) (v2 : Int32) (v3 : Int32) (h : zH), Z Y M_X10_lean 0 0 20 [(0, .ref v0), (1, .int v1), (2, .int v2), (3, .int v3)] [] h (k20 v0 v1 v2 v3 h)) (v0 : Nat) (v1 : Int32) (v3 : Int32) (t0 : Int32) (h : zH) : Z Y M_X10_lean 0 0 62 [(0, .ref v0), (1, .int v1), (3, .int v3)] [.int t0] h (f_X10_lean_62 k20 v0 v1 v3 t0 h) := by
  rw [f_X10_lean_62]
  refine z_istore_n (lv' := [(2, .int t0), (0, .ref v0), (1, .int v1), (3, .int v3)]) (zat dd_X10_lean 36 rfl) rfl (Nat.le_of_ble_eq_true rfl) rfl ?_
  refine z_iinc (y := v3 + 1) (lv' := [(3, .int (v3 + 1)), (2, .int t0), (0, .ref v0), (1, .int v1)]) 3 (zat dd_X10_lean 37 rfl) rfl rfl (Nat.le_of_ble_eq_true rfl) rfl ?_
  refine z_goto (tgt := 20) (zat dd_X10_lean 38 rfl) (by decide) ?_
  refine z_sub [2, 3, 1, 0] rfl ?_
  exact hk20 v0 v1 t0 (v3 + 1) h
def f_X10_lean_61 (k20 : Nat → Int32 → Int32 → Int32 → zH → zR) (v0 : Nat) (v1 : Int32) (v2 : Int32) (v3 : Int32) (h : zH) : zR :=
  f_X10_lean_62 k20 v0 v1 v3 v2 h
set_option maxRecDepth 100000 in
set_option maxHeartbeats 4000000 in
theorem zb_X10_lean_61 (Y : zY) (k20 : Nat → Int32 → Int32 → Int32 → zH → zR) (hk20 : ∀ (v0 : Nat) (v1 : Int32) (v2 : Int32) (v3 : Int32) (h : zH), Z Y M_X10_lean 0 0 20 [(0, .ref v0), (1, .int v1), (2, .int v2), (3, .int v3)] [] h (k20 v0 v1 v2 v3 h)) (v0 : Nat) (v1 : Int32) (v2 : Int32) (v3 : Int32) (h : zH) : Z Y M_X10_lean 0 0 61 [(0, .ref v0), (1, .int v1), (2, .int v2), (3, .int v3)] [] h (f_X10_lean_61 k20 v0 v1 v2 v3 h) := by
  rw [f_X10_lean_61]
  refine z_iload_n 2 (zat dd_X10_lean 35 rfl) rfl rfl ?_
  refine z_sub [0, 1, 3] rfl ?_
  exact zb_X10_lean_62 Y k20 hk20 v0 v1 v3 v2 h
def f_X10_lean_57 (k20 : Nat → Int32 → Int32 → Int32 → zH → zR) (v0 : Nat) (v1 : Int32) (v3 : Int32) (h : zH) : zR :=
  f_X10_lean_62 k20 v0 v1 v3 v3 h
set_option maxRecDepth 100000 in
set_option maxHeartbeats 4000000 in
theorem zb_X10_lean_57 (Y : zY) (k20 : Nat → Int32 → Int32 → Int32 → zH → zR) (hk20 : ∀ (v0 : Nat) (v1 : Int32) (v2 : Int32) (v3 : Int32) (h : zH), Z Y M_X10_lean 0 0 20 [(0, .ref v0), (1, .int v1), (2, .int v2), (3, .int v3)] [] h (k20 v0 v1 v2 v3 h)) (v0 : Nat) (v1 : Int32) (v3 : Int32) (h : zH) : Z Y M_X10_lean 0 0 57 [(0, .ref v0), (1, .int v1), (3, .int v3)] [] h (f_X10_lean_57 k20 v0 v1 v3 h) := by
  rw [f_X10_lean_57]
  refine z_iload_n 2 (zat dd_X10_lean 33 rfl) rfl rfl ?_
  refine z_goto (tgt := 62) (zat dd_X10_lean 34 rfl) (by decide) ?_
  exact zb_X10_lean_62 Y k20 hk20 v0 v1 v3 v3 h
def f_X10_lean_20 : Nat → Nat → Int32 → Int32 → Int32 → zH → zR
  | 0, _, _, _, _, _ => none
  | n + 1, v0, v1, v2, v3, h =>
  zgR h v0 6 0 fun a1 =>
  zaI h a1 0 0 fun x2 =>
  if (1 <<< (x2 &&& 31)) ≤ v3 then
  if v2 = (-101) then
  f_X10_lean_80 v2 h
  else
  if v1 = 1 then
  f_X10_lean_80 v2 h
  else
  zcI (f_X10_ones v2 h) fun x3 h4 =>
  f_X10_lean_88 x3 h4
  else
  zoc h v0 6 <|
  zcI (f_X10_isOutfit v0 v3 h) fun x5 h6 =>
  if x5 = 0 then
  f_X10_lean_61 (f_X10_lean_20 n) v0 v1 v2 v3 h6
  else
  if v2 = (-101) then
  f_X10_lean_57 (f_X10_lean_20 n) v0 v1 v3 h6
  else
  zcI (f_X10_ones v3 h6) fun x7 h8 =>
  zcI (f_X10_ones v2 h8) fun x9 h10 =>
  if x9 ≤ x7 then
  f_X10_lean_61 (f_X10_lean_20 n) v0 v1 v2 v3 h10
  else
  f_X10_lean_57 (f_X10_lean_20 n) v0 v1 v3 h10
set_option maxRecDepth 100000 in
set_option maxHeartbeats 4000000 in
theorem zb_X10_lean_20 (Y : zY) : ∀ (n : Nat) (v0 : Nat) (v1 : Int32) (v2 : Int32) (v3 : Int32) (h : zH), Z Y M_X10_lean 0 0 20 [(0, .ref v0), (1, .int v1), (2, .int v2), (3, .int v3)] [] h (f_X10_lean_20 n v0 v1 v2 v3 h) := by
  intro n
  induction n with
  | zero =>
    intro v0 v1 v2 v3 h
    rw [f_X10_lean_20]
    exact z_none
  | succ n ih =>
    intro v0 v1 v2 v3 h
    rw [f_X10_lean_20]
    refine z_iload_n 3 (zat dd_X10_lean 13 rfl) rfl rfl ?_
    refine z_iconst (x := 1) (zat dd_X10_lean 14 rfl) (by decide) ?_
    refine z_aload_n 0 (zat dd_X10_lean 15 rfl) rfl rfl ?_
    refine z_getR fl_X10_7 (zat dd_X10_lean 16 rfl) (fun a1 => ?_)
    refine z_iconst (x := 0) (zat dd_X10_lean 17 rfl) (by decide) ?_
    refine z_iald (zat dd_X10_lean 18 rfl) (fun x2 => ?_)
    refine z_ishl (zat dd_X10_lean 19 rfl) ?_
    refine z_icmp_ge (tgt := 69) (zat dd_X10_lean 20 rfl) (by decide) ?_ ?_
    · refine z_iload_n 2 (zat dd_X10_lean 39 rfl) rfl rfl ?_
      refine z_bipush (x := (-101)) (zat dd_X10_lean 40 rfl) (by decide) ?_
      refine z_icmp_eq (tgt := 80) (zat dd_X10_lean 41 rfl) (by decide) ?_ ?_
      · refine z_sub [2] rfl ?_
        exact zb_X10_lean_80 Y v2 h
      · refine z_iload_n 1 (zat dd_X10_lean 42 rfl) rfl rfl ?_
        refine z_iconst (x := 1) (zat dd_X10_lean 43 rfl) (by decide) ?_
        refine z_icmp_ne (tgt := 84) (zat dd_X10_lean 44 rfl) (by decide) ?_ ?_
        · refine z_iload_n 2 (zat dd_X10_lean 47 rfl) rfl rfl ?_
          refine z_callS_I0 (M2 := M_X10_ones) [.int v2] (fun l D _ _ => m_X10_ones l D v2 h) u_X10_ones ql_X10_201 qi_X10_ones rfl rfl (Nat.le_of_ble_eq_true rfl) (by decide) rfl rfl (zat dd_X10_lean 48 rfl) (fun x3 h4 => ?_)
          refine z_sub [] rfl ?_
          exact zb_X10_lean_88 Y x3 h4
        · refine z_sub [2] rfl ?_
          exact zb_X10_lean_80 Y v2 h
    · refine z_aload_n 0 (zat dd_X10_lean 21 rfl) rfl rfl ?_
      refine z_iload_n 3 (zat dd_X10_lean 22 rfl) rfl rfl ?_
      refine z_callV_I0 (M2 := M_X10_isOutfit) [.int v3] (fun l D _ _ => m_X10_isOutfit l D v0 v3 h) u_X10_isOutfit ql_X10_192 qi_X10_isOutfit qs_X10_isOutfit (ci := 6) rfl rfl rfl (Nat.le_of_ble_eq_true rfl) (by decide) rfl rfl (zat dd_X10_lean 23 rfl) (fun x5 h6 => ?_)
      refine z_if_eq (tgt := 61) (zat dd_X10_lean 24 rfl) (by decide) ?_ ?_
      · exact zb_X10_lean_61 Y (f_X10_lean_20 n) ih v0 v1 v2 v3 h6
      · refine z_iload_n 2 (zat dd_X10_lean 25 rfl) rfl rfl ?_
        refine z_bipush (x := (-101)) (zat dd_X10_lean 26 rfl) (by decide) ?_
        refine z_icmp_eq (tgt := 57) (zat dd_X10_lean 27 rfl) (by decide) ?_ ?_
        · refine z_sub [0, 1, 3] rfl ?_
          exact zb_X10_lean_57 Y (f_X10_lean_20 n) ih v0 v1 v3 h6
        · refine z_iload_n 3 (zat dd_X10_lean 28 rfl) rfl rfl ?_
          refine z_callS_I0 (M2 := M_X10_ones) [.int v3] (fun l D _ _ => m_X10_ones l D v3 h6) u_X10_ones ql_X10_201 qi_X10_ones rfl rfl (Nat.le_of_ble_eq_true rfl) (by decide) rfl rfl (zat dd_X10_lean 29 rfl) (fun x7 h8 => ?_)
          refine z_iload_n 2 (zat dd_X10_lean 30 rfl) rfl rfl ?_
          refine z_callS_I0 (M2 := M_X10_ones) [.int v2] (fun l D _ _ => m_X10_ones l D v2 h8) u_X10_ones ql_X10_201 qi_X10_ones rfl rfl (Nat.le_of_ble_eq_true rfl) (by decide) rfl rfl (zat dd_X10_lean 31 rfl) (fun x9 h10 => ?_)
          refine z_icmp_ge (tgt := 61) (zat dd_X10_lean 32 rfl) (by decide) ?_ ?_
          · exact zb_X10_lean_61 Y (f_X10_lean_20 n) ih v0 v1 v2 v3 h10
          · refine z_sub [0, 1, 3] rfl ?_
            exact zb_X10_lean_57 Y (f_X10_lean_20 n) ih v0 v1 v3 h10
def f_X10_lean (v0 : Nat) (v1 : Int32) (h : zH) : zR :=
  zcI (f_X10_in ((v1 : Int32).toInt64) 0 1 h) fun x1 h2 =>
  if x1 = 0 then
  zoc h2 v0 6 <|
  zcI (f_X10_bad v0 h2) fun x3 h4 =>
  zrI x3 h4
  else
  f_X10_lean_20 zF v0 v1 (-101) 1 h2
set_option maxRecDepth 100000 in
set_option maxHeartbeats 4000000 in
theorem m_X10_lean (l : Launch) (D : zD) (v0 : Nat) (v1 : Int32) (h : zH) : zMet l D yX10_lean M_X10_lean [.ref v0, .int v1] h (f_X10_lean v0 v1 h) := by
  refine zMet.of (by decide +kernel) ⟨rfl, rfl⟩ (Nat.le_of_ble_eq_true rfl) (fun Y hl hD => ?_)
  show Z Y M_X10_lean 0 0 0 [(0, .ref v0), (1, .int v1)] [] h _
  rw [f_X10_lean]
  refine z_iload_n 1 (zat dd_X10_lean 0 rfl) rfl rfl ?_
  refine z_i2l (zat dd_X10_lean 1 rfl) ?_
  refine z_lconst (x := 0) (zat dd_X10_lean 2 rfl) (by decide) ?_
  refine z_lconst (x := 1) (zat dd_X10_lean 3 rfl) (by decide) ?_
  refine z_callS_I0 (M2 := M_X10_in) [.long ((v1 : Int32).toInt64), .long 0, .long 1] (fun l D _ _ => m_X10_in l D ((v1 : Int32).toInt64) 0 1 h) u_X10_in ql_X10_48 qi_X10_in rfl rfl (Nat.le_of_ble_eq_true rfl) (by decide) rfl rfl (zat dd_X10_lean 4 rfl) (fun x1 h2 => ?_)
  refine z_if_ne (tgt := 15) (zat dd_X10_lean 5 rfl) (by decide) ?_ ?_
  · refine z_bipush (x := (-101)) (zat dd_X10_lean 9 rfl) (by decide) ?_
    refine z_istore_n (lv' := [(2, .int (-101)), (0, .ref v0), (1, .int v1)]) (zat dd_X10_lean 10 rfl) rfl (Nat.le_of_ble_eq_true rfl) rfl ?_
    refine z_iconst (x := 1) (zat dd_X10_lean 11 rfl) (by decide) ?_
    refine z_istore_n (lv' := [(3, .int 1), (2, .int (-101)), (0, .ref v0), (1, .int v1)]) (zat dd_X10_lean 12 rfl) rfl (Nat.le_of_ble_eq_true rfl) rfl ?_
    refine z_sub [2, 3, 1, 0] rfl ?_
    exact zb_X10_lean_20 Y zF v0 v1 (-101) 1 h2
  · refine z_aload_n 0 (zat dd_X10_lean 6 rfl) rfl rfl ?_
    refine z_callV_I0 (M2 := M_X10_bad) [] (fun l D _ _ => m_X10_bad l D v0 h2) u_X10_bad ql_X10_85 qi_X10_bad qs_X10_bad (ci := 6) rfl rfl rfl (Nat.le_of_ble_eq_true rfl) (by decide) rfl rfl (zat dd_X10_lean 7 rfl) (fun x3 h4 => ?_)
    exact z_iret rfl (zat dd_X10_lean 8 rfl)
/-! PaperDollsModel.days()I -/
def L_X10_days : List (Nat × Instr × Nat) := [(0, .iconst 0, 1), (1, .istore_n 1, 1), (2, .iload_n 1, 1), (3, .sipush 256, 3), (6, .if_icmp .ge 16, 3), (9, .aload_n 0, 1), (10, .getfield 38, 3), (13, .iload_n 1, 1), (14, .iconst 0, 1), (15, .iastore, 1), (16, .iinc 1 1, 3), (19, .goto (-17), 3), (22, .iconst 1, 1), (23, .istore_n 1, 1), (24, .iload_n 1, 1), (25, .iconst 1, 1), (26, .aload_n 0, 1), (27, .getfield 7, 3), (30, .iconst 0, 1), (31, .iaload, 1), (32, .ishl, 1), (33, .if_icmp .ge 97, 3), (36, .aload_n 0, 1), (37, .iload_n 1, 1), (38, .invokevirtual 192, 3), (41, .ifCond .eq 83, 3), (44, .sipush 255, 3), (47, .istore_n 2, 1), (48, .iload_n 2, 1), (49, .ifCond .lt 75, 3), (52, .iload_n 1, 1), (53, .iload_n 2, 1), (54, .iconst (-1), 1), (55, .ixor, 1), (56, .iand, 1), (57, .ifCond .ne 28, 3), (60, .aload_n 0, 1), (61, .getfield 38, 3), (64, .iload_n 2, 1), (65, .iload_n 1, 1), (66, .iconst (-1), 1), (67, .ixor, 1), (68, .iand, 1), (69, .iaload, 1), (70, .iconst 1, 1), (71, .iadd, 1), (72, .aload_n 0, 1), (73, .getfield 38, 3), (76, .iload_n 2, 1), (77, .iaload, 1), (78, .if_icmp .le 7, 3), (81, .iconst 1, 1), (82, .goto 4, 3), (85, .iconst 0, 1), (86, .istore_n 3, 1), (87, .aload_n 0, 1), (88, .getfield 38, 3), (91, .iload_n 2, 1), (92, .iload_n 3, 1), (93, .ifCond .eq 18, 3), (96, .aload_n 0, 1), (97, .getfield 38, 3), (100, .iload_n 2, 1), (101, .iload_n 1, 1), (102, .iconst (-1), 1), (103, .ixor, 1), (104, .iand, 1), (105, .iaload, 1), (106, .iconst 1, 1), (107, .iadd, 1), (108, .goto 9, 3), (111, .aload_n 0, 1), (112, .getfield 38, 3), (115, .iload_n 2, 1), (116, .iaload, 1), (117, .iastore, 1), (118, .iinc 2 (-1), 3), (121, .goto (-73), 3), (124, .iinc 1 1, 3), (127, .goto (-103), 3), (130, .aload_n 0, 1), (131, .getfield 38, 3), (134, .sipush 255, 3), (137, .iaload, 1), (138, .ireturn, 1)]
theorem dd_X10_days : ∀ q ∈ L_X10_days, decode cX10_days q.1 = .ok q.2 := by decide +kernel
abbrev M_X10_days : zM := (cX10_days, RX10, "days", 4, some .int, 3, 0, 0)
theorem u_X10_days : zCal yX10_days (M_X10_days) 0 := ⟨(zmem 1083 (by decide +kernel) rfl : Cond.code yX10_days cX10_days 4 (some .int) ∈ zTb), zmem 63 (by decide +kernel) rfl, by decide +kernel, Nat.le_of_ble_eq_true rfl⟩
theorem qi_X10_days : Cond.instanceMethod yX10_days ∈ zTb := zmem 1081 (by decide +kernel) rfl
theorem qs_X10_days : Cond.selects yX10_days.cls yX10_days yX10_days ∈ zTb := zmem 1082 (by decide +kernel) rfl
def f_X10_days_124 (k24 : Nat → Int32 → zH → zR) (v0 : Nat) (v1 : Int32) (h : zH) : zR :=
  k24 v0 (v1 + 1) h
set_option maxRecDepth 100000 in
set_option maxHeartbeats 4000000 in
theorem zb_X10_days_124 (Y : zY) (k24 : Nat → Int32 → zH → zR) (hk24 : ∀ (v0 : Nat) (v1 : Int32) (h : zH), Z Y M_X10_days 0 0 24 [(0, .ref v0), (1, .int v1)] [] h (k24 v0 v1 h)) (v0 : Nat) (v1 : Int32) (h : zH) : Z Y M_X10_days 0 0 124 [(0, .ref v0), (1, .int v1)] [] h (f_X10_days_124 k24 v0 v1 h) := by
  rw [f_X10_days_124]
  refine z_iinc (y := v1 + 1) (lv' := [(1, .int (v1 + 1)), (0, .ref v0)]) 1 (zat dd_X10_days 78 rfl) rfl rfl (Nat.le_of_ble_eq_true rfl) rfl ?_
  refine z_goto (tgt := 24) (zat dd_X10_days 79 rfl) (by decide) ?_
  refine z_sub [1, 0] rfl ?_
  exact hk24 v0 (v1 + 1) h
def f_X10_days_117 (k48 : Nat → Int32 → Int32 → zH → zR) (v0 : Nat) (v1 : Int32) (v2 : Int32) (t0 : Int32) (t1 : Int32) (t2 : Nat) (h : zH) : zR :=
  zsI h t2 0 t1 t0 fun h1 =>
  k48 v0 v1 (v2 + (-1)) h1
set_option maxRecDepth 100000 in
set_option maxHeartbeats 4000000 in
theorem zb_X10_days_117 (Y : zY) (k48 : Nat → Int32 → Int32 → zH → zR) (hk48 : ∀ (v0 : Nat) (v1 : Int32) (v2 : Int32) (h : zH), Z Y M_X10_days 0 0 48 [(0, .ref v0), (1, .int v1), (2, .int v2)] [] h (k48 v0 v1 v2 h)) (v0 : Nat) (v1 : Int32) (v2 : Int32) (t0 : Int32) (t1 : Int32) (t2 : Nat) (h : zH) : Z Y M_X10_days 0 0 117 [(0, .ref v0), (1, .int v1), (2, .int v2)] [.int t0, .int t1, .ref t2] h (f_X10_days_117 k48 v0 v1 v2 t0 t1 t2 h) := by
  rw [f_X10_days_117]
  refine z_iast (zat dd_X10_days 75 rfl) (fun h1 => ?_)
  refine z_iinc (y := v2 + (-1)) (lv' := [(2, .int (v2 + (-1))), (0, .ref v0), (1, .int v1)]) 2 (zat dd_X10_days 76 rfl) rfl rfl (Nat.le_of_ble_eq_true rfl) rfl ?_
  refine z_goto (tgt := 48) (zat dd_X10_days 77 rfl) (by decide) ?_
  refine z_sub [1, 2, 0] rfl ?_
  exact hk48 v0 v1 (v2 + (-1)) h1
def f_X10_days_86 (k48 : Nat → Int32 → Int32 → zH → zR) (v0 : Nat) (v1 : Int32) (v2 : Int32) (t0 : Int32) (h : zH) : zR :=
  zgR h v0 6 17 fun a1 =>
  if t0 = 0 then
  zgR h v0 6 17 fun a2 =>
  zaI h a2 0 v2 fun x3 =>
  f_X10_days_117 k48 v0 v1 v2 x3 v2 a1 h
  else
  zgR h v0 6 17 fun a4 =>
  zaI h a4 0 (v2 &&& (v1 ^^^ (-1))) fun x5 =>
  f_X10_days_117 k48 v0 v1 v2 (x5 + 1) v2 a1 h
set_option maxRecDepth 100000 in
set_option maxHeartbeats 4000000 in
theorem zb_X10_days_86 (Y : zY) (k48 : Nat → Int32 → Int32 → zH → zR) (hk48 : ∀ (v0 : Nat) (v1 : Int32) (v2 : Int32) (h : zH), Z Y M_X10_days 0 0 48 [(0, .ref v0), (1, .int v1), (2, .int v2)] [] h (k48 v0 v1 v2 h)) (v0 : Nat) (v1 : Int32) (v2 : Int32) (t0 : Int32) (h : zH) : Z Y M_X10_days 0 0 86 [(0, .ref v0), (1, .int v1), (2, .int v2)] [.int t0] h (f_X10_days_86 k48 v0 v1 v2 t0 h) := by
  rw [f_X10_days_86]
  refine z_istore_n (lv' := [(3, .int t0), (0, .ref v0), (1, .int v1), (2, .int v2)]) (zat dd_X10_days 54 rfl) rfl (Nat.le_of_ble_eq_true rfl) rfl ?_
  refine z_aload_n 1 (zat dd_X10_days 55 rfl) rfl rfl ?_
  refine z_getR fl_X10_38 (zat dd_X10_days 56 rfl) (fun a1 => ?_)
  refine z_iload_n 3 (zat dd_X10_days 57 rfl) rfl rfl ?_
  refine z_iload_n 0 (zat dd_X10_days 58 rfl) rfl rfl ?_
  refine z_if_eq (tgt := 111) (zat dd_X10_days 59 rfl) (by decide) ?_ ?_
  · refine z_aload_n 1 (zat dd_X10_days 71 rfl) rfl rfl ?_
    refine z_getR fl_X10_38 (zat dd_X10_days 72 rfl) (fun a2 => ?_)
    refine z_iload_n 3 (zat dd_X10_days 73 rfl) rfl rfl ?_
    refine z_iald (zat dd_X10_days 74 rfl) (fun x3 => ?_)
    refine z_sub [1, 2, 3] rfl ?_
    exact zb_X10_days_117 Y k48 hk48 v0 v1 v2 x3 v2 a1 h
  · refine z_aload_n 1 (zat dd_X10_days 60 rfl) rfl rfl ?_
    refine z_getR fl_X10_38 (zat dd_X10_days 61 rfl) (fun a4 => ?_)
    refine z_iload_n 3 (zat dd_X10_days 62 rfl) rfl rfl ?_
    refine z_iload_n 2 (zat dd_X10_days 63 rfl) rfl rfl ?_
    refine z_iconst (x := (-1)) (zat dd_X10_days 64 rfl) (by decide) ?_
    refine z_ixor (zat dd_X10_days 65 rfl) ?_
    refine z_iand (zat dd_X10_days 66 rfl) ?_
    refine z_iald (zat dd_X10_days 67 rfl) (fun x5 => ?_)
    refine z_iconst (x := 1) (zat dd_X10_days 68 rfl) (by decide) ?_
    refine z_iadd (zat dd_X10_days 69 rfl) ?_
    refine z_goto (tgt := 117) (zat dd_X10_days 70 rfl) (by decide) ?_
    refine z_sub [1, 2, 3] rfl ?_
    exact zb_X10_days_117 Y k48 hk48 v0 v1 v2 (x5 + 1) v2 a1 h
def f_X10_days_85 (k48 : Nat → Int32 → Int32 → zH → zR) (v0 : Nat) (v1 : Int32) (v2 : Int32) (h : zH) : zR :=
  f_X10_days_86 k48 v0 v1 v2 0 h
set_option maxRecDepth 100000 in
set_option maxHeartbeats 4000000 in
theorem zb_X10_days_85 (Y : zY) (k48 : Nat → Int32 → Int32 → zH → zR) (hk48 : ∀ (v0 : Nat) (v1 : Int32) (v2 : Int32) (h : zH), Z Y M_X10_days 0 0 48 [(0, .ref v0), (1, .int v1), (2, .int v2)] [] h (k48 v0 v1 v2 h)) (v0 : Nat) (v1 : Int32) (v2 : Int32) (h : zH) : Z Y M_X10_days 0 0 85 [(0, .ref v0), (1, .int v1), (2, .int v2)] [] h (f_X10_days_85 k48 v0 v1 v2 h) := by
  rw [f_X10_days_85]
  refine z_iconst (x := 0) (zat dd_X10_days 53 rfl) (by decide) ?_
  exact zb_X10_days_86 Y k48 hk48 v0 v1 v2 0 h
def f_X10_days_48 (k24 : Nat → Int32 → zH → zR) : Nat → Nat → Int32 → Int32 → zH → zR
  | 0, _, _, _, _ => none
  | n + 1, v0, v1, v2, h =>
  if v2 < 0 then
  f_X10_days_124 k24 v0 v1 h
  else
  if (v1 &&& (v2 ^^^ (-1))) = 0 then
  zgR h v0 6 17 fun a1 =>
  zaI h a1 0 (v2 &&& (v1 ^^^ (-1))) fun x2 =>
  zgR h v0 6 17 fun a3 =>
  zaI h a3 0 v2 fun x4 =>
  if (x2 + 1) ≤ x4 then
  f_X10_days_85 (f_X10_days_48 k24 n) v0 v1 v2 h
  else
  f_X10_days_86 (f_X10_days_48 k24 n) v0 v1 v2 1 h
  else
  f_X10_days_85 (f_X10_days_48 k24 n) v0 v1 v2 h
set_option maxRecDepth 100000 in
set_option maxHeartbeats 4000000 in
theorem zb_X10_days_48 (Y : zY) (k24 : Nat → Int32 → zH → zR) (hk24 : ∀ (v0 : Nat) (v1 : Int32) (h : zH), Z Y M_X10_days 0 0 24 [(0, .ref v0), (1, .int v1)] [] h (k24 v0 v1 h)) : ∀ (n : Nat) (v0 : Nat) (v1 : Int32) (v2 : Int32) (h : zH), Z Y M_X10_days 0 0 48 [(0, .ref v0), (1, .int v1), (2, .int v2)] [] h (f_X10_days_48 k24 n v0 v1 v2 h) := by
  intro n
  induction n with
  | zero =>
    intro v0 v1 v2 h
    rw [f_X10_days_48]
    exact z_none
  | succ n ih =>
    intro v0 v1 v2 h
    rw [f_X10_days_48]
    refine z_iload_n 2 (zat dd_X10_days 28 rfl) rfl rfl ?_
    refine z_if_lt (tgt := 124) (zat dd_X10_days 29 rfl) (by decide) ?_ ?_
    · refine z_sub [0, 1] rfl ?_
      exact zb_X10_days_124 Y k24 hk24 v0 v1 h
    · refine z_iload_n 1 (zat dd_X10_days 30 rfl) rfl rfl ?_
      refine z_iload_n 2 (zat dd_X10_days 31 rfl) rfl rfl ?_
      refine z_iconst (x := (-1)) (zat dd_X10_days 32 rfl) (by decide) ?_
      refine z_ixor (zat dd_X10_days 33 rfl) ?_
      refine z_iand (zat dd_X10_days 34 rfl) ?_
      refine z_if_ne (tgt := 85) (zat dd_X10_days 35 rfl) (by decide) ?_ ?_
      · exact zb_X10_days_85 Y (f_X10_days_48 k24 n) ih v0 v1 v2 h
      · refine z_aload_n 0 (zat dd_X10_days 36 rfl) rfl rfl ?_
        refine z_getR fl_X10_38 (zat dd_X10_days 37 rfl) (fun a1 => ?_)
        refine z_iload_n 2 (zat dd_X10_days 38 rfl) rfl rfl ?_
        refine z_iload_n 1 (zat dd_X10_days 39 rfl) rfl rfl ?_
        refine z_iconst (x := (-1)) (zat dd_X10_days 40 rfl) (by decide) ?_
        refine z_ixor (zat dd_X10_days 41 rfl) ?_
        refine z_iand (zat dd_X10_days 42 rfl) ?_
        refine z_iald (zat dd_X10_days 43 rfl) (fun x2 => ?_)
        refine z_iconst (x := 1) (zat dd_X10_days 44 rfl) (by decide) ?_
        refine z_iadd (zat dd_X10_days 45 rfl) ?_
        refine z_aload_n 0 (zat dd_X10_days 46 rfl) rfl rfl ?_
        refine z_getR fl_X10_38 (zat dd_X10_days 47 rfl) (fun a3 => ?_)
        refine z_iload_n 2 (zat dd_X10_days 48 rfl) rfl rfl ?_
        refine z_iald (zat dd_X10_days 49 rfl) (fun x4 => ?_)
        refine z_icmp_le (tgt := 85) (zat dd_X10_days 50 rfl) (by decide) ?_ ?_
        · exact zb_X10_days_85 Y (f_X10_days_48 k24 n) ih v0 v1 v2 h
        · refine z_iconst (x := 1) (zat dd_X10_days 51 rfl) (by decide) ?_
          refine z_goto (tgt := 86) (zat dd_X10_days 52 rfl) (by decide) ?_
          exact zb_X10_days_86 Y (f_X10_days_48 k24 n) ih v0 v1 v2 1 h
def f_X10_days_24 : Nat → Nat → Int32 → zH → zR
  | 0, _, _, _ => none
  | n + 1, v0, v1, h =>
  zgR h v0 6 0 fun a1 =>
  zaI h a1 0 0 fun x2 =>
  if (1 <<< (x2 &&& 31)) ≤ v1 then
  zgR h v0 6 17 fun a3 =>
  zaI h a3 0 255 fun x4 =>
  zrI x4 h
  else
  zoc h v0 6 <|
  zcI (f_X10_isOutfit v0 v1 h) fun x5 h6 =>
  if x5 = 0 then
  f_X10_days_124 (f_X10_days_24 n) v0 v1 h6
  else
  f_X10_days_48 (f_X10_days_24 n) zF v0 v1 255 h6
set_option maxRecDepth 100000 in
set_option maxHeartbeats 4000000 in
theorem zb_X10_days_24 (Y : zY) : ∀ (n : Nat) (v0 : Nat) (v1 : Int32) (h : zH), Z Y M_X10_days 0 0 24 [(0, .ref v0), (1, .int v1)] [] h (f_X10_days_24 n v0 v1 h) := by
  intro n
  induction n with
  | zero =>
    intro v0 v1 h
    rw [f_X10_days_24]
    exact z_none
  | succ n ih =>
    intro v0 v1 h
    rw [f_X10_days_24]
    refine z_iload_n 1 (zat dd_X10_days 14 rfl) rfl rfl ?_
    refine z_iconst (x := 1) (zat dd_X10_days 15 rfl) (by decide) ?_
    refine z_aload_n 0 (zat dd_X10_days 16 rfl) rfl rfl ?_
    refine z_getR fl_X10_7 (zat dd_X10_days 17 rfl) (fun a1 => ?_)
    refine z_iconst (x := 0) (zat dd_X10_days 18 rfl) (by decide) ?_
    refine z_iald (zat dd_X10_days 19 rfl) (fun x2 => ?_)
    refine z_ishl (zat dd_X10_days 20 rfl) ?_
    refine z_icmp_ge (tgt := 130) (zat dd_X10_days 21 rfl) (by decide) ?_ ?_
    · refine z_aload_n 0 (zat dd_X10_days 80 rfl) rfl rfl ?_
      refine z_getR fl_X10_38 (zat dd_X10_days 81 rfl) (fun a3 => ?_)
      refine z_sipush (x := 255) (zat dd_X10_days 82 rfl) (by decide) ?_
      refine z_iald (zat dd_X10_days 83 rfl) (fun x4 => ?_)
      exact z_iret rfl (zat dd_X10_days 84 rfl)
    · refine z_aload_n 0 (zat dd_X10_days 22 rfl) rfl rfl ?_
      refine z_iload_n 1 (zat dd_X10_days 23 rfl) rfl rfl ?_
      refine z_callV_I0 (M2 := M_X10_isOutfit) [.int v1] (fun l D _ _ => m_X10_isOutfit l D v0 v1 h) u_X10_isOutfit ql_X10_192 qi_X10_isOutfit qs_X10_isOutfit (ci := 6) rfl rfl rfl (Nat.le_of_ble_eq_true rfl) (by decide) rfl rfl (zat dd_X10_days 24 rfl) (fun x5 h6 => ?_)
      refine z_if_eq (tgt := 124) (zat dd_X10_days 25 rfl) (by decide) ?_ ?_
      · exact zb_X10_days_124 Y (f_X10_days_24 n) ih v0 v1 h6
      · refine z_sipush (x := 255) (zat dd_X10_days 26 rfl) (by decide) ?_
        refine z_istore_n (lv' := [(2, .int 255), (0, .ref v0), (1, .int v1)]) (zat dd_X10_days 27 rfl) rfl (Nat.le_of_ble_eq_true rfl) rfl ?_
        refine z_sub [1, 2, 0] rfl ?_
        exact zb_X10_days_48 Y (f_X10_days_24 n) ih zF v0 v1 255 h6
def f_X10_days_2 : Nat → Nat → Int32 → zH → zR
  | 0, _, _, _ => none
  | n + 1, v0, v1, h =>
  if 256 ≤ v1 then
  f_X10_days_24 zF v0 1 h
  else
  zgR h v0 6 17 fun a1 =>
  zsI h a1 0 v1 0 fun h2 =>
  f_X10_days_2 n v0 (v1 + 1) h2
set_option maxRecDepth 100000 in
set_option maxHeartbeats 4000000 in
theorem zb_X10_days_2 (Y : zY) : ∀ (n : Nat) (v0 : Nat) (v1 : Int32) (h : zH), Z Y M_X10_days 0 0 2 [(0, .ref v0), (1, .int v1)] [] h (f_X10_days_2 n v0 v1 h) := by
  intro n
  induction n with
  | zero =>
    intro v0 v1 h
    rw [f_X10_days_2]
    exact z_none
  | succ n ih =>
    intro v0 v1 h
    rw [f_X10_days_2]
    refine z_iload_n 1 (zat dd_X10_days 2 rfl) rfl rfl ?_
    refine z_sipush (x := 256) (zat dd_X10_days 3 rfl) (by decide) ?_
    refine z_icmp_ge (tgt := 22) (zat dd_X10_days 4 rfl) (by decide) ?_ ?_
    · refine z_iconst (x := 1) (zat dd_X10_days 12 rfl) (by decide) ?_
      refine z_istore_n (lv' := [(1, .int 1), (0, .ref v0)]) (zat dd_X10_days 13 rfl) rfl (Nat.le_of_ble_eq_true rfl) rfl ?_
      refine z_sub [1, 0] rfl ?_
      exact zb_X10_days_24 Y zF v0 1 h
    · refine z_aload_n 0 (zat dd_X10_days 5 rfl) rfl rfl ?_
      refine z_getR fl_X10_38 (zat dd_X10_days 6 rfl) (fun a1 => ?_)
      refine z_iload_n 1 (zat dd_X10_days 7 rfl) rfl rfl ?_
      refine z_iconst (x := 0) (zat dd_X10_days 8 rfl) (by decide) ?_
      refine z_iast (zat dd_X10_days 9 rfl) (fun h2 => ?_)
      refine z_iinc (y := v1 + 1) (lv' := [(1, .int (v1 + 1)), (0, .ref v0)]) 1 (zat dd_X10_days 10 rfl) rfl rfl (Nat.le_of_ble_eq_true rfl) rfl ?_
      refine z_goto (tgt := 2) (zat dd_X10_days 11 rfl) (by decide) ?_
      refine z_sub [1, 0] rfl ?_
      exact ih v0 (v1 + 1) h2
def f_X10_days (v0 : Nat) (h : zH) : zR :=
  f_X10_days_2 zF v0 0 h
set_option maxRecDepth 100000 in
set_option maxHeartbeats 4000000 in
theorem m_X10_days (l : Launch) (D : zD) (v0 : Nat) (h : zH) : zMet l D yX10_days M_X10_days [.ref v0] h (f_X10_days v0 h) := by
  refine zMet.of (by decide +kernel) ⟨rfl, rfl⟩ (Nat.le_of_ble_eq_true rfl) (fun Y hl hD => ?_)
  show Z Y M_X10_days 0 0 0 [(0, .ref v0)] [] h _
  rw [f_X10_days]
  refine z_iconst (x := 0) (zat dd_X10_days 0 rfl) (by decide) ?_
  refine z_istore_n (lv' := [(1, .int 0), (0, .ref v0)]) (zat dd_X10_days 1 rfl) rfl (Nat.le_of_ble_eq_true rfl) rfl ?_
  refine z_sub [1, 0] rfl ?_
  exact zb_X10_days_2 Y zF v0 0 h
/-! PaperDollsModel.spared()I -/
def L_X10_spared : List (Nat × Instr × Nat) := [(0, .iconst 0, 1), (1, .istore_n 1, 1), (2, .iconst 1, 1), (3, .istore_n 2, 1), (4, .iload_n 2, 1), (5, .iconst 1, 1), (6, .aload_n 0, 1), (7, .getfield 7, 3), (10, .iconst 0, 1), (11, .iaload, 1), (12, .ishl, 1), (13, .if_icmp .ge 25, 3), (16, .iload_n 1, 1), (17, .aload_n 0, 1), (18, .iload_n 2, 1), (19, .invokevirtual 192, 3), (22, .ifCond .eq 7, 3), (25, .iload_n 2, 1), (26, .goto 4, 3), (29, .iconst 0, 1), (30, .ior, 1), (31, .istore_n 1, 1), (32, .iinc 2 1, 3), (35, .goto (-31), 3), (38, .iconst 1, 1), (39, .aload_n 0, 1), (40, .getfield 7, 3), (43, .iconst 0, 1), (44, .iaload, 1), (45, .ishl, 1), (46, .iconst 1, 1), (47, .isub, 1), (48, .iload_n 1, 1), (49, .iconst (-1), 1), (50, .ixor, 1), (51, .iand, 1), (52, .ireturn, 1)]
theorem dd_X10_spared : ∀ q ∈ L_X10_spared, decode cX10_spared q.1 = .ok q.2 := by decide +kernel
abbrev M_X10_spared : zM := (cX10_spared, RX10, "spared", 3, some .int, 3, 0, 0)
theorem u_X10_spared : zCal yX10_spared (M_X10_spared) 0 := ⟨(zmem 1087 (by decide +kernel) rfl : Cond.code yX10_spared cX10_spared 3 (some .int) ∈ zTb), zmem 63 (by decide +kernel) rfl, by decide +kernel, Nat.le_of_ble_eq_true rfl⟩
theorem qi_X10_spared : Cond.instanceMethod yX10_spared ∈ zTb := zmem 1085 (by decide +kernel) rfl
theorem qs_X10_spared : Cond.selects yX10_spared.cls yX10_spared yX10_spared ∈ zTb := zmem 1086 (by decide +kernel) rfl
def f_X10_spared_30 (k4 : Nat → Int32 → Int32 → zH → zR) (v0 : Nat) (v2 : Int32) (t0 : Int32) (t1 : Int32) (h : zH) : zR :=
  zlt (t1 ||| t0) fun x1 =>
  k4 v0 x1 (v2 + 1) h
set_option maxRecDepth 100000 in
set_option maxHeartbeats 4000000 in
theorem zb_X10_spared_30 (Y : zY) (k4 : Nat → Int32 → Int32 → zH → zR) (hk4 : ∀ (v0 : Nat) (v1 : Int32) (v2 : Int32) (h : zH), Z Y M_X10_spared 0 0 4 [(0, .ref v0), (1, .int v1), (2, .int v2)] [] h (k4 v0 v1 v2 h)) (v0 : Nat) (v2 : Int32) (t0 : Int32) (t1 : Int32) (h : zH) : Z Y M_X10_spared 0 0 30 [(0, .ref v0), (2, .int v2)] [.int t0, .int t1] h (f_X10_spared_30 k4 v0 v2 t0 t1 h) := by
  rw [f_X10_spared_30]
  refine z_ior (zat dd_X10_spared 20 rfl) ?_
  refine z_let (fun x1 => ?_)
  refine z_istore_n (lv' := [(1, .int x1), (0, .ref v0), (2, .int v2)]) (zat dd_X10_spared 21 rfl) rfl (Nat.le_of_ble_eq_true rfl) rfl ?_
  refine z_iinc (y := v2 + 1) (lv' := [(2, .int (v2 + 1)), (1, .int x1), (0, .ref v0)]) 2 (zat dd_X10_spared 22 rfl) rfl rfl (Nat.le_of_ble_eq_true rfl) rfl ?_
  refine z_goto (tgt := 4) (zat dd_X10_spared 23 rfl) (by decide) ?_
  refine z_sub [2, 1, 0] rfl ?_
  exact hk4 v0 x1 (v2 + 1) h
def f_X10_spared_4 : Nat → Nat → Int32 → Int32 → zH → zR
  | 0, _, _, _, _ => none
  | n + 1, v0, v1, v2, h =>
  zgR h v0 6 0 fun a1 =>
  zaI h a1 0 0 fun x2 =>
  if (1 <<< (x2 &&& 31)) ≤ v2 then
  zgR h v0 6 0 fun a3 =>
  zaI h a3 0 0 fun x4 =>
  zrI (((1 <<< (x4 &&& 31)) - 1) &&& (v1 ^^^ (-1))) h
  else
  zoc h v0 6 <|
  zcI (f_X10_isOutfit v0 v2 h) fun x5 h6 =>
  if x5 = 0 then
  f_X10_spared_30 (f_X10_spared_4 n) v0 v2 0 v1 h6
  else
  f_X10_spared_30 (f_X10_spared_4 n) v0 v2 v2 v1 h6
set_option maxRecDepth 100000 in
set_option maxHeartbeats 4000000 in
theorem zb_X10_spared_4 (Y : zY) : ∀ (n : Nat) (v0 : Nat) (v1 : Int32) (v2 : Int32) (h : zH), Z Y M_X10_spared 0 0 4 [(0, .ref v0), (1, .int v1), (2, .int v2)] [] h (f_X10_spared_4 n v0 v1 v2 h) := by
  intro n
  induction n with
  | zero =>
    intro v0 v1 v2 h
    rw [f_X10_spared_4]
    exact z_none
  | succ n ih =>
    intro v0 v1 v2 h
    rw [f_X10_spared_4]
    refine z_iload_n 2 (zat dd_X10_spared 4 rfl) rfl rfl ?_
    refine z_iconst (x := 1) (zat dd_X10_spared 5 rfl) (by decide) ?_
    refine z_aload_n 0 (zat dd_X10_spared 6 rfl) rfl rfl ?_
    refine z_getR fl_X10_7 (zat dd_X10_spared 7 rfl) (fun a1 => ?_)
    refine z_iconst (x := 0) (zat dd_X10_spared 8 rfl) (by decide) ?_
    refine z_iald (zat dd_X10_spared 9 rfl) (fun x2 => ?_)
    refine z_ishl (zat dd_X10_spared 10 rfl) ?_
    refine z_icmp_ge (tgt := 38) (zat dd_X10_spared 11 rfl) (by decide) ?_ ?_
    · refine z_iconst (x := 1) (zat dd_X10_spared 24 rfl) (by decide) ?_
      refine z_aload_n 0 (zat dd_X10_spared 25 rfl) rfl rfl ?_
      refine z_getR fl_X10_7 (zat dd_X10_spared 26 rfl) (fun a3 => ?_)
      refine z_iconst (x := 0) (zat dd_X10_spared 27 rfl) (by decide) ?_
      refine z_iald (zat dd_X10_spared 28 rfl) (fun x4 => ?_)
      refine z_ishl (zat dd_X10_spared 29 rfl) ?_
      refine z_iconst (x := 1) (zat dd_X10_spared 30 rfl) (by decide) ?_
      refine z_isub (zat dd_X10_spared 31 rfl) ?_
      refine z_iload_n 1 (zat dd_X10_spared 32 rfl) rfl rfl ?_
      refine z_iconst (x := (-1)) (zat dd_X10_spared 33 rfl) (by decide) ?_
      refine z_ixor (zat dd_X10_spared 34 rfl) ?_
      refine z_iand (zat dd_X10_spared 35 rfl) ?_
      exact z_iret rfl (zat dd_X10_spared 36 rfl)
    · refine z_iload_n 1 (zat dd_X10_spared 12 rfl) rfl rfl ?_
      refine z_aload_n 0 (zat dd_X10_spared 13 rfl) rfl rfl ?_
      refine z_iload_n 2 (zat dd_X10_spared 14 rfl) rfl rfl ?_
      refine z_callV_I0 (M2 := M_X10_isOutfit) [.int v2] (fun l D _ _ => m_X10_isOutfit l D v0 v2 h) u_X10_isOutfit ql_X10_192 qi_X10_isOutfit qs_X10_isOutfit (ci := 6) rfl rfl rfl (Nat.le_of_ble_eq_true rfl) (by decide) rfl rfl (zat dd_X10_spared 15 rfl) (fun x5 h6 => ?_)
      refine z_if_eq (tgt := 29) (zat dd_X10_spared 16 rfl) (by decide) ?_ ?_
      · refine z_iconst (x := 0) (zat dd_X10_spared 19 rfl) (by decide) ?_
        refine z_sub [0, 2] rfl ?_
        exact zb_X10_spared_30 Y (f_X10_spared_4 n) ih v0 v2 0 v1 h6
      · refine z_iload_n 2 (zat dd_X10_spared 17 rfl) rfl rfl ?_
        refine z_goto (tgt := 30) (zat dd_X10_spared 18 rfl) (by decide) ?_
        refine z_sub [0, 2] rfl ?_
        exact zb_X10_spared_30 Y (f_X10_spared_4 n) ih v0 v2 v2 v1 h6
def f_X10_spared (v0 : Nat) (h : zH) : zR :=
  f_X10_spared_4 zF v0 0 1 h
set_option maxRecDepth 100000 in
set_option maxHeartbeats 4000000 in
theorem m_X10_spared (l : Launch) (D : zD) (v0 : Nat) (h : zH) : zMet l D yX10_spared M_X10_spared [.ref v0] h (f_X10_spared v0 h) := by
  refine zMet.of (by decide +kernel) ⟨rfl, rfl⟩ (Nat.le_of_ble_eq_true rfl) (fun Y hl hD => ?_)
  show Z Y M_X10_spared 0 0 0 [(0, .ref v0)] [] h _
  rw [f_X10_spared]
  refine z_iconst (x := 0) (zat dd_X10_spared 0 rfl) (by decide) ?_
  refine z_istore_n (lv' := [(1, .int 0), (0, .ref v0)]) (zat dd_X10_spared 1 rfl) rfl (Nat.le_of_ble_eq_true rfl) rfl ?_
  refine z_iconst (x := 1) (zat dd_X10_spared 2 rfl) (by decide) ?_
  refine z_istore_n (lv' := [(2, .int 1), (1, .int 0), (0, .ref v0)]) (zat dd_X10_spared 3 rfl) rfl (Nat.le_of_ble_eq_true rfl) rfl ?_
  refine z_sub [2, 1, 0] rfl ?_
  exact zb_X10_spared_4 Y zF v0 0 1 h
/-! PaperDollsModel.goRow(II)Z -/
def L_X10_goRow : List (Nat × Instr × Nat) := [(0, .iconst 3, 1), (1, .aload_n 0, 1), (2, .getfield 7, 3), (5, .iconst 0, 1), (6, .iaload, 1), (7, .imul, 1), (8, .istore_n 3, 1), (9, .iconst 1, 1), (10, .istore 4, 2), (12, .iconst 1, 1), (13, .istore 5, 2), (15, .iload 5, 2), (17, .iload_n 2, 1), (18, .if_icmp .ge 15, 3), (21, .iload 4, 2), (23, .iload_n 3, 1), (24, .imul, 1), (25, .istore 4, 2), (27, .iinc 5 1, 3), (30, .goto (-15), 3), (33, .aload_n 0, 1), (34, .invokevirtual 106, 3), (37, .iconst 1, 1), (38, .istore 5, 2), (40, .iconst 0, 1), (41, .istore 6, 2), (43, .iload 6, 2), (45, .iload_n 2, 1), (46, .if_icmp .ge 52, 3), (49, .iload 5, 2), (51, .ifCond .eq 47, 3), (54, .iload_n 1, 1), (55, .iload 4, 2), (57, .idiv, 1), (58, .iload_n 3, 1), (59, .irem, 1), (60, .istore 7, 2), (62, .aload_n 0, 1), (63, .iload 7, 2), (65, .aload_n 0, 1), (66, .getfield 7, 3), (69, .iconst 0, 1), (70, .iaload, 1), (71, .idiv, 1), (72, .iload 7, 2), (74, .aload_n 0, 1), (75, .getfield 7, 3), (78, .iconst 0, 1), (79, .iaload, 1), (80, .irem, 1), (81, .invokevirtual 158, 3), (84, .istore 5, 2), (86, .iload 4, 2), (88, .iload_n 3, 1), (89, .idiv, 1), (90, .istore 4, 2), (92, .iinc 6 1, 3), (95, .goto (-52), 3), (98, .iload 5, 2), (100, .ireturn, 1)]
theorem dd_X10_goRow : ∀ q ∈ L_X10_goRow, decode cX10_goRow q.1 = .ok q.2 := by decide +kernel
abbrev M_X10_goRow : zM := (cX10_goRow, RX10, "goRow", 8, some .boolean, 4, 0, 0)
theorem u_X10_goRow : zCal yX10_goRow (M_X10_goRow) 2 := ⟨(zmem 1095 (by decide +kernel) rfl : Cond.code yX10_goRow cX10_goRow 8 (some .boolean) ∈ zTb), zmem 63 (by decide +kernel) rfl, by decide +kernel, Nat.le_of_ble_eq_true rfl⟩
theorem qi_X10_goRow : Cond.instanceMethod yX10_goRow ∈ zTb := zmem 1094 (by decide +kernel) rfl
theorem qs_X10_goRow : Cond.selects yX10_goRow.cls yX10_goRow yX10_goRow ∈ zTb := zmem 47 (by decide +kernel) rfl
def f_X10_goRow_98 (v5 : Int32) (h : zH) : zR :=
  zrZ v5 h
set_option maxRecDepth 100000 in
set_option maxHeartbeats 4000000 in
theorem zb_X10_goRow_98 (Y : zY) (v5 : Int32) (h : zH) : Z Y M_X10_goRow 0 0 98 [(5, .int v5)] [] h (f_X10_goRow_98 v5 h) := by
  rw [f_X10_goRow_98]
  refine z_iload 0 (zat dd_X10_goRow 58 rfl) rfl ?_
  exact z_zret rfl (zat dd_X10_goRow 59 rfl)
def f_X10_goRow_43 : Nat → Nat → Int32 → Int32 → Int32 → Int32 → Int32 → Int32 → zH → zR
  | 0, _, _, _, _, _, _, _, _ => none
  | n + 1, v0, v1, v2, v3, v4, v5, v6, h =>
  if v2 ≤ v6 then
  f_X10_goRow_98 v5 h
  else
  if v5 = 0 then
  f_X10_goRow_98 v5 h
  else
  zdv v4 <|
  zdv v3 <|
  zlt ((v1 / v4) - (v1 / v4) / v3 * v3) fun x1 =>
  zgR h v0 6 0 fun a2 =>
  zaI h a2 0 0 fun x3 =>
  zdv x3 <|
  zgR h v0 6 0 fun a4 =>
  zaI h a4 0 0 fun x5 =>
  zdv x5 <|
  zoc h v0 6 <|
  zcI (f_X10_goMove v0 (x1 / x3) (x1 - x1 / x5 * x5) h) fun x6 h7 =>
  zdv v3 <|
  zlt (v4 / v3) fun x8 =>
  f_X10_goRow_43 n v0 v1 v2 v3 x8 x6 (v6 + 1) h7
set_option maxRecDepth 100000 in
set_option maxHeartbeats 4000000 in
theorem zb_X10_goRow_43 (Y : zY) : ∀ (n : Nat) (v0 : Nat) (v1 : Int32) (v2 : Int32) (v3 : Int32) (v4 : Int32) (v5 : Int32) (v6 : Int32) (h : zH), Z Y M_X10_goRow 0 0 43 [(0, .ref v0), (1, .int v1), (2, .int v2), (3, .int v3), (4, .int v4), (5, .int v5), (6, .int v6)] [] h (f_X10_goRow_43 n v0 v1 v2 v3 v4 v5 v6 h) := by
  intro n
  induction n with
  | zero =>
    intro v0 v1 v2 v3 v4 v5 v6 h
    rw [f_X10_goRow_43]
    exact z_none
  | succ n ih =>
    intro v0 v1 v2 v3 v4 v5 v6 h
    rw [f_X10_goRow_43]
    refine z_iload 6 (zat dd_X10_goRow 26 rfl) rfl ?_
    refine z_iload_n 2 (zat dd_X10_goRow 27 rfl) rfl rfl ?_
    refine z_icmp_ge (tgt := 98) (zat dd_X10_goRow 28 rfl) (by decide) ?_ ?_
    · refine z_sub [5] rfl ?_
      exact zb_X10_goRow_98 Y v5 h
    · refine z_iload 5 (zat dd_X10_goRow 29 rfl) rfl ?_
      refine z_if_eq (tgt := 98) (zat dd_X10_goRow 30 rfl) (by decide) ?_ ?_
      · refine z_sub [5] rfl ?_
        exact zb_X10_goRow_98 Y v5 h
      · refine z_iload_n 1 (zat dd_X10_goRow 31 rfl) rfl rfl ?_
        refine z_iload 4 (zat dd_X10_goRow 32 rfl) rfl ?_
        refine z_idiv (zat dd_X10_goRow 33 rfl) ?_
        refine z_iload_n 3 (zat dd_X10_goRow 34 rfl) rfl rfl ?_
        refine z_irem (zat dd_X10_goRow 35 rfl) ?_
        refine z_let (fun x1 => ?_)
        refine z_istore (lv' := [(7, .int x1), (0, .ref v0), (1, .int v1), (2, .int v2), (3, .int v3), (4, .int v4), (5, .int v5), (6, .int v6)]) (zat dd_X10_goRow 36 rfl) (Nat.le_of_ble_eq_true rfl) rfl ?_
        refine z_aload_n 1 (zat dd_X10_goRow 37 rfl) rfl rfl ?_
        refine z_iload 0 (zat dd_X10_goRow 38 rfl) rfl ?_
        refine z_aload_n 1 (zat dd_X10_goRow 39 rfl) rfl rfl ?_
        refine z_getR fl_X10_7 (zat dd_X10_goRow 40 rfl) (fun a2 => ?_)
        refine z_iconst (x := 0) (zat dd_X10_goRow 41 rfl) (by decide) ?_
        refine z_iald (zat dd_X10_goRow 42 rfl) (fun x3 => ?_)
        refine z_idiv (zat dd_X10_goRow 43 rfl) ?_
        refine z_iload 0 (zat dd_X10_goRow 44 rfl) rfl ?_
        refine z_aload_n 1 (zat dd_X10_goRow 45 rfl) rfl rfl ?_
        refine z_getR fl_X10_7 (zat dd_X10_goRow 46 rfl) (fun a4 => ?_)
        refine z_iconst (x := 0) (zat dd_X10_goRow 47 rfl) (by decide) ?_
        refine z_iald (zat dd_X10_goRow 48 rfl) (fun x5 => ?_)
        refine z_irem (zat dd_X10_goRow 49 rfl) ?_
        refine z_callV_I0 (M2 := M_X10_goMove) [.int (x1 / x3), .int (x1 - x1 / x5 * x5)] (fun l D _ _ => m_X10_goMove l D v0 (x1 / x3) (x1 - x1 / x5 * x5) h) u_X10_goMove ql_X10_158 qi_X10_goMove qs_X10_goMove (ci := 6) rfl rfl rfl (Nat.le_of_ble_eq_true rfl) (by decide) rfl rfl (zat dd_X10_goRow 50 rfl) (fun x6 h7 => ?_)
        refine z_istore (lv' := [(5, .int x6), (7, .int x1), (0, .ref v0), (1, .int v1), (2, .int v2), (3, .int v3), (4, .int v4), (6, .int v6)]) (zat dd_X10_goRow 51 rfl) (Nat.le_of_ble_eq_true rfl) rfl ?_
        refine z_iload 6 (zat dd_X10_goRow 52 rfl) rfl ?_
        refine z_iload_n 5 (zat dd_X10_goRow 53 rfl) rfl rfl ?_
        refine z_idiv (zat dd_X10_goRow 54 rfl) ?_
        refine z_let (fun x8 => ?_)
        refine z_istore (lv' := [(4, .int x8), (5, .int x6), (7, .int x1), (0, .ref v0), (1, .int v1), (2, .int v2), (3, .int v3), (6, .int v6)]) (zat dd_X10_goRow 55 rfl) (Nat.le_of_ble_eq_true rfl) rfl ?_
        refine z_iinc (y := v6 + 1) (lv' := [(6, .int (v6 + 1)), (4, .int x8), (5, .int x6), (7, .int x1), (0, .ref v0), (1, .int v1), (2, .int v2), (3, .int v3)]) 7 (zat dd_X10_goRow 56 rfl) rfl rfl (Nat.le_of_ble_eq_true rfl) rfl ?_
        refine z_goto (tgt := 43) (zat dd_X10_goRow 57 rfl) (by decide) ?_
        refine z_sub [4, 5, 6, 7, 1, 2, 0] rfl ?_
        exact ih v0 v1 v2 v3 x8 x6 (v6 + 1) h7
def f_X10_goRow_15 : Nat → Nat → Int32 → Int32 → Int32 → Int32 → Int32 → zH → zR
  | 0, _, _, _, _, _, _, _ => none
  | n + 1, v0, v1, v2, v3, v4, v5, h =>
  if v2 ≤ v5 then
  zoc h v0 6 <|
  zcV (f_X10_aside v0 h) fun h1 =>
  f_X10_goRow_43 zF v0 v1 v2 v3 v4 1 0 h1
  else
  zlt (v4 * v3) fun x2 =>
  f_X10_goRow_15 n v0 v1 v2 v3 x2 (v5 + 1) h
set_option maxRecDepth 100000 in
set_option maxHeartbeats 4000000 in
theorem zb_X10_goRow_15 (Y : zY) : ∀ (n : Nat) (v0 : Nat) (v1 : Int32) (v2 : Int32) (v3 : Int32) (v4 : Int32) (v5 : Int32) (h : zH), Z Y M_X10_goRow 0 0 15 [(0, .ref v0), (1, .int v1), (2, .int v2), (3, .int v3), (4, .int v4), (5, .int v5)] [] h (f_X10_goRow_15 n v0 v1 v2 v3 v4 v5 h) := by
  intro n
  induction n with
  | zero =>
    intro v0 v1 v2 v3 v4 v5 h
    rw [f_X10_goRow_15]
    exact z_none
  | succ n ih =>
    intro v0 v1 v2 v3 v4 v5 h
    rw [f_X10_goRow_15]
    refine z_iload 5 (zat dd_X10_goRow 11 rfl) rfl ?_
    refine z_iload_n 2 (zat dd_X10_goRow 12 rfl) rfl rfl ?_
    refine z_icmp_ge (tgt := 33) (zat dd_X10_goRow 13 rfl) (by decide) ?_ ?_
    · refine z_aload_n 0 (zat dd_X10_goRow 20 rfl) rfl rfl ?_
      refine z_callV_V0 (M2 := M_X10_aside) [] (fun l D _ _ => m_X10_aside l D v0 h) u_X10_aside ql_X10_106 qi_X10_aside qs_X10_aside (ci := 6) rfl rfl rfl (Nat.le_of_ble_eq_true rfl) (by decide) rfl rfl (zat dd_X10_goRow 21 rfl) (fun h1 => ?_)
      refine z_iconst (x := 1) (zat dd_X10_goRow 22 rfl) (by decide) ?_
      refine z_istore (lv' := [(5, .int 1), (0, .ref v0), (1, .int v1), (2, .int v2), (3, .int v3), (4, .int v4)]) (zat dd_X10_goRow 23 rfl) (Nat.le_of_ble_eq_true rfl) rfl ?_
      refine z_iconst (x := 0) (zat dd_X10_goRow 24 rfl) (by decide) ?_
      refine z_istore (lv' := [(6, .int 0), (5, .int 1), (0, .ref v0), (1, .int v1), (2, .int v2), (3, .int v3), (4, .int v4)]) (zat dd_X10_goRow 25 rfl) (Nat.le_of_ble_eq_true rfl) rfl ?_
      refine z_sub [2, 3, 4, 5, 6, 1, 0] rfl ?_
      exact zb_X10_goRow_43 Y zF v0 v1 v2 v3 v4 1 0 h1
    · refine z_iload 4 (zat dd_X10_goRow 14 rfl) rfl ?_
      refine z_iload_n 3 (zat dd_X10_goRow 15 rfl) rfl rfl ?_
      refine z_imul (zat dd_X10_goRow 16 rfl) ?_
      refine z_let (fun x2 => ?_)
      refine z_istore (lv' := [(4, .int x2), (0, .ref v0), (1, .int v1), (2, .int v2), (3, .int v3), (5, .int v5)]) (zat dd_X10_goRow 17 rfl) (Nat.le_of_ble_eq_true rfl) rfl ?_
      refine z_iinc (y := v5 + 1) (lv' := [(5, .int (v5 + 1)), (4, .int x2), (0, .ref v0), (1, .int v1), (2, .int v2), (3, .int v3)]) 5 (zat dd_X10_goRow 18 rfl) rfl rfl (Nat.le_of_ble_eq_true rfl) rfl ?_
      refine z_goto (tgt := 15) (zat dd_X10_goRow 19 rfl) (by decide) ?_
      refine z_sub [2, 3, 4, 5, 1, 0] rfl ?_
      exact ih v0 v1 v2 v3 x2 (v5 + 1) h
def f_X10_goRow (v0 : Nat) (v1 : Int32) (v2 : Int32) (h : zH) : zR :=
  zgR h v0 6 0 fun a1 =>
  zaI h a1 0 0 fun x2 =>
  zlt (3 * x2) fun x3 =>
  f_X10_goRow_15 zF v0 v1 v2 x3 1 1 h
set_option maxRecDepth 100000 in
set_option maxHeartbeats 4000000 in
theorem m_X10_goRow (l : Launch) (D : zD) (v0 : Nat) (v1 : Int32) (v2 : Int32) (h : zH) : zMet l D yX10_goRow M_X10_goRow [.ref v0, .int v1, .int v2] h (f_X10_goRow v0 v1 v2 h) := by
  refine zMet.of (by decide +kernel) ⟨rfl, rfl⟩ (Nat.le_of_ble_eq_true rfl) (fun Y hl hD => ?_)
  show Z Y M_X10_goRow 0 0 0 [(0, .ref v0), (1, .int v1), (2, .int v2)] [] h _
  rw [f_X10_goRow]
  refine z_iconst (x := 3) (zat dd_X10_goRow 0 rfl) (by decide) ?_
  refine z_aload_n 0 (zat dd_X10_goRow 1 rfl) rfl rfl ?_
  refine z_getR fl_X10_7 (zat dd_X10_goRow 2 rfl) (fun a1 => ?_)
  refine z_iconst (x := 0) (zat dd_X10_goRow 3 rfl) (by decide) ?_
  refine z_iald (zat dd_X10_goRow 4 rfl) (fun x2 => ?_)
  refine z_imul (zat dd_X10_goRow 5 rfl) ?_
  refine z_let (fun x3 => ?_)
  refine z_istore_n (lv' := [(3, .int x3), (0, .ref v0), (1, .int v1), (2, .int v2)]) (zat dd_X10_goRow 6 rfl) rfl (Nat.le_of_ble_eq_true rfl) rfl ?_
  refine z_iconst (x := 1) (zat dd_X10_goRow 7 rfl) (by decide) ?_
  refine z_istore (lv' := [(4, .int 1), (3, .int x3), (0, .ref v0), (1, .int v1), (2, .int v2)]) (zat dd_X10_goRow 8 rfl) (Nat.le_of_ble_eq_true rfl) rfl ?_
  refine z_iconst (x := 1) (zat dd_X10_goRow 9 rfl) (by decide) ?_
  refine z_istore (lv' := [(5, .int 1), (4, .int 1), (3, .int x3), (0, .ref v0), (1, .int v1), (2, .int v2)]) (zat dd_X10_goRow 10 rfl) (Nat.le_of_ble_eq_true rfl) rfl ?_
  refine z_sub [3, 4, 5, 2, 1, 0] rfl ?_
  exact zb_X10_goRow_15 Y zF v0 v1 v2 x3 1 1 h
/-! PaperDollsModel.rowAt(III)I -/
def L_X10_rowAt : List (Nat × Instr × Nat) := [(0, .iconst 3, 1), (1, .aload_n 0, 1), (2, .getfield 7, 3), (5, .iconst 0, 1), (6, .iaload, 1), (7, .imul, 1), (8, .istore 4, 2), (10, .iload_n 1, 1), (11, .istore 5, 2), (13, .iload_n 2, 1), (14, .iconst 1, 1), (15, .isub, 1), (16, .istore 6, 2), (18, .iload 6, 2), (20, .iload_n 3, 1), (21, .if_icmp .le 16, 3), (24, .iload 5, 2), (26, .iload 4, 2), (28, .idiv, 1), (29, .istore 5, 2), (31, .iinc 6 (-1), 3), (34, .goto (-16), 3), (37, .iload 5, 2), (39, .iload 4, 2), (41, .irem, 1), (42, .istore 6, 2), (44, .bipush 10, 2), (46, .iload 6, 2), (48, .aload_n 0, 1), (49, .getfield 7, 3), (52, .iconst 0, 1), (53, .iaload, 1), (54, .idiv, 1), (55, .imul, 1), (56, .iload 6, 2), (58, .aload_n 0, 1), (59, .getfield 7, 3), (62, .iconst 0, 1), (63, .iaload, 1), (64, .irem, 1), (65, .iadd, 1), (66, .ireturn, 1)]
theorem dd_X10_rowAt : ∀ q ∈ L_X10_rowAt, decode cX10_rowAt q.1 = .ok q.2 := by decide +kernel
abbrev M_X10_rowAt : zM := (cX10_rowAt, RX10, "rowAt", 7, some .int, 0, 0, 0)
theorem u_X10_rowAt : zCal yX10_rowAt (M_X10_rowAt) 3 := ⟨(zmem 1103 (by decide +kernel) rfl : Cond.code yX10_rowAt cX10_rowAt 7 (some .int) ∈ zTb), zmem 63 (by decide +kernel) rfl, by decide +kernel, Nat.le_of_ble_eq_true rfl⟩
theorem qi_X10_rowAt : Cond.instanceMethod yX10_rowAt ∈ zTb := zmem 1102 (by decide +kernel) rfl
theorem qs_X10_rowAt : Cond.selects yX10_rowAt.cls yX10_rowAt yX10_rowAt ∈ zTb := zmem 49 (by decide +kernel) rfl
def f_X10_rowAt_18 : Nat → Nat → Int32 → Int32 → Int32 → Int32 → zH → zR
  | 0, _, _, _, _, _, _ => none
  | n + 1, v0, v3, v4, v5, v6, h =>
  if v6 ≤ v3 then
  zdv v4 <|
  zlt (v5 - v5 / v4 * v4) fun x1 =>
  zgR h v0 6 0 fun a2 =>
  zaI h a2 0 0 fun x3 =>
  zdv x3 <|
  zgR h v0 6 0 fun a4 =>
  zaI h a4 0 0 fun x5 =>
  zdv x5 <|
  zrI ((10 * (x1 / x3)) + (x1 - x1 / x5 * x5)) h
  else
  zdv v4 <|
  zlt (v5 / v4) fun x6 =>
  f_X10_rowAt_18 n v0 v3 v4 x6 (v6 + (-1)) h
set_option maxRecDepth 100000 in
set_option maxHeartbeats 4000000 in
theorem zb_X10_rowAt_18 (Y : zY) : ∀ (n : Nat) (v0 : Nat) (v3 : Int32) (v4 : Int32) (v5 : Int32) (v6 : Int32) (h : zH), Z Y M_X10_rowAt 0 0 18 [(0, .ref v0), (3, .int v3), (4, .int v4), (5, .int v5), (6, .int v6)] [] h (f_X10_rowAt_18 n v0 v3 v4 v5 v6 h) := by
  intro n
  induction n with
  | zero =>
    intro v0 v3 v4 v5 v6 h
    rw [f_X10_rowAt_18]
    exact z_none
  | succ n ih =>
    intro v0 v3 v4 v5 v6 h
    rw [f_X10_rowAt_18]
    refine z_iload 4 (zat dd_X10_rowAt 13 rfl) rfl ?_
    refine z_iload_n 1 (zat dd_X10_rowAt 14 rfl) rfl rfl ?_
    refine z_icmp_le (tgt := 37) (zat dd_X10_rowAt 15 rfl) (by decide) ?_ ?_
    · refine z_iload 3 (zat dd_X10_rowAt 22 rfl) rfl ?_
      refine z_iload 2 (zat dd_X10_rowAt 23 rfl) rfl ?_
      refine z_irem (zat dd_X10_rowAt 24 rfl) ?_
      refine z_let (fun x1 => ?_)
      refine z_istore (lv' := [(6, .int x1), (0, .ref v0), (3, .int v3), (4, .int v4), (5, .int v5)]) (zat dd_X10_rowAt 25 rfl) (Nat.le_of_ble_eq_true rfl) rfl ?_
      refine z_bipush (x := 10) (zat dd_X10_rowAt 26 rfl) (by decide) ?_
      refine z_iload 0 (zat dd_X10_rowAt 27 rfl) rfl ?_
      refine z_aload_n 1 (zat dd_X10_rowAt 28 rfl) rfl rfl ?_
      refine z_getR fl_X10_7 (zat dd_X10_rowAt 29 rfl) (fun a2 => ?_)
      refine z_iconst (x := 0) (zat dd_X10_rowAt 30 rfl) (by decide) ?_
      refine z_iald (zat dd_X10_rowAt 31 rfl) (fun x3 => ?_)
      refine z_idiv (zat dd_X10_rowAt 32 rfl) ?_
      refine z_imul (zat dd_X10_rowAt 33 rfl) ?_
      refine z_iload 0 (zat dd_X10_rowAt 34 rfl) rfl ?_
      refine z_aload_n 1 (zat dd_X10_rowAt 35 rfl) rfl rfl ?_
      refine z_getR fl_X10_7 (zat dd_X10_rowAt 36 rfl) (fun a4 => ?_)
      refine z_iconst (x := 0) (zat dd_X10_rowAt 37 rfl) (by decide) ?_
      refine z_iald (zat dd_X10_rowAt 38 rfl) (fun x5 => ?_)
      refine z_irem (zat dd_X10_rowAt 39 rfl) ?_
      refine z_iadd (zat dd_X10_rowAt 40 rfl) ?_
      exact z_iret rfl (zat dd_X10_rowAt 41 rfl)
    · refine z_iload 3 (zat dd_X10_rowAt 16 rfl) rfl ?_
      refine z_iload 2 (zat dd_X10_rowAt 17 rfl) rfl ?_
      refine z_idiv (zat dd_X10_rowAt 18 rfl) ?_
      refine z_let (fun x6 => ?_)
      refine z_istore (lv' := [(5, .int x6), (0, .ref v0), (3, .int v3), (4, .int v4), (6, .int v6)]) (zat dd_X10_rowAt 19 rfl) (Nat.le_of_ble_eq_true rfl) rfl ?_
      refine z_iinc (y := v6 + (-1)) (lv' := [(6, .int (v6 + (-1))), (5, .int x6), (0, .ref v0), (3, .int v3), (4, .int v4)]) 4 (zat dd_X10_rowAt 20 rfl) rfl rfl (Nat.le_of_ble_eq_true rfl) rfl ?_
      refine z_goto (tgt := 18) (zat dd_X10_rowAt 21 rfl) (by decide) ?_
      refine z_sub [2, 3, 4, 1, 0] rfl ?_
      exact ih v0 v3 v4 x6 (v6 + (-1)) h
def f_X10_rowAt (v0 : Nat) (v1 : Int32) (v2 : Int32) (v3 : Int32) (h : zH) : zR :=
  zgR h v0 6 0 fun a1 =>
  zaI h a1 0 0 fun x2 =>
  zlt (3 * x2) fun x3 =>
  zlt (v2 - 1) fun x4 =>
  f_X10_rowAt_18 zF v0 v3 x3 v1 x4 h
set_option maxRecDepth 100000 in
set_option maxHeartbeats 4000000 in
theorem m_X10_rowAt (l : Launch) (D : zD) (v0 : Nat) (v1 : Int32) (v2 : Int32) (v3 : Int32) (h : zH) : zMet l D yX10_rowAt M_X10_rowAt [.ref v0, .int v1, .int v2, .int v3] h (f_X10_rowAt v0 v1 v2 v3 h) := by
  refine zMet.of (by decide +kernel) ⟨rfl, rfl⟩ (Nat.le_of_ble_eq_true rfl) (fun Y hl hD => ?_)
  show Z Y M_X10_rowAt 0 0 0 [(0, .ref v0), (1, .int v1), (2, .int v2), (3, .int v3)] [] h _
  rw [f_X10_rowAt]
  refine z_iconst (x := 3) (zat dd_X10_rowAt 0 rfl) (by decide) ?_
  refine z_aload_n 0 (zat dd_X10_rowAt 1 rfl) rfl rfl ?_
  refine z_getR fl_X10_7 (zat dd_X10_rowAt 2 rfl) (fun a1 => ?_)
  refine z_iconst (x := 0) (zat dd_X10_rowAt 3 rfl) (by decide) ?_
  refine z_iald (zat dd_X10_rowAt 4 rfl) (fun x2 => ?_)
  refine z_imul (zat dd_X10_rowAt 5 rfl) ?_
  refine z_let (fun x3 => ?_)
  refine z_istore (lv' := [(4, .int x3), (0, .ref v0), (1, .int v1), (2, .int v2), (3, .int v3)]) (zat dd_X10_rowAt 6 rfl) (Nat.le_of_ble_eq_true rfl) rfl ?_
  refine z_iload_n 2 (zat dd_X10_rowAt 7 rfl) rfl rfl ?_
  refine z_istore (lv' := [(5, .int v1), (4, .int x3), (0, .ref v0), (1, .int v1), (2, .int v2), (3, .int v3)]) (zat dd_X10_rowAt 8 rfl) (Nat.le_of_ble_eq_true rfl) rfl ?_
  refine z_iload_n 4 (zat dd_X10_rowAt 9 rfl) rfl rfl ?_
  refine z_iconst (x := 1) (zat dd_X10_rowAt 10 rfl) (by decide) ?_
  refine z_isub (zat dd_X10_rowAt 11 rfl) ?_
  refine z_let (fun x4 => ?_)
  refine z_istore (lv' := [(6, .int x4), (5, .int v1), (4, .int x3), (0, .ref v0), (1, .int v1), (2, .int v2), (3, .int v3)]) (zat dd_X10_rowAt 12 rfl) (Nat.le_of_ble_eq_true rfl) rfl ?_
  refine z_sub [3, 6, 2, 1, 0] rfl ?_
  exact zb_X10_rowAt_18 Y zF v0 v3 x3 v1 x4 h
/-! PaperDollsModel.few(I)I -/
def L_X10_few : List (Nat × Instr × Nat) := [(0, .iload_n 1, 1), (1, .iconst (-1), 1), (2, .if_icmp .ge 8, 3), (5, .aload_n 0, 1), (6, .invokevirtual 85, 3), (9, .ireturn, 1), (10, .iconst 1, 1), (11, .istore_n 2, 1), (12, .iconst 0, 1), (13, .istore_n 3, 1), (14, .iload_n 3, 1), (15, .iconst 4, 1), (16, .if_icmp .ge 81, 3), (19, .iconst 0, 1), (20, .istore 4, 2), (22, .iload 4, 2), (24, .iload_n 2, 1), (25, .if_icmp .ge 55, 3), (28, .aload_n 0, 1), (29, .iload 4, 2), (31, .iload_n 3, 1), (32, .invokevirtual 204, 3), (35, .ifCond .eq 39, 3), (38, .aload_n 0, 1), (39, .invokevirtual 207, 3), (42, .bipush 15, 2), (44, .if_icmp .ne 30, 3), (47, .iload_n 1, 1), (48, .ifCond .ge 7, 3), (51, .iload_n 3, 1), (52, .goto 21, 3), (55, .iload_n 1, 1), (56, .iload_n 3, 1), (57, .if_icmp .ge 14, 3), (60, .aload_n 0, 1), (61, .iload 4, 2), (63, .iload_n 3, 1), (64, .iload_n 1, 1), (65, .invokevirtual 210, 3), (68, .goto 5, 3), (71, .bipush (-5), 2), (73, .ireturn, 1), (74, .iinc 4 1, 3), (77, .goto (-55), 3), (80, .iload_n 2, 1), (81, .iconst 3, 1), (82, .aload_n 0, 1), (83, .getfield 7, 3), (86, .iconst 0, 1), (87, .iaload, 1), (88, .imul, 1), (89, .imul, 1), (90, .istore_n 2, 1), (91, .iinc 3 1, 3), (94, .goto (-80), 3), (97, .bipush (-6), 2), (99, .ireturn, 1)]
theorem dd_X10_few : ∀ q ∈ L_X10_few, decode cX10_few q.1 = .ok q.2 := by decide +kernel
abbrev M_X10_few : zM := (cX10_few, RX10, "few", 5, some .int, 5, 0, 0)
theorem u_X10_few : zCal yX10_few (M_X10_few) 1 := ⟨(zmem 1091 (by decide +kernel) rfl : Cond.code yX10_few cX10_few 5 (some .int) ∈ zTb), zmem 63 (by decide +kernel) rfl, by decide +kernel, Nat.le_of_ble_eq_true rfl⟩
theorem qi_X10_few : Cond.instanceMethod yX10_few ∈ zTb := zmem 1089 (by decide +kernel) rfl
theorem qs_X10_few : Cond.selects yX10_few.cls yX10_few yX10_few ∈ zTb := zmem 1090 (by decide +kernel) rfl
def f_X10_few_74 (k22 : Nat → Int32 → Int32 → Int32 → Int32 → zH → zR) (v0 : Nat) (v1 : Int32) (v2 : Int32) (v3 : Int32) (v4 : Int32) (h : zH) : zR :=
  k22 v0 v1 v2 v3 (v4 + 1) h
set_option maxRecDepth 100000 in
set_option maxHeartbeats 4000000 in
theorem zb_X10_few_74 (Y : zY) (k22 : Nat → Int32 → Int32 → Int32 → Int32 → zH → zR) (hk22 : ∀ (v0 : Nat) (v1 : Int32) (v2 : Int32) (v3 : Int32) (v4 : Int32) (h : zH), Z Y M_X10_few 0 0 22 [(0, .ref v0), (1, .int v1), (2, .int v2), (3, .int v3), (4, .int v4)] [] h (k22 v0 v1 v2 v3 v4 h)) (v0 : Nat) (v1 : Int32) (v2 : Int32) (v3 : Int32) (v4 : Int32) (h : zH) : Z Y M_X10_few 0 0 74 [(0, .ref v0), (1, .int v1), (2, .int v2), (3, .int v3), (4, .int v4)] [] h (f_X10_few_74 k22 v0 v1 v2 v3 v4 h) := by
  rw [f_X10_few_74]
  refine z_iinc (y := v4 + 1) (lv' := [(4, .int (v4 + 1)), (0, .ref v0), (1, .int v1), (2, .int v2), (3, .int v3)]) 4 (zat dd_X10_few 42 rfl) rfl rfl (Nat.le_of_ble_eq_true rfl) rfl ?_
  refine z_goto (tgt := 22) (zat dd_X10_few 43 rfl) (by decide) ?_
  refine z_sub [1, 2, 3, 4, 0] rfl ?_
  exact hk22 v0 v1 v2 v3 (v4 + 1) h
def f_X10_few_73 (t0 : Int32) (h : zH) : zR :=
  zrI t0 h
set_option maxRecDepth 100000 in
set_option maxHeartbeats 4000000 in
theorem zb_X10_few_73 (Y : zY) (t0 : Int32) (h : zH) : Z Y M_X10_few 0 0 73 [] [.int t0] h (f_X10_few_73 t0 h) := by
  rw [f_X10_few_73]
  exact z_iret rfl (zat dd_X10_few 41 rfl)
def f_X10_few_22 (k14 : Nat → Int32 → Int32 → Int32 → zH → zR) : Nat → Nat → Int32 → Int32 → Int32 → Int32 → zH → zR
  | 0, _, _, _, _, _, _ => none
  | n + 1, v0, v1, v2, v3, v4, h =>
  if v2 ≤ v4 then
  zgR h v0 6 0 fun a1 =>
  zaI h a1 0 0 fun x2 =>
  zlt (v2 * (3 * x2)) fun x3 =>
  k14 v0 v1 x3 (v3 + 1) h
  else
  zoc h v0 6 <|
  zcI (f_X10_goRow v0 v4 v3 h) fun x4 h5 =>
  if x4 = 0 then
  f_X10_few_74 (f_X10_few_22 k14 n) v0 v1 v2 v3 v4 h5
  else
  zoc h5 v0 6 <|
  zcI (f_X10_covered v0 h5) fun x6 h7 =>
  if x6 = 15 then
  if 0 ≤ v1 then
  if v3 ≤ v1 then
  f_X10_few_73 (-5) h7
  else
  zoc h7 v0 6 <|
  zcI (f_X10_rowAt v0 v4 v3 v1 h7) fun x8 h9 =>
  f_X10_few_73 x8 h9
  else
  f_X10_few_73 v3 h7
  else
  f_X10_few_74 (f_X10_few_22 k14 n) v0 v1 v2 v3 v4 h7
set_option maxRecDepth 100000 in
set_option maxHeartbeats 4000000 in
theorem zb_X10_few_22 (Y : zY) (k14 : Nat → Int32 → Int32 → Int32 → zH → zR) (hk14 : ∀ (v0 : Nat) (v1 : Int32) (v2 : Int32) (v3 : Int32) (h : zH), Z Y M_X10_few 0 0 14 [(0, .ref v0), (1, .int v1), (2, .int v2), (3, .int v3)] [] h (k14 v0 v1 v2 v3 h)) : ∀ (n : Nat) (v0 : Nat) (v1 : Int32) (v2 : Int32) (v3 : Int32) (v4 : Int32) (h : zH), Z Y M_X10_few 0 0 22 [(0, .ref v0), (1, .int v1), (2, .int v2), (3, .int v3), (4, .int v4)] [] h (f_X10_few_22 k14 n v0 v1 v2 v3 v4 h) := by
  intro n
  induction n with
  | zero =>
    intro v0 v1 v2 v3 v4 h
    rw [f_X10_few_22]
    exact z_none
  | succ n ih =>
    intro v0 v1 v2 v3 v4 h
    rw [f_X10_few_22]
    refine z_iload 4 (zat dd_X10_few 15 rfl) rfl ?_
    refine z_iload_n 2 (zat dd_X10_few 16 rfl) rfl rfl ?_
    refine z_icmp_ge (tgt := 80) (zat dd_X10_few 17 rfl) (by decide) ?_ ?_
    · refine z_iload_n 2 (zat dd_X10_few 44 rfl) rfl rfl ?_
      refine z_iconst (x := 3) (zat dd_X10_few 45 rfl) (by decide) ?_
      refine z_aload_n 0 (zat dd_X10_few 46 rfl) rfl rfl ?_
      refine z_getR fl_X10_7 (zat dd_X10_few 47 rfl) (fun a1 => ?_)
      refine z_iconst (x := 0) (zat dd_X10_few 48 rfl) (by decide) ?_
      refine z_iald (zat dd_X10_few 49 rfl) (fun x2 => ?_)
      refine z_imul (zat dd_X10_few 50 rfl) ?_
      refine z_imul (zat dd_X10_few 51 rfl) ?_
      refine z_let (fun x3 => ?_)
      refine z_istore_n (lv' := [(2, .int x3), (0, .ref v0), (1, .int v1), (3, .int v3), (4, .int v4)]) (zat dd_X10_few 52 rfl) rfl (Nat.le_of_ble_eq_true rfl) rfl ?_
      refine z_iinc (y := v3 + 1) (lv' := [(3, .int (v3 + 1)), (2, .int x3), (0, .ref v0), (1, .int v1), (4, .int v4)]) 3 (zat dd_X10_few 53 rfl) rfl rfl (Nat.le_of_ble_eq_true rfl) rfl ?_
      refine z_goto (tgt := 14) (zat dd_X10_few 54 rfl) (by decide) ?_
      refine z_sub [2, 3, 1, 0] rfl ?_
      exact hk14 v0 v1 x3 (v3 + 1) h
    · refine z_aload_n 0 (zat dd_X10_few 18 rfl) rfl rfl ?_
      refine z_iload 4 (zat dd_X10_few 19 rfl) rfl ?_
      refine z_iload_n 3 (zat dd_X10_few 20 rfl) rfl rfl ?_
      refine z_callV_I0 (M2 := M_X10_goRow) [.int v4, .int v3] (fun l D _ _ => m_X10_goRow l D v0 v4 v3 h) u_X10_goRow ql_X10_204 qi_X10_goRow qs_X10_goRow (ci := 6) rfl rfl rfl (Nat.le_of_ble_eq_true rfl) (by decide) rfl rfl (zat dd_X10_few 21 rfl) (fun x4 h5 => ?_)
      refine z_if_eq (tgt := 74) (zat dd_X10_few 22 rfl) (by decide) ?_ ?_
      · exact zb_X10_few_74 Y (f_X10_few_22 k14 n) ih v0 v1 v2 v3 v4 h5
      · refine z_aload_n 0 (zat dd_X10_few 23 rfl) rfl rfl ?_
        refine z_callV_I0 (M2 := M_X10_covered) [] (fun l D _ _ => m_X10_covered l D v0 h5) u_X10_covered ql_X10_207 qi_X10_covered qs_X10_covered (ci := 6) rfl rfl rfl (Nat.le_of_ble_eq_true rfl) (by decide) rfl rfl (zat dd_X10_few 24 rfl) (fun x6 h7 => ?_)
        refine z_bipush (x := 15) (zat dd_X10_few 25 rfl) (by decide) ?_
        refine z_icmp_ne (tgt := 74) (zat dd_X10_few 26 rfl) (by decide) ?_ ?_
        · exact zb_X10_few_74 Y (f_X10_few_22 k14 n) ih v0 v1 v2 v3 v4 h7
        · refine z_iload_n 1 (zat dd_X10_few 27 rfl) rfl rfl ?_
          refine z_if_ge (tgt := 55) (zat dd_X10_few 28 rfl) (by decide) ?_ ?_
          · refine z_iload_n 1 (zat dd_X10_few 31 rfl) rfl rfl ?_
            refine z_iload_n 3 (zat dd_X10_few 32 rfl) rfl rfl ?_
            refine z_icmp_ge (tgt := 71) (zat dd_X10_few 33 rfl) (by decide) ?_ ?_
            · refine z_bipush (x := (-5)) (zat dd_X10_few 40 rfl) (by decide) ?_
              refine z_sub [] rfl ?_
              exact zb_X10_few_73 Y (-5) h7
            · refine z_aload_n 0 (zat dd_X10_few 34 rfl) rfl rfl ?_
              refine z_iload 4 (zat dd_X10_few 35 rfl) rfl ?_
              refine z_iload_n 3 (zat dd_X10_few 36 rfl) rfl rfl ?_
              refine z_iload_n 1 (zat dd_X10_few 37 rfl) rfl rfl ?_
              refine z_callV_I0 (M2 := M_X10_rowAt) [.int v4, .int v3, .int v1] (fun l D _ _ => m_X10_rowAt l D v0 v4 v3 v1 h7) u_X10_rowAt ql_X10_210 qi_X10_rowAt qs_X10_rowAt (ci := 6) rfl rfl rfl (Nat.le_of_ble_eq_true rfl) (by decide) rfl rfl (zat dd_X10_few 38 rfl) (fun x8 h9 => ?_)
              refine z_goto (tgt := 73) (zat dd_X10_few 39 rfl) (by decide) ?_
              refine z_sub [] rfl ?_
              exact zb_X10_few_73 Y x8 h9
          · refine z_iload_n 3 (zat dd_X10_few 29 rfl) rfl rfl ?_
            refine z_goto (tgt := 73) (zat dd_X10_few 30 rfl) (by decide) ?_
            refine z_sub [] rfl ?_
            exact zb_X10_few_73 Y v3 h7
def f_X10_few_14 : Nat → Nat → Int32 → Int32 → Int32 → zH → zR
  | 0, _, _, _, _, _ => none
  | n + 1, v0, v1, v2, v3, h =>
  if 4 ≤ v3 then
  zrI (-6) h
  else
  f_X10_few_22 (f_X10_few_14 n) zF v0 v1 v2 v3 0 h
set_option maxRecDepth 100000 in
set_option maxHeartbeats 4000000 in
theorem zb_X10_few_14 (Y : zY) : ∀ (n : Nat) (v0 : Nat) (v1 : Int32) (v2 : Int32) (v3 : Int32) (h : zH), Z Y M_X10_few 0 0 14 [(0, .ref v0), (1, .int v1), (2, .int v2), (3, .int v3)] [] h (f_X10_few_14 n v0 v1 v2 v3 h) := by
  intro n
  induction n with
  | zero =>
    intro v0 v1 v2 v3 h
    rw [f_X10_few_14]
    exact z_none
  | succ n ih =>
    intro v0 v1 v2 v3 h
    rw [f_X10_few_14]
    refine z_iload_n 3 (zat dd_X10_few 10 rfl) rfl rfl ?_
    refine z_iconst (x := 4) (zat dd_X10_few 11 rfl) (by decide) ?_
    refine z_icmp_ge (tgt := 97) (zat dd_X10_few 12 rfl) (by decide) ?_ ?_
    · refine z_bipush (x := (-6)) (zat dd_X10_few 55 rfl) (by decide) ?_
      exact z_iret rfl (zat dd_X10_few 56 rfl)
    · refine z_iconst (x := 0) (zat dd_X10_few 13 rfl) (by decide) ?_
      refine z_istore (lv' := [(4, .int 0), (0, .ref v0), (1, .int v1), (2, .int v2), (3, .int v3)]) (zat dd_X10_few 14 rfl) (Nat.le_of_ble_eq_true rfl) rfl ?_
      refine z_sub [1, 2, 3, 4, 0] rfl ?_
      exact zb_X10_few_22 Y (f_X10_few_14 n) ih zF v0 v1 v2 v3 0 h
def f_X10_few (v0 : Nat) (v1 : Int32) (h : zH) : zR :=
  if (-1) ≤ v1 then
  f_X10_few_14 zF v0 v1 1 0 h
  else
  zoc h v0 6 <|
  zcI (f_X10_bad v0 h) fun x1 h2 =>
  zrI x1 h2
set_option maxRecDepth 100000 in
set_option maxHeartbeats 4000000 in
theorem m_X10_few (l : Launch) (D : zD) (v0 : Nat) (v1 : Int32) (h : zH) : zMet l D yX10_few M_X10_few [.ref v0, .int v1] h (f_X10_few v0 v1 h) := by
  refine zMet.of (by decide +kernel) ⟨rfl, rfl⟩ (Nat.le_of_ble_eq_true rfl) (fun Y hl hD => ?_)
  show Z Y M_X10_few 0 0 0 [(0, .ref v0), (1, .int v1)] [] h _
  rw [f_X10_few]
  refine z_iload_n 1 (zat dd_X10_few 0 rfl) rfl rfl ?_
  refine z_iconst (x := (-1)) (zat dd_X10_few 1 rfl) (by decide) ?_
  refine z_icmp_ge (tgt := 10) (zat dd_X10_few 2 rfl) (by decide) ?_ ?_
  · refine z_iconst (x := 1) (zat dd_X10_few 6 rfl) (by decide) ?_
    refine z_istore_n (lv' := [(2, .int 1), (0, .ref v0), (1, .int v1)]) (zat dd_X10_few 7 rfl) rfl (Nat.le_of_ble_eq_true rfl) rfl ?_
    refine z_iconst (x := 0) (zat dd_X10_few 8 rfl) (by decide) ?_
    refine z_istore_n (lv' := [(3, .int 0), (2, .int 1), (0, .ref v0), (1, .int v1)]) (zat dd_X10_few 9 rfl) rfl (Nat.le_of_ble_eq_true rfl) rfl ?_
    refine z_sub [2, 3, 1, 0] rfl ?_
    exact zb_X10_few_14 Y zF v0 v1 1 0 h
  · refine z_aload_n 0 (zat dd_X10_few 3 rfl) rfl rfl ?_
    refine z_callV_I0 (M2 := M_X10_bad) [] (fun l D _ _ => m_X10_bad l D v0 h) u_X10_bad ql_X10_85 qi_X10_bad qs_X10_bad (ci := 6) rfl rfl rfl (Nat.le_of_ble_eq_true rfl) (by decide) rfl rfl (zat dd_X10_few 4 rfl) (fun x1 h2 => ?_)
    exact z_iret rfl (zat dd_X10_few 5 rfl)
/-! PaperDollsModel.note(III)I -/
def L_X10_note : List (Nat × Instr × Nat) := [(0, .iload_n 1, 1), (1, .i2l, 1), (2, .lconst 0, 1), (3, .ldc2_w 99, 3), (6, .invokestatic 48, 3), (9, .ifCond .eq 26, 3), (12, .iload_n 2, 1), (13, .i2l, 1), (14, .iload_n 1, 1), (15, .i2l, 1), (16, .ldc2_w 99, 3), (19, .invokestatic 48, 3), (22, .ifCond .eq 13, 3), (25, .iload_n 3, 1), (26, .i2l, 1), (27, .lconst 0, 1), (28, .lconst 1, 1), (29, .invokestatic 48, 3), (32, .ifCond .ne 8, 3), (35, .aload_n 0, 1), (36, .invokevirtual 85, 3), (39, .ireturn, 1), (40, .aload_n 0, 1), (41, .getfield 7, 3), (44, .bipush 44, 2), (46, .iaload, 1), (47, .bipush 6, 2), (49, .if_icmp .ne 8, 3), (52, .aload_n 0, 1), (53, .invokevirtual 103, 3), (56, .ireturn, 1), (57, .bipush 45, 2), (59, .iconst 3, 1), (60, .aload_n 0, 1), (61, .getfield 7, 3), (64, .bipush 44, 2), (66, .iaload, 1), (67, .imul, 1), (68, .iadd, 1), (69, .istore 4, 2), (71, .aload_n 0, 1), (72, .getfield 7, 3), (75, .iload 4, 2), (77, .iload_n 1, 1), (78, .iastore, 1), (79, .aload_n 0, 1), (80, .getfield 7, 3), (83, .iload 4, 2), (85, .iconst 1, 1), (86, .iadd, 1), (87, .iload_n 2, 1), (88, .iastore, 1), (89, .aload_n 0, 1), (90, .getfield 7, 3), (93, .iload 4, 2), (95, .iconst 2, 1), (96, .iadd, 1), (97, .iload_n 3, 1), (98, .iastore, 1), (99, .aload_n 0, 1), (100, .getfield 7, 3), (103, .bipush 44, 2), (105, .dup2, 1), (106, .iaload, 1), (107, .iconst 1, 1), (108, .iadd, 1), (109, .iastore, 1), (110, .aload_n 0, 1), (111, .getfield 7, 3), (114, .bipush 44, 2), (116, .iaload, 1), (117, .ireturn, 1)]
theorem dd_X10_note : ∀ q ∈ L_X10_note, decode cX10_note q.1 = .ok q.2 := by decide +kernel
abbrev M_X10_note : zM := (cX10_note, RX10, "note", 5, some .int, 1, 0, 0)
theorem u_X10_note : zCal yX10_note (M_X10_note) 3 := ⟨(zmem 1107 (by decide +kernel) rfl : Cond.code yX10_note cX10_note 5 (some .int) ∈ zTb), zmem 63 (by decide +kernel) rfl, by decide +kernel, Nat.le_of_ble_eq_true rfl⟩
theorem qi_X10_note : Cond.instanceMethod yX10_note ∈ zTb := zmem 1105 (by decide +kernel) rfl
theorem qs_X10_note : Cond.selects yX10_note.cls yX10_note yX10_note ∈ zTb := zmem 1106 (by decide +kernel) rfl
def f_X10_note_35 (v0 : Nat) (h : zH) : zR :=
  zoc h v0 6 <|
  zcI (f_X10_bad v0 h) fun x1 h2 =>
  zrI x1 h2
set_option maxRecDepth 100000 in
set_option maxHeartbeats 4000000 in
theorem zb_X10_note_35 (Y : zY) (v0 : Nat) (h : zH) : Z Y M_X10_note 0 0 35 [(0, .ref v0)] [] h (f_X10_note_35 v0 h) := by
  rw [f_X10_note_35]
  refine z_aload_n 0 (zat dd_X10_note 19 rfl) rfl rfl ?_
  refine z_callV_I0 (M2 := M_X10_bad) [] (fun l D _ _ => m_X10_bad l D v0 h) u_X10_bad ql_X10_85 qi_X10_bad qs_X10_bad (ci := 6) rfl rfl rfl (Nat.le_of_ble_eq_true rfl) (by decide) rfl rfl (zat dd_X10_note 20 rfl) (fun x1 h2 => ?_)
  exact z_iret rfl (zat dd_X10_note 21 rfl)
def f_X10_note (v0 : Nat) (v1 : Int32) (v2 : Int32) (v3 : Int32) (h : zH) : zR :=
  zcI (f_X10_in ((v1 : Int32).toInt64) 0 3 h) fun x1 h2 =>
  if x1 = 0 then
  f_X10_note_35 v0 h2
  else
  zcI (f_X10_in ((v2 : Int32).toInt64) ((v1 : Int32).toInt64) 3 h2) fun x3 h4 =>
  if x3 = 0 then
  f_X10_note_35 v0 h4
  else
  zcI (f_X10_in ((v3 : Int32).toInt64) 0 1 h4) fun x5 h6 =>
  if x5 = 0 then
  f_X10_note_35 v0 h6
  else
  zgR h6 v0 6 0 fun a7 =>
  zaI h6 a7 0 44 fun x8 =>
  if x8 = 6 then
  zoc h6 v0 6 <|
  zcI (f_X10_full v0 h6) fun x23 h24 =>
  zrI x23 h24
  else
  zgR h6 v0 6 0 fun a9 =>
  zaI h6 a9 0 44 fun x10 =>
  zlt (45 + (3 * x10)) fun x11 =>
  zgR h6 v0 6 0 fun a12 =>
  zsI h6 a12 0 x11 v1 fun h13 =>
  zgR h13 v0 6 0 fun a14 =>
  zsI h13 a14 0 (x11 + 1) v2 fun h15 =>
  zgR h15 v0 6 0 fun a16 =>
  zsI h15 a16 0 (x11 + 2) v3 fun h17 =>
  zgR h17 v0 6 0 fun a18 =>
  zaI h17 a18 0 44 fun x19 =>
  zsI h17 a18 0 44 (x19 + 1) fun h20 =>
  zgR h20 v0 6 0 fun a21 =>
  zaI h20 a21 0 44 fun x22 =>
  zrI x22 h20
set_option maxRecDepth 100000 in
set_option maxHeartbeats 4000000 in
theorem m_X10_note (l : Launch) (D : zD) (v0 : Nat) (v1 : Int32) (v2 : Int32) (v3 : Int32) (h : zH) : zMet l D yX10_note M_X10_note [.ref v0, .int v1, .int v2, .int v3] h (f_X10_note v0 v1 v2 v3 h) := by
  refine zMet.of (by decide +kernel) ⟨rfl, rfl⟩ (Nat.le_of_ble_eq_true rfl) (fun Y hl hD => ?_)
  show Z Y M_X10_note 0 0 0 [(0, .ref v0), (1, .int v1), (2, .int v2), (3, .int v3)] [] h _
  rw [f_X10_note]
  refine z_iload_n 1 (zat dd_X10_note 0 rfl) rfl rfl ?_
  refine z_i2l (zat dd_X10_note 1 rfl) ?_
  refine z_lconst (x := 0) (zat dd_X10_note 2 rfl) (by decide) ?_
  refine z_ldc2 (x := 3) qk_X10_99 (zat dd_X10_note 3 rfl) ?_
  refine z_callS_I0 (M2 := M_X10_in) [.long ((v1 : Int32).toInt64), .long 0, .long 3] (fun l D _ _ => m_X10_in l D ((v1 : Int32).toInt64) 0 3 h) u_X10_in ql_X10_48 qi_X10_in rfl rfl (Nat.le_of_ble_eq_true rfl) (by decide) rfl rfl (zat dd_X10_note 4 rfl) (fun x1 h2 => ?_)
  refine z_if_eq (tgt := 35) (zat dd_X10_note 5 rfl) (by decide) ?_ ?_
  · refine z_sub [0] rfl ?_
    exact zb_X10_note_35 Y v0 h2
  · refine z_iload_n 2 (zat dd_X10_note 6 rfl) rfl rfl ?_
    refine z_i2l (zat dd_X10_note 7 rfl) ?_
    refine z_iload_n 1 (zat dd_X10_note 8 rfl) rfl rfl ?_
    refine z_i2l (zat dd_X10_note 9 rfl) ?_
    refine z_ldc2 (x := 3) qk_X10_99 (zat dd_X10_note 10 rfl) ?_
    refine z_callS_I0 (M2 := M_X10_in) [.long ((v2 : Int32).toInt64), .long ((v1 : Int32).toInt64), .long 3] (fun l D _ _ => m_X10_in l D ((v2 : Int32).toInt64) ((v1 : Int32).toInt64) 3 h2) u_X10_in ql_X10_48 qi_X10_in rfl rfl (Nat.le_of_ble_eq_true rfl) (by decide) rfl rfl (zat dd_X10_note 11 rfl) (fun x3 h4 => ?_)
    refine z_if_eq (tgt := 35) (zat dd_X10_note 12 rfl) (by decide) ?_ ?_
    · refine z_sub [0] rfl ?_
      exact zb_X10_note_35 Y v0 h4
    · refine z_iload_n 3 (zat dd_X10_note 13 rfl) rfl rfl ?_
      refine z_i2l (zat dd_X10_note 14 rfl) ?_
      refine z_lconst (x := 0) (zat dd_X10_note 15 rfl) (by decide) ?_
      refine z_lconst (x := 1) (zat dd_X10_note 16 rfl) (by decide) ?_
      refine z_callS_I0 (M2 := M_X10_in) [.long ((v3 : Int32).toInt64), .long 0, .long 1] (fun l D _ _ => m_X10_in l D ((v3 : Int32).toInt64) 0 1 h4) u_X10_in ql_X10_48 qi_X10_in rfl rfl (Nat.le_of_ble_eq_true rfl) (by decide) rfl rfl (zat dd_X10_note 17 rfl) (fun x5 h6 => ?_)
      refine z_if_ne (tgt := 40) (zat dd_X10_note 18 rfl) (by decide) ?_ ?_
      · refine z_aload_n 0 (zat dd_X10_note 22 rfl) rfl rfl ?_
        refine z_getR fl_X10_7 (zat dd_X10_note 23 rfl) (fun a7 => ?_)
        refine z_bipush (x := 44) (zat dd_X10_note 24 rfl) (by decide) ?_
        refine z_iald (zat dd_X10_note 25 rfl) (fun x8 => ?_)
        refine z_bipush (x := 6) (zat dd_X10_note 26 rfl) (by decide) ?_
        refine z_icmp_ne (tgt := 57) (zat dd_X10_note 27 rfl) (by decide) ?_ ?_
        · refine z_bipush (x := 45) (zat dd_X10_note 31 rfl) (by decide) ?_
          refine z_iconst (x := 3) (zat dd_X10_note 32 rfl) (by decide) ?_
          refine z_aload_n 0 (zat dd_X10_note 33 rfl) rfl rfl ?_
          refine z_getR fl_X10_7 (zat dd_X10_note 34 rfl) (fun a9 => ?_)
          refine z_bipush (x := 44) (zat dd_X10_note 35 rfl) (by decide) ?_
          refine z_iald (zat dd_X10_note 36 rfl) (fun x10 => ?_)
          refine z_imul (zat dd_X10_note 37 rfl) ?_
          refine z_iadd (zat dd_X10_note 38 rfl) ?_
          refine z_let (fun x11 => ?_)
          refine z_istore (lv' := [(4, .int x11), (0, .ref v0), (1, .int v1), (2, .int v2), (3, .int v3)]) (zat dd_X10_note 39 rfl) (Nat.le_of_ble_eq_true rfl) rfl ?_
          refine z_aload_n 1 (zat dd_X10_note 40 rfl) rfl rfl ?_
          refine z_getR fl_X10_7 (zat dd_X10_note 41 rfl) (fun a12 => ?_)
          refine z_iload 0 (zat dd_X10_note 42 rfl) rfl ?_
          refine z_iload_n 2 (zat dd_X10_note 43 rfl) rfl rfl ?_
          refine z_iast (zat dd_X10_note 44 rfl) (fun h13 => ?_)
          refine z_aload_n 1 (zat dd_X10_note 45 rfl) rfl rfl ?_
          refine z_getR fl_X10_7 (zat dd_X10_note 46 rfl) (fun a14 => ?_)
          refine z_iload 0 (zat dd_X10_note 47 rfl) rfl ?_
          refine z_iconst (x := 1) (zat dd_X10_note 48 rfl) (by decide) ?_
          refine z_iadd (zat dd_X10_note 49 rfl) ?_
          refine z_iload_n 3 (zat dd_X10_note 50 rfl) rfl rfl ?_
          refine z_iast (zat dd_X10_note 51 rfl) (fun h15 => ?_)
          refine z_aload_n 1 (zat dd_X10_note 52 rfl) rfl rfl ?_
          refine z_getR fl_X10_7 (zat dd_X10_note 53 rfl) (fun a16 => ?_)
          refine z_iload 0 (zat dd_X10_note 54 rfl) rfl ?_
          refine z_iconst (x := 2) (zat dd_X10_note 55 rfl) (by decide) ?_
          refine z_iadd (zat dd_X10_note 56 rfl) ?_
          refine z_iload_n 4 (zat dd_X10_note 57 rfl) rfl rfl ?_
          refine z_iast (zat dd_X10_note 58 rfl) (fun h17 => ?_)
          refine z_aload_n 1 (zat dd_X10_note 59 rfl) rfl rfl ?_
          refine z_getR fl_X10_7 (zat dd_X10_note 60 rfl) (fun a18 => ?_)
          refine z_bipush (x := 44) (zat dd_X10_note 61 rfl) (by decide) ?_
          refine z_dup2 (zat dd_X10_note 62 rfl) rfl rfl ?_
          refine z_iald (zat dd_X10_note 63 rfl) (fun x19 => ?_)
          refine z_iconst (x := 1) (zat dd_X10_note 64 rfl) (by decide) ?_
          refine z_iadd (zat dd_X10_note 65 rfl) ?_
          refine z_iast (zat dd_X10_note 66 rfl) (fun h20 => ?_)
          refine z_aload_n 1 (zat dd_X10_note 67 rfl) rfl rfl ?_
          refine z_getR fl_X10_7 (zat dd_X10_note 68 rfl) (fun a21 => ?_)
          refine z_bipush (x := 44) (zat dd_X10_note 69 rfl) (by decide) ?_
          refine z_iald (zat dd_X10_note 70 rfl) (fun x22 => ?_)
          exact z_iret rfl (zat dd_X10_note 71 rfl)
        · refine z_aload_n 0 (zat dd_X10_note 28 rfl) rfl rfl ?_
          refine z_callV_I0 (M2 := M_X10_full) [] (fun l D _ _ => m_X10_full l D v0 h6) u_X10_full ql_X10_103 qi_X10_full qs_X10_full (ci := 6) rfl rfl rfl (Nat.le_of_ble_eq_true rfl) (by decide) rfl rfl (zat dd_X10_note 29 rfl) (fun x23 h24 => ?_)
          exact z_iret rfl (zat dd_X10_note 30 rfl)
      · refine z_sub [0] rfl ?_
        exact zb_X10_note_35 Y v0 h6
/-! PaperDollsModel.mark(IIII)I -/
def L_X10_mark : List (Nat × Instr × Nat) := [(0, .aload_n 0, 1), (1, .iload_n 1, 1), (2, .invokevirtual 165, 3), (5, .ifCond .eq 42, 3), (8, .iload_n 2, 1), (9, .i2l, 1), (10, .lconst 1, 1), (11, .ldc2_w 101, 3), (14, .invokestatic 48, 3), (17, .ifCond .eq 30, 3), (20, .iload_n 3, 1), (21, .i2l, 1), (22, .lconst 0, 1), (23, .ldc2_w 213, 3), (26, .invokestatic 48, 3), (29, .ifCond .eq 18, 3), (32, .iload 4, 2), (34, .i2l, 1), (35, .ldc2_w 215, 3), (38, .ldc2_w 217, 3), (41, .invokestatic 48, 3), (44, .ifCond .ne 8, 3), (47, .aload_n 0, 1), (48, .invokevirtual 85, 3), (51, .ireturn, 1), (52, .aload_n 0, 1), (53, .getfield 7, 3), (56, .bipush 63, 2), (58, .iaload, 1), (59, .bipush 6, 2), (61, .if_icmp .ne 8, 3), (64, .aload_n 0, 1), (65, .invokevirtual 103, 3), (68, .ireturn, 1), (69, .bipush 64, 2), (71, .iconst 4, 1), (72, .aload_n 0, 1), (73, .getfield 7, 3), (76, .bipush 63, 2), (78, .iaload, 1), (79, .imul, 1), (80, .iadd, 1), (81, .istore 5, 2), (83, .aload_n 0, 1), (84, .getfield 7, 3), (87, .iload 5, 2), (89, .iload_n 1, 1), (90, .iastore, 1), (91, .aload_n 0, 1), (92, .getfield 7, 3), (95, .iload 5, 2), (97, .iconst 1, 1), (98, .iadd, 1), (99, .iload_n 2, 1), (100, .iastore, 1), (101, .aload_n 0, 1), (102, .getfield 7, 3), (105, .iload 5, 2), (107, .iconst 2, 1), (108, .iadd, 1), (109, .iload_n 3, 1), (110, .iastore, 1), (111, .aload_n 0, 1), (112, .getfield 7, 3), (115, .iload 5, 2), (117, .iconst 3, 1), (118, .iadd, 1), (119, .iload 4, 2), (121, .iastore, 1), (122, .aload_n 0, 1), (123, .getfield 7, 3), (126, .bipush 63, 2), (128, .dup2, 1), (129, .iaload, 1), (130, .iconst 1, 1), (131, .iadd, 1), (132, .iastore, 1), (133, .aload_n 0, 1), (134, .getfield 7, 3), (137, .bipush 63, 2), (139, .iaload, 1), (140, .ireturn, 1)]
theorem dd_X10_mark : ∀ q ∈ L_X10_mark, decode cX10_mark q.1 = .ok q.2 := by decide +kernel
abbrev M_X10_mark : zM := (cX10_mark, RX10, "mark", 6, some .int, 2, 0, 0)
theorem u_X10_mark : zCal yX10_mark (M_X10_mark) 4 := ⟨(zmem 1111 (by decide +kernel) rfl : Cond.code yX10_mark cX10_mark 6 (some .int) ∈ zTb), zmem 63 (by decide +kernel) rfl, by decide +kernel, Nat.le_of_ble_eq_true rfl⟩
theorem qi_X10_mark : Cond.instanceMethod yX10_mark ∈ zTb := zmem 1109 (by decide +kernel) rfl
theorem qs_X10_mark : Cond.selects yX10_mark.cls yX10_mark yX10_mark ∈ zTb := zmem 1110 (by decide +kernel) rfl
def f_X10_mark_47 (v0 : Nat) (h : zH) : zR :=
  zoc h v0 6 <|
  zcI (f_X10_bad v0 h) fun x1 h2 =>
  zrI x1 h2
set_option maxRecDepth 100000 in
set_option maxHeartbeats 4000000 in
theorem zb_X10_mark_47 (Y : zY) (v0 : Nat) (h : zH) : Z Y M_X10_mark 0 0 47 [(0, .ref v0)] [] h (f_X10_mark_47 v0 h) := by
  rw [f_X10_mark_47]
  refine z_aload_n 0 (zat dd_X10_mark 22 rfl) rfl rfl ?_
  refine z_callV_I0 (M2 := M_X10_bad) [] (fun l D _ _ => m_X10_bad l D v0 h) u_X10_bad ql_X10_85 qi_X10_bad qs_X10_bad (ci := 6) rfl rfl rfl (Nat.le_of_ble_eq_true rfl) (by decide) rfl rfl (zat dd_X10_mark 23 rfl) (fun x1 h2 => ?_)
  exact z_iret rfl (zat dd_X10_mark 24 rfl)
def f_X10_mark (v0 : Nat) (v1 : Int32) (v2 : Int32) (v3 : Int32) (v4 : Int32) (h : zH) : zR :=
  zoc h v0 6 <|
  zcI (f_X10_isPiece v0 v1 h) fun x1 h2 =>
  if x1 = 0 then
  f_X10_mark_47 v0 h2
  else
  zcI (f_X10_in ((v2 : Int32).toInt64) 1 9 h2) fun x3 h4 =>
  if x3 = 0 then
  f_X10_mark_47 v0 h4
  else
  zcI (f_X10_in ((v3 : Int32).toInt64) 0 99 h4) fun x5 h6 =>
  if x5 = 0 then
  f_X10_mark_47 v0 h6
  else
  zcI (f_X10_in ((v4 : Int32).toInt64) (-99) 40 h6) fun x7 h8 =>
  if x7 = 0 then
  f_X10_mark_47 v0 h8
  else
  zgR h8 v0 6 0 fun a9 =>
  zaI h8 a9 0 63 fun x10 =>
  if x10 = 6 then
  zoc h8 v0 6 <|
  zcI (f_X10_full v0 h8) fun x27 h28 =>
  zrI x27 h28
  else
  zgR h8 v0 6 0 fun a11 =>
  zaI h8 a11 0 63 fun x12 =>
  zlt (64 + (4 * x12)) fun x13 =>
  zgR h8 v0 6 0 fun a14 =>
  zsI h8 a14 0 x13 v1 fun h15 =>
  zgR h15 v0 6 0 fun a16 =>
  zsI h15 a16 0 (x13 + 1) v2 fun h17 =>
  zgR h17 v0 6 0 fun a18 =>
  zsI h17 a18 0 (x13 + 2) v3 fun h19 =>
  zgR h19 v0 6 0 fun a20 =>
  zsI h19 a20 0 (x13 + 3) v4 fun h21 =>
  zgR h21 v0 6 0 fun a22 =>
  zaI h21 a22 0 63 fun x23 =>
  zsI h21 a22 0 63 (x23 + 1) fun h24 =>
  zgR h24 v0 6 0 fun a25 =>
  zaI h24 a25 0 63 fun x26 =>
  zrI x26 h24
set_option maxRecDepth 100000 in
set_option maxHeartbeats 4000000 in
theorem m_X10_mark (l : Launch) (D : zD) (v0 : Nat) (v1 : Int32) (v2 : Int32) (v3 : Int32) (v4 : Int32) (h : zH) : zMet l D yX10_mark M_X10_mark [.ref v0, .int v1, .int v2, .int v3, .int v4] h (f_X10_mark v0 v1 v2 v3 v4 h) := by
  refine zMet.of (by decide +kernel) ⟨rfl, rfl⟩ (Nat.le_of_ble_eq_true rfl) (fun Y hl hD => ?_)
  show Z Y M_X10_mark 0 0 0 [(0, .ref v0), (1, .int v1), (2, .int v2), (3, .int v3), (4, .int v4)] [] h _
  rw [f_X10_mark]
  refine z_aload_n 0 (zat dd_X10_mark 0 rfl) rfl rfl ?_
  refine z_iload_n 1 (zat dd_X10_mark 1 rfl) rfl rfl ?_
  refine z_callV_I0 (M2 := M_X10_isPiece) [.int v1] (fun l D _ _ => m_X10_isPiece l D v0 v1 h) u_X10_isPiece ql_X10_165 qi_X10_isPiece qs_X10_isPiece (ci := 6) rfl rfl rfl (Nat.le_of_ble_eq_true rfl) (by decide) rfl rfl (zat dd_X10_mark 2 rfl) (fun x1 h2 => ?_)
  refine z_if_eq (tgt := 47) (zat dd_X10_mark 3 rfl) (by decide) ?_ ?_
  · refine z_sub [0] rfl ?_
    exact zb_X10_mark_47 Y v0 h2
  · refine z_iload_n 2 (zat dd_X10_mark 4 rfl) rfl rfl ?_
    refine z_i2l (zat dd_X10_mark 5 rfl) ?_
    refine z_lconst (x := 1) (zat dd_X10_mark 6 rfl) (by decide) ?_
    refine z_ldc2 (x := 9) qk_X10_101 (zat dd_X10_mark 7 rfl) ?_
    refine z_callS_I0 (M2 := M_X10_in) [.long ((v2 : Int32).toInt64), .long 1, .long 9] (fun l D _ _ => m_X10_in l D ((v2 : Int32).toInt64) 1 9 h2) u_X10_in ql_X10_48 qi_X10_in rfl rfl (Nat.le_of_ble_eq_true rfl) (by decide) rfl rfl (zat dd_X10_mark 8 rfl) (fun x3 h4 => ?_)
    refine z_if_eq (tgt := 47) (zat dd_X10_mark 9 rfl) (by decide) ?_ ?_
    · refine z_sub [0] rfl ?_
      exact zb_X10_mark_47 Y v0 h4
    · refine z_iload_n 3 (zat dd_X10_mark 10 rfl) rfl rfl ?_
      refine z_i2l (zat dd_X10_mark 11 rfl) ?_
      refine z_lconst (x := 0) (zat dd_X10_mark 12 rfl) (by decide) ?_
      refine z_ldc2 (x := 99) qk_X10_213 (zat dd_X10_mark 13 rfl) ?_
      refine z_callS_I0 (M2 := M_X10_in) [.long ((v3 : Int32).toInt64), .long 0, .long 99] (fun l D _ _ => m_X10_in l D ((v3 : Int32).toInt64) 0 99 h4) u_X10_in ql_X10_48 qi_X10_in rfl rfl (Nat.le_of_ble_eq_true rfl) (by decide) rfl rfl (zat dd_X10_mark 14 rfl) (fun x5 h6 => ?_)
      refine z_if_eq (tgt := 47) (zat dd_X10_mark 15 rfl) (by decide) ?_ ?_
      · refine z_sub [0] rfl ?_
        exact zb_X10_mark_47 Y v0 h6
      · refine z_iload 4 (zat dd_X10_mark 16 rfl) rfl ?_
        refine z_i2l (zat dd_X10_mark 17 rfl) ?_
        refine z_ldc2 (x := (-99)) qk_X10_215 (zat dd_X10_mark 18 rfl) ?_
        refine z_ldc2 (x := 40) qk_X10_217 (zat dd_X10_mark 19 rfl) ?_
        refine z_callS_I0 (M2 := M_X10_in) [.long ((v4 : Int32).toInt64), .long (-99), .long 40] (fun l D _ _ => m_X10_in l D ((v4 : Int32).toInt64) (-99) 40 h6) u_X10_in ql_X10_48 qi_X10_in rfl rfl (Nat.le_of_ble_eq_true rfl) (by decide) rfl rfl (zat dd_X10_mark 20 rfl) (fun x7 h8 => ?_)
        refine z_if_ne (tgt := 52) (zat dd_X10_mark 21 rfl) (by decide) ?_ ?_
        · refine z_aload_n 0 (zat dd_X10_mark 25 rfl) rfl rfl ?_
          refine z_getR fl_X10_7 (zat dd_X10_mark 26 rfl) (fun a9 => ?_)
          refine z_bipush (x := 63) (zat dd_X10_mark 27 rfl) (by decide) ?_
          refine z_iald (zat dd_X10_mark 28 rfl) (fun x10 => ?_)
          refine z_bipush (x := 6) (zat dd_X10_mark 29 rfl) (by decide) ?_
          refine z_icmp_ne (tgt := 69) (zat dd_X10_mark 30 rfl) (by decide) ?_ ?_
          · refine z_bipush (x := 64) (zat dd_X10_mark 34 rfl) (by decide) ?_
            refine z_iconst (x := 4) (zat dd_X10_mark 35 rfl) (by decide) ?_
            refine z_aload_n 0 (zat dd_X10_mark 36 rfl) rfl rfl ?_
            refine z_getR fl_X10_7 (zat dd_X10_mark 37 rfl) (fun a11 => ?_)
            refine z_bipush (x := 63) (zat dd_X10_mark 38 rfl) (by decide) ?_
            refine z_iald (zat dd_X10_mark 39 rfl) (fun x12 => ?_)
            refine z_imul (zat dd_X10_mark 40 rfl) ?_
            refine z_iadd (zat dd_X10_mark 41 rfl) ?_
            refine z_let (fun x13 => ?_)
            refine z_istore (lv' := [(5, .int x13), (0, .ref v0), (1, .int v1), (2, .int v2), (3, .int v3), (4, .int v4)]) (zat dd_X10_mark 42 rfl) (Nat.le_of_ble_eq_true rfl) rfl ?_
            refine z_aload_n 1 (zat dd_X10_mark 43 rfl) rfl rfl ?_
            refine z_getR fl_X10_7 (zat dd_X10_mark 44 rfl) (fun a14 => ?_)
            refine z_iload 0 (zat dd_X10_mark 45 rfl) rfl ?_
            refine z_iload_n 2 (zat dd_X10_mark 46 rfl) rfl rfl ?_
            refine z_iast (zat dd_X10_mark 47 rfl) (fun h15 => ?_)
            refine z_aload_n 1 (zat dd_X10_mark 48 rfl) rfl rfl ?_
            refine z_getR fl_X10_7 (zat dd_X10_mark 49 rfl) (fun a16 => ?_)
            refine z_iload 0 (zat dd_X10_mark 50 rfl) rfl ?_
            refine z_iconst (x := 1) (zat dd_X10_mark 51 rfl) (by decide) ?_
            refine z_iadd (zat dd_X10_mark 52 rfl) ?_
            refine z_iload_n 3 (zat dd_X10_mark 53 rfl) rfl rfl ?_
            refine z_iast (zat dd_X10_mark 54 rfl) (fun h17 => ?_)
            refine z_aload_n 1 (zat dd_X10_mark 55 rfl) rfl rfl ?_
            refine z_getR fl_X10_7 (zat dd_X10_mark 56 rfl) (fun a18 => ?_)
            refine z_iload 0 (zat dd_X10_mark 57 rfl) rfl ?_
            refine z_iconst (x := 2) (zat dd_X10_mark 58 rfl) (by decide) ?_
            refine z_iadd (zat dd_X10_mark 59 rfl) ?_
            refine z_iload_n 4 (zat dd_X10_mark 60 rfl) rfl rfl ?_
            refine z_iast (zat dd_X10_mark 61 rfl) (fun h19 => ?_)
            refine z_aload_n 1 (zat dd_X10_mark 62 rfl) rfl rfl ?_
            refine z_getR fl_X10_7 (zat dd_X10_mark 63 rfl) (fun a20 => ?_)
            refine z_iload 0 (zat dd_X10_mark 64 rfl) rfl ?_
            refine z_iconst (x := 3) (zat dd_X10_mark 65 rfl) (by decide) ?_
            refine z_iadd (zat dd_X10_mark 66 rfl) ?_
            refine z_iload 5 (zat dd_X10_mark 67 rfl) rfl ?_
            refine z_iast (zat dd_X10_mark 68 rfl) (fun h21 => ?_)
            refine z_aload_n 1 (zat dd_X10_mark 69 rfl) rfl rfl ?_
            refine z_getR fl_X10_7 (zat dd_X10_mark 70 rfl) (fun a22 => ?_)
            refine z_bipush (x := 63) (zat dd_X10_mark 71 rfl) (by decide) ?_
            refine z_dup2 (zat dd_X10_mark 72 rfl) rfl rfl ?_
            refine z_iald (zat dd_X10_mark 73 rfl) (fun x23 => ?_)
            refine z_iconst (x := 1) (zat dd_X10_mark 74 rfl) (by decide) ?_
            refine z_iadd (zat dd_X10_mark 75 rfl) ?_
            refine z_iast (zat dd_X10_mark 76 rfl) (fun h24 => ?_)
            refine z_aload_n 1 (zat dd_X10_mark 77 rfl) rfl rfl ?_
            refine z_getR fl_X10_7 (zat dd_X10_mark 78 rfl) (fun a25 => ?_)
            refine z_bipush (x := 63) (zat dd_X10_mark 79 rfl) (by decide) ?_
            refine z_iald (zat dd_X10_mark 80 rfl) (fun x26 => ?_)
            exact z_iret rfl (zat dd_X10_mark 81 rfl)
          · refine z_aload_n 0 (zat dd_X10_mark 31 rfl) rfl rfl ?_
            refine z_callV_I0 (M2 := M_X10_full) [] (fun l D _ _ => m_X10_full l D v0 h8) u_X10_full ql_X10_103 qi_X10_full qs_X10_full (ci := 6) rfl rfl rfl (Nat.le_of_ble_eq_true rfl) (by decide) rfl rfl (zat dd_X10_mark 32 rfl) (fun x27 h28 => ?_)
            exact z_iret rfl (zat dd_X10_mark 33 rfl)
        · refine z_sub [0] rfl ?_
          exact zb_X10_mark_47 Y v0 h8
/-! PaperDollsModel.forget(I)I -/
def L_X10_forget : List (Nat × Instr × Nat) := [(0, .iload_n 1, 1), (1, .i2l, 1), (2, .lconst 0, 1), (3, .lconst 1, 1), (4, .invokestatic 48, 3), (7, .ifCond .ne 8, 3), (10, .aload_n 0, 1), (11, .invokevirtual 85, 3), (14, .ireturn, 1), (15, .iload_n 1, 1), (16, .ifCond .ne 8, 3), (19, .bipush 44, 2), (21, .goto 5, 3), (24, .bipush 63, 2), (26, .istore_n 2, 1), (27, .aload_n 0, 1), (28, .getfield 7, 3), (31, .iload_n 2, 1), (32, .iaload, 1), (33, .istore_n 3, 1), (34, .aload_n 0, 1), (35, .getfield 7, 3), (38, .iload_n 2, 1), (39, .iconst 0, 1), (40, .iastore, 1), (41, .iload_n 3, 1), (42, .ireturn, 1)]
theorem dd_X10_forget : ∀ q ∈ L_X10_forget, decode cX10_forget q.1 = .ok q.2 := by decide +kernel
abbrev M_X10_forget : zM := (cX10_forget, RX10, "forget", 4, some .int, 1, 0, 0)
theorem u_X10_forget : zCal yX10_forget (M_X10_forget) 1 := ⟨(zmem 1118 (by decide +kernel) rfl : Cond.code yX10_forget cX10_forget 4 (some .int) ∈ zTb), zmem 63 (by decide +kernel) rfl, by decide +kernel, Nat.le_of_ble_eq_true rfl⟩
theorem qi_X10_forget : Cond.instanceMethod yX10_forget ∈ zTb := zmem 1116 (by decide +kernel) rfl
theorem qs_X10_forget : Cond.selects yX10_forget.cls yX10_forget yX10_forget ∈ zTb := zmem 1117 (by decide +kernel) rfl
def f_X10_forget_26 (v0 : Nat) (t0 : Int32) (h : zH) : zR :=
  zgR h v0 6 0 fun a1 =>
  zaI h a1 0 t0 fun x2 =>
  zgR h v0 6 0 fun a3 =>
  zsI h a3 0 t0 0 fun h4 =>
  zrI x2 h4
set_option maxRecDepth 100000 in
set_option maxHeartbeats 4000000 in
theorem zb_X10_forget_26 (Y : zY) (v0 : Nat) (t0 : Int32) (h : zH) : Z Y M_X10_forget 0 0 26 [(0, .ref v0)] [.int t0] h (f_X10_forget_26 v0 t0 h) := by
  rw [f_X10_forget_26]
  refine z_istore_n (lv' := [(2, .int t0), (0, .ref v0)]) (zat dd_X10_forget 14 rfl) rfl (Nat.le_of_ble_eq_true rfl) rfl ?_
  refine z_aload_n 1 (zat dd_X10_forget 15 rfl) rfl rfl ?_
  refine z_getR fl_X10_7 (zat dd_X10_forget 16 rfl) (fun a1 => ?_)
  refine z_iload_n 0 (zat dd_X10_forget 17 rfl) rfl rfl ?_
  refine z_iald (zat dd_X10_forget 18 rfl) (fun x2 => ?_)
  refine z_istore_n (lv' := [(3, .int x2), (2, .int t0), (0, .ref v0)]) (zat dd_X10_forget 19 rfl) rfl (Nat.le_of_ble_eq_true rfl) rfl ?_
  refine z_aload_n 2 (zat dd_X10_forget 20 rfl) rfl rfl ?_
  refine z_getR fl_X10_7 (zat dd_X10_forget 21 rfl) (fun a3 => ?_)
  refine z_iload_n 1 (zat dd_X10_forget 22 rfl) rfl rfl ?_
  refine z_iconst (x := 0) (zat dd_X10_forget 23 rfl) (by decide) ?_
  refine z_iast (zat dd_X10_forget 24 rfl) (fun h4 => ?_)
  refine z_iload_n 0 (zat dd_X10_forget 25 rfl) rfl rfl ?_
  exact z_iret rfl (zat dd_X10_forget 26 rfl)
def f_X10_forget (v0 : Nat) (v1 : Int32) (h : zH) : zR :=
  zcI (f_X10_in ((v1 : Int32).toInt64) 0 1 h) fun x1 h2 =>
  if x1 = 0 then
  zoc h2 v0 6 <|
  zcI (f_X10_bad v0 h2) fun x3 h4 =>
  zrI x3 h4
  else
  if v1 = 0 then
  f_X10_forget_26 v0 44 h2
  else
  f_X10_forget_26 v0 63 h2
set_option maxRecDepth 100000 in
set_option maxHeartbeats 4000000 in
theorem m_X10_forget (l : Launch) (D : zD) (v0 : Nat) (v1 : Int32) (h : zH) : zMet l D yX10_forget M_X10_forget [.ref v0, .int v1] h (f_X10_forget v0 v1 h) := by
  refine zMet.of (by decide +kernel) ⟨rfl, rfl⟩ (Nat.le_of_ble_eq_true rfl) (fun Y hl hD => ?_)
  show Z Y M_X10_forget 0 0 0 [(0, .ref v0), (1, .int v1)] [] h _
  rw [f_X10_forget]
  refine z_iload_n 1 (zat dd_X10_forget 0 rfl) rfl rfl ?_
  refine z_i2l (zat dd_X10_forget 1 rfl) ?_
  refine z_lconst (x := 0) (zat dd_X10_forget 2 rfl) (by decide) ?_
  refine z_lconst (x := 1) (zat dd_X10_forget 3 rfl) (by decide) ?_
  refine z_callS_I0 (M2 := M_X10_in) [.long ((v1 : Int32).toInt64), .long 0, .long 1] (fun l D _ _ => m_X10_in l D ((v1 : Int32).toInt64) 0 1 h) u_X10_in ql_X10_48 qi_X10_in rfl rfl (Nat.le_of_ble_eq_true rfl) (by decide) rfl rfl (zat dd_X10_forget 4 rfl) (fun x1 h2 => ?_)
  refine z_if_ne (tgt := 15) (zat dd_X10_forget 5 rfl) (by decide) ?_ ?_
  · refine z_iload_n 1 (zat dd_X10_forget 9 rfl) rfl rfl ?_
    refine z_if_ne (tgt := 24) (zat dd_X10_forget 10 rfl) (by decide) ?_ ?_
    · refine z_bipush (x := 63) (zat dd_X10_forget 13 rfl) (by decide) ?_
      refine z_sub [0] rfl ?_
      exact zb_X10_forget_26 Y v0 63 h2
    · refine z_bipush (x := 44) (zat dd_X10_forget 11 rfl) (by decide) ?_
      refine z_goto (tgt := 26) (zat dd_X10_forget 12 rfl) (by decide) ?_
      refine z_sub [0] rfl ?_
      exact zb_X10_forget_26 Y v0 44 h2
  · refine z_aload_n 0 (zat dd_X10_forget 6 rfl) rfl rfl ?_
    refine z_callV_I0 (M2 := M_X10_bad) [] (fun l D _ _ => m_X10_bad l D v0 h2) u_X10_bad ql_X10_85 qi_X10_bad qs_X10_bad (ci := 6) rfl rfl rfl (Nat.le_of_ble_eq_true rfl) (by decide) rfl rfl (zat dd_X10_forget 7 rfl) (fun x3 h4 => ?_)
    exact z_iret rfl (zat dd_X10_forget 8 rfl)
/-! PaperDollsModel.is()I -/
def L_X10_is : List (Nat × Instr × Nat) := [(0, .iconst 0, 1), (1, .istore_n 1, 1), (2, .iconst 0, 1), (3, .istore_n 2, 1), (4, .iload_n 2, 1), (5, .bipush 6, 2), (7, .if_icmp .ge 106, 3), (10, .iconst 1, 1), (11, .istore_n 3, 1), (12, .iconst 0, 1), (13, .istore 4, 2), (15, .iload 4, 2), (17, .aload_n 0, 1), (18, .getfield 7, 3), (21, .bipush 44, 2), (23, .iaload, 1), (24, .if_icmp .ge 69, 3), (27, .bipush 45, 2), (29, .iconst 3, 1), (30, .iload 4, 2), (32, .imul, 1), (33, .iadd, 1), (34, .istore 5, 2), (36, .iload_n 3, 1), (37, .ifCond .eq 48, 3), (40, .iload_n 2, 1), (41, .aload_n 0, 1), (42, .getfield 7, 3), (45, .iload 5, 2), (47, .iaload, 1), (48, .aload_n 0, 1), (49, .getfield 7, 3), (52, .iload 5, 2), (54, .iconst 1, 1), (55, .iadd, 1), (56, .iaload, 1), (57, .invokestatic 44, 3), (60, .aload_n 0, 1), (61, .getfield 7, 3), (64, .iload 5, 2), (66, .iconst 2, 1), (67, .iadd, 1), (68, .iaload, 1), (69, .iconst 1, 1), (70, .if_icmp .ne 7, 3), (73, .iconst 1, 1), (74, .goto 4, 3), (77, .iconst 0, 1), (78, .if_icmp .ne 7, 3), (81, .iconst 1, 1), (82, .goto 4, 3), (85, .iconst 0, 1), (86, .istore_n 3, 1), (87, .iinc 4 1, 3), (90, .goto (-75), 3), (93, .iload_n 1, 1), (94, .iload_n 3, 1), (95, .ifCond .eq 9, 3), (98, .iconst 1, 1), (99, .iload_n 2, 1), (100, .ishl, 1), (101, .goto 4, 3), (104, .iconst 0, 1), (105, .ior, 1), (106, .istore_n 1, 1), (107, .iinc 2 1, 3), (110, .goto (-106), 3), (113, .iload_n 1, 1), (114, .ireturn, 1)]
theorem dd_X10_is : ∀ q ∈ L_X10_is, decode cX10_is q.1 = .ok q.2 := by decide +kernel
abbrev M_X10_is : zM := (cX10_is, RX10, "is", 6, some .int, 1, 0, 0)
theorem u_X10_is : zCal yX10_is (M_X10_is) 0 := ⟨(zmem 1122 (by decide +kernel) rfl : Cond.code yX10_is cX10_is 6 (some .int) ∈ zTb), zmem 63 (by decide +kernel) rfl, by decide +kernel, Nat.le_of_ble_eq_true rfl⟩
theorem qi_X10_is : Cond.instanceMethod yX10_is ∈ zTb := zmem 1120 (by decide +kernel) rfl
theorem qs_X10_is : Cond.selects yX10_is.cls yX10_is yX10_is ∈ zTb := zmem 1121 (by decide +kernel) rfl
def f_X10_is_105 (k4 : Nat → Int32 → Int32 → zH → zR) (v0 : Nat) (v2 : Int32) (t0 : Int32) (t1 : Int32) (h : zH) : zR :=
  zlt (t1 ||| t0) fun x1 =>
  k4 v0 x1 (v2 + 1) h
set_option maxRecDepth 100000 in
set_option maxHeartbeats 4000000 in
theorem zb_X10_is_105 (Y : zY) (k4 : Nat → Int32 → Int32 → zH → zR) (hk4 : ∀ (v0 : Nat) (v1 : Int32) (v2 : Int32) (h : zH), Z Y M_X10_is 0 0 4 [(0, .ref v0), (1, .int v1), (2, .int v2)] [] h (k4 v0 v1 v2 h)) (v0 : Nat) (v2 : Int32) (t0 : Int32) (t1 : Int32) (h : zH) : Z Y M_X10_is 0 0 105 [(0, .ref v0), (2, .int v2)] [.int t0, .int t1] h (f_X10_is_105 k4 v0 v2 t0 t1 h) := by
  rw [f_X10_is_105]
  refine z_ior (zat dd_X10_is 63 rfl) ?_
  refine z_let (fun x1 => ?_)
  refine z_istore_n (lv' := [(1, .int x1), (0, .ref v0), (2, .int v2)]) (zat dd_X10_is 64 rfl) rfl (Nat.le_of_ble_eq_true rfl) rfl ?_
  refine z_iinc (y := v2 + 1) (lv' := [(2, .int (v2 + 1)), (1, .int x1), (0, .ref v0)]) 2 (zat dd_X10_is 65 rfl) rfl rfl (Nat.le_of_ble_eq_true rfl) rfl ?_
  refine z_goto (tgt := 4) (zat dd_X10_is 66 rfl) (by decide) ?_
  refine z_sub [2, 1, 0] rfl ?_
  exact hk4 v0 x1 (v2 + 1) h
def f_X10_is_86 (k15 : Nat → Int32 → Int32 → Int32 → Int32 → zH → zR) (v0 : Nat) (v1 : Int32) (v2 : Int32) (v4 : Int32) (t0 : Int32) (h : zH) : zR :=
  k15 v0 v1 v2 t0 (v4 + 1) h
set_option maxRecDepth 100000 in
set_option maxHeartbeats 4000000 in
theorem zb_X10_is_86 (Y : zY) (k15 : Nat → Int32 → Int32 → Int32 → Int32 → zH → zR) (hk15 : ∀ (v0 : Nat) (v1 : Int32) (v2 : Int32) (v3 : Int32) (v4 : Int32) (h : zH), Z Y M_X10_is 0 0 15 [(0, .ref v0), (1, .int v1), (2, .int v2), (3, .int v3), (4, .int v4)] [] h (k15 v0 v1 v2 v3 v4 h)) (v0 : Nat) (v1 : Int32) (v2 : Int32) (v4 : Int32) (t0 : Int32) (h : zH) : Z Y M_X10_is 0 0 86 [(0, .ref v0), (1, .int v1), (2, .int v2), (4, .int v4)] [.int t0] h (f_X10_is_86 k15 v0 v1 v2 v4 t0 h) := by
  rw [f_X10_is_86]
  refine z_istore_n (lv' := [(3, .int t0), (0, .ref v0), (1, .int v1), (2, .int v2), (4, .int v4)]) (zat dd_X10_is 52 rfl) rfl (Nat.le_of_ble_eq_true rfl) rfl ?_
  refine z_iinc (y := v4 + 1) (lv' := [(4, .int (v4 + 1)), (3, .int t0), (0, .ref v0), (1, .int v1), (2, .int v2)]) 4 (zat dd_X10_is 53 rfl) rfl rfl (Nat.le_of_ble_eq_true rfl) rfl ?_
  refine z_goto (tgt := 15) (zat dd_X10_is 54 rfl) (by decide) ?_
  refine z_sub [2, 3, 4, 1, 0] rfl ?_
  exact hk15 v0 v1 v2 t0 (v4 + 1) h
def f_X10_is_85 (k15 : Nat → Int32 → Int32 → Int32 → Int32 → zH → zR) (v0 : Nat) (v1 : Int32) (v2 : Int32) (v4 : Int32) (h : zH) : zR :=
  f_X10_is_86 k15 v0 v1 v2 v4 0 h
set_option maxRecDepth 100000 in
set_option maxHeartbeats 4000000 in
theorem zb_X10_is_85 (Y : zY) (k15 : Nat → Int32 → Int32 → Int32 → Int32 → zH → zR) (hk15 : ∀ (v0 : Nat) (v1 : Int32) (v2 : Int32) (v3 : Int32) (v4 : Int32) (h : zH), Z Y M_X10_is 0 0 15 [(0, .ref v0), (1, .int v1), (2, .int v2), (3, .int v3), (4, .int v4)] [] h (k15 v0 v1 v2 v3 v4 h)) (v0 : Nat) (v1 : Int32) (v2 : Int32) (v4 : Int32) (h : zH) : Z Y M_X10_is 0 0 85 [(0, .ref v0), (1, .int v1), (2, .int v2), (4, .int v4)] [] h (f_X10_is_85 k15 v0 v1 v2 v4 h) := by
  rw [f_X10_is_85]
  refine z_iconst (x := 0) (zat dd_X10_is 51 rfl) (by decide) ?_
  exact zb_X10_is_86 Y k15 hk15 v0 v1 v2 v4 0 h
def f_X10_is_78 (k15 : Nat → Int32 → Int32 → Int32 → Int32 → zH → zR) (v0 : Nat) (v1 : Int32) (v2 : Int32) (v4 : Int32) (t0 : Int32) (t1 : Int32) (h : zH) : zR :=
  if t1 = t0 then
  f_X10_is_86 k15 v0 v1 v2 v4 1 h
  else
  f_X10_is_85 k15 v0 v1 v2 v4 h
set_option maxRecDepth 100000 in
set_option maxHeartbeats 4000000 in
theorem zb_X10_is_78 (Y : zY) (k15 : Nat → Int32 → Int32 → Int32 → Int32 → zH → zR) (hk15 : ∀ (v0 : Nat) (v1 : Int32) (v2 : Int32) (v3 : Int32) (v4 : Int32) (h : zH), Z Y M_X10_is 0 0 15 [(0, .ref v0), (1, .int v1), (2, .int v2), (3, .int v3), (4, .int v4)] [] h (k15 v0 v1 v2 v3 v4 h)) (v0 : Nat) (v1 : Int32) (v2 : Int32) (v4 : Int32) (t0 : Int32) (t1 : Int32) (h : zH) : Z Y M_X10_is 0 0 78 [(0, .ref v0), (1, .int v1), (2, .int v2), (4, .int v4)] [.int t0, .int t1] h (f_X10_is_78 k15 v0 v1 v2 v4 t0 t1 h) := by
  rw [f_X10_is_78]
  refine z_icmp_ne (tgt := 85) (zat dd_X10_is 48 rfl) (by decide) ?_ ?_
  · exact zb_X10_is_85 Y k15 hk15 v0 v1 v2 v4 h
  · refine z_iconst (x := 1) (zat dd_X10_is 49 rfl) (by decide) ?_
    refine z_goto (tgt := 86) (zat dd_X10_is 50 rfl) (by decide) ?_
    exact zb_X10_is_86 Y k15 hk15 v0 v1 v2 v4 1 h
def f_X10_is_15 (k4 : Nat → Int32 → Int32 → zH → zR) : Nat → Nat → Int32 → Int32 → Int32 → Int32 → zH → zR
  | 0, _, _, _, _, _, _ => none
  | n + 1, v0, v1, v2, v3, v4, h =>
  zgR h v0 6 0 fun a1 =>
  zaI h a1 0 44 fun x2 =>
  if x2 ≤ v4 then
  if v3 = 0 then
  f_X10_is_105 k4 v0 v2 0 v1 h
  else
  f_X10_is_105 k4 v0 v2 (1 <<< (v2 &&& 31)) v1 h
  else
  zlt (45 + (3 * v4)) fun x3 =>
  if v3 = 0 then
  f_X10_is_85 (f_X10_is_15 k4 n) v0 v1 v2 v4 h
  else
  zgR h v0 6 0 fun a4 =>
  zaI h a4 0 x3 fun x5 =>
  zgR h v0 6 0 fun a6 =>
  zaI h a6 0 (x3 + 1) fun x7 =>
  zcI (f_X10_goes v2 x5 x7 h) fun x8 h9 =>
  zgR h9 v0 6 0 fun a10 =>
  zaI h9 a10 0 (x3 + 2) fun x11 =>
  if x11 = 1 then
  f_X10_is_78 (f_X10_is_15 k4 n) v0 v1 v2 v4 1 x8 h9
  else
  f_X10_is_78 (f_X10_is_15 k4 n) v0 v1 v2 v4 0 x8 h9
set_option maxRecDepth 100000 in
set_option maxHeartbeats 4000000 in
theorem zb_X10_is_15 (Y : zY) (k4 : Nat → Int32 → Int32 → zH → zR) (hk4 : ∀ (v0 : Nat) (v1 : Int32) (v2 : Int32) (h : zH), Z Y M_X10_is 0 0 4 [(0, .ref v0), (1, .int v1), (2, .int v2)] [] h (k4 v0 v1 v2 h)) : ∀ (n : Nat) (v0 : Nat) (v1 : Int32) (v2 : Int32) (v3 : Int32) (v4 : Int32) (h : zH), Z Y M_X10_is 0 0 15 [(0, .ref v0), (1, .int v1), (2, .int v2), (3, .int v3), (4, .int v4)] [] h (f_X10_is_15 k4 n v0 v1 v2 v3 v4 h) := by
  intro n
  induction n with
  | zero =>
    intro v0 v1 v2 v3 v4 h
    rw [f_X10_is_15]
    exact z_none
  | succ n ih =>
    intro v0 v1 v2 v3 v4 h
    rw [f_X10_is_15]
    refine z_iload 4 (zat dd_X10_is 11 rfl) rfl ?_
    refine z_aload_n 0 (zat dd_X10_is 12 rfl) rfl rfl ?_
    refine z_getR fl_X10_7 (zat dd_X10_is 13 rfl) (fun a1 => ?_)
    refine z_bipush (x := 44) (zat dd_X10_is 14 rfl) (by decide) ?_
    refine z_iald (zat dd_X10_is 15 rfl) (fun x2 => ?_)
    refine z_icmp_ge (tgt := 93) (zat dd_X10_is 16 rfl) (by decide) ?_ ?_
    · refine z_iload_n 1 (zat dd_X10_is 55 rfl) rfl rfl ?_
      refine z_iload_n 3 (zat dd_X10_is 56 rfl) rfl rfl ?_
      refine z_if_eq (tgt := 104) (zat dd_X10_is 57 rfl) (by decide) ?_ ?_
      · refine z_iconst (x := 0) (zat dd_X10_is 62 rfl) (by decide) ?_
        refine z_sub [0, 2] rfl ?_
        exact zb_X10_is_105 Y k4 hk4 v0 v2 0 v1 h
      · refine z_iconst (x := 1) (zat dd_X10_is 58 rfl) (by decide) ?_
        refine z_iload_n 2 (zat dd_X10_is 59 rfl) rfl rfl ?_
        refine z_ishl (zat dd_X10_is 60 rfl) ?_
        refine z_goto (tgt := 105) (zat dd_X10_is 61 rfl) (by decide) ?_
        refine z_sub [0, 2] rfl ?_
        exact zb_X10_is_105 Y k4 hk4 v0 v2 (1 <<< (v2 &&& 31)) v1 h
    · refine z_bipush (x := 45) (zat dd_X10_is 17 rfl) (by decide) ?_
      refine z_iconst (x := 3) (zat dd_X10_is 18 rfl) (by decide) ?_
      refine z_iload 4 (zat dd_X10_is 19 rfl) rfl ?_
      refine z_imul (zat dd_X10_is 20 rfl) ?_
      refine z_iadd (zat dd_X10_is 21 rfl) ?_
      refine z_let (fun x3 => ?_)
      refine z_istore (lv' := [(5, .int x3), (0, .ref v0), (1, .int v1), (2, .int v2), (3, .int v3), (4, .int v4)]) (zat dd_X10_is 22 rfl) (Nat.le_of_ble_eq_true rfl) rfl ?_
      refine z_iload_n 4 (zat dd_X10_is 23 rfl) rfl rfl ?_
      refine z_if_eq (tgt := 85) (zat dd_X10_is 24 rfl) (by decide) ?_ ?_
      · refine z_sub [1, 2, 3, 5] rfl ?_
        exact zb_X10_is_85 Y (f_X10_is_15 k4 n) ih v0 v1 v2 v4 h
      · refine z_iload_n 3 (zat dd_X10_is 25 rfl) rfl rfl ?_
        refine z_aload_n 1 (zat dd_X10_is 26 rfl) rfl rfl ?_
        refine z_getR fl_X10_7 (zat dd_X10_is 27 rfl) (fun a4 => ?_)
        refine z_iload 0 (zat dd_X10_is 28 rfl) rfl ?_
        refine z_iald (zat dd_X10_is 29 rfl) (fun x5 => ?_)
        refine z_aload_n 1 (zat dd_X10_is 30 rfl) rfl rfl ?_
        refine z_getR fl_X10_7 (zat dd_X10_is 31 rfl) (fun a6 => ?_)
        refine z_iload 0 (zat dd_X10_is 32 rfl) rfl ?_
        refine z_iconst (x := 1) (zat dd_X10_is 33 rfl) (by decide) ?_
        refine z_iadd (zat dd_X10_is 34 rfl) ?_
        refine z_iald (zat dd_X10_is 35 rfl) (fun x7 => ?_)
        refine z_callS_I0 (M2 := M_X10_goes) [.int v2, .int x5, .int x7] (fun l D _ _ => m_X10_goes l D v2 x5 x7 h) u_X10_goes ql_X10_44 qi_X10_goes rfl rfl (Nat.le_of_ble_eq_true rfl) (by decide) rfl rfl (zat dd_X10_is 36 rfl) (fun x8 h9 => ?_)
        refine z_aload_n 1 (zat dd_X10_is 37 rfl) rfl rfl ?_
        refine z_getR fl_X10_7 (zat dd_X10_is 38 rfl) (fun a10 => ?_)
        refine z_iload 0 (zat dd_X10_is 39 rfl) rfl ?_
        refine z_iconst (x := 2) (zat dd_X10_is 40 rfl) (by decide) ?_
        refine z_iadd (zat dd_X10_is 41 rfl) ?_
        refine z_iald (zat dd_X10_is 42 rfl) (fun x11 => ?_)
        refine z_iconst (x := 1) (zat dd_X10_is 43 rfl) (by decide) ?_
        refine z_icmp_ne (tgt := 77) (zat dd_X10_is 44 rfl) (by decide) ?_ ?_
        · refine z_iconst (x := 0) (zat dd_X10_is 47 rfl) (by decide) ?_
          refine z_sub [1, 2, 3, 5] rfl ?_
          exact zb_X10_is_78 Y (f_X10_is_15 k4 n) ih v0 v1 v2 v4 0 x8 h9
        · refine z_iconst (x := 1) (zat dd_X10_is 45 rfl) (by decide) ?_
          refine z_goto (tgt := 78) (zat dd_X10_is 46 rfl) (by decide) ?_
          refine z_sub [1, 2, 3, 5] rfl ?_
          exact zb_X10_is_78 Y (f_X10_is_15 k4 n) ih v0 v1 v2 v4 1 x8 h9
def f_X10_is_4 : Nat → Nat → Int32 → Int32 → zH → zR
  | 0, _, _, _, _ => none
  | n + 1, v0, v1, v2, h =>
  if 6 ≤ v2 then
  zrI v1 h
  else
  f_X10_is_15 (f_X10_is_4 n) zF v0 v1 v2 1 0 h
set_option maxRecDepth 100000 in
set_option maxHeartbeats 4000000 in
theorem zb_X10_is_4 (Y : zY) : ∀ (n : Nat) (v0 : Nat) (v1 : Int32) (v2 : Int32) (h : zH), Z Y M_X10_is 0 0 4 [(0, .ref v0), (1, .int v1), (2, .int v2)] [] h (f_X10_is_4 n v0 v1 v2 h) := by
  intro n
  induction n with
  | zero =>
    intro v0 v1 v2 h
    rw [f_X10_is_4]
    exact z_none
  | succ n ih =>
    intro v0 v1 v2 h
    rw [f_X10_is_4]
    refine z_iload_n 2 (zat dd_X10_is 4 rfl) rfl rfl ?_
    refine z_bipush (x := 6) (zat dd_X10_is 5 rfl) (by decide) ?_
    refine z_icmp_ge (tgt := 113) (zat dd_X10_is 6 rfl) (by decide) ?_ ?_
    · refine z_iload_n 1 (zat dd_X10_is 67 rfl) rfl rfl ?_
      exact z_iret rfl (zat dd_X10_is 68 rfl)
    · refine z_iconst (x := 1) (zat dd_X10_is 7 rfl) (by decide) ?_
      refine z_istore_n (lv' := [(3, .int 1), (0, .ref v0), (1, .int v1), (2, .int v2)]) (zat dd_X10_is 8 rfl) rfl (Nat.le_of_ble_eq_true rfl) rfl ?_
      refine z_iconst (x := 0) (zat dd_X10_is 9 rfl) (by decide) ?_
      refine z_istore (lv' := [(4, .int 0), (3, .int 1), (0, .ref v0), (1, .int v1), (2, .int v2)]) (zat dd_X10_is 10 rfl) (Nat.le_of_ble_eq_true rfl) rfl ?_
      refine z_sub [2, 3, 4, 1, 0] rfl ?_
      exact zb_X10_is_15 Y (f_X10_is_4 n) ih zF v0 v1 v2 1 0 h
def f_X10_is (v0 : Nat) (h : zH) : zR :=
  f_X10_is_4 zF v0 0 0 h
set_option maxRecDepth 100000 in
set_option maxHeartbeats 4000000 in
theorem m_X10_is (l : Launch) (D : zD) (v0 : Nat) (h : zH) : zMet l D yX10_is M_X10_is [.ref v0] h (f_X10_is v0 h) := by
  refine zMet.of (by decide +kernel) ⟨rfl, rfl⟩ (Nat.le_of_ble_eq_true rfl) (fun Y hl hD => ?_)
  show Z Y M_X10_is 0 0 0 [(0, .ref v0)] [] h _
  rw [f_X10_is]
  refine z_iconst (x := 0) (zat dd_X10_is 0 rfl) (by decide) ?_
  refine z_istore_n (lv' := [(1, .int 0), (0, .ref v0)]) (zat dd_X10_is 1 rfl) rfl (Nat.le_of_ble_eq_true rfl) rfl ?_
  refine z_iconst (x := 0) (zat dd_X10_is 2 rfl) (by decide) ?_
  refine z_istore_n (lv' := [(2, .int 0), (1, .int 0), (0, .ref v0)]) (zat dd_X10_is 3 rfl) rfl (Nat.le_of_ble_eq_true rfl) rfl ?_
  refine z_sub [2, 1, 0] rfl ?_
  exact zb_X10_is_4 Y zF v0 0 0 h
/-! PaperDollsModel.look()I -/
def L_X10_look : List (Nat × Instr × Nat) := [(0, .aload_n 0, 1), (1, .invokevirtual 219, 3), (4, .istore_n 1, 1), (5, .bipush (-101), 2), (7, .istore_n 2, 1), (8, .bipush 7, 2), (10, .istore_n 3, 1), (11, .iconst 0, 1), (12, .istore 4, 2), (14, .iload 4, 2), (16, .bipush 16, 2), (18, .if_icmp .ge 151, 3), (21, .iload_n 1, 1), (22, .ifCond .eq 147, 3), (25, .iload 4, 2), (27, .iconst 4, 1), (28, .idiv, 1), (29, .istore 5, 2), (31, .iload 4, 2), (33, .iconst 4, 1), (34, .irem, 1), (35, .istore 6, 2), (37, .iconst 0, 1), (38, .istore 7, 2), (40, .iconst 0, 1), (41, .istore 8, 2), (43, .iload 8, 2), (45, .bipush 6, 2), (47, .if_icmp .ge 40, 3), (50, .iload 7, 2), (52, .iload_n 1, 1), (53, .iload 8, 2), (55, .invokestatic 180, 3), (58, .ifCond .eq 19, 3), (61, .iload 8, 2), (63, .iload 5, 2), (65, .iload 6, 2), (67, .invokestatic 44, 3), (70, .ifCond .eq 7, 3), (73, .iconst 1, 1), (74, .goto 4, 3), (77, .iconst 0, 1), (78, .iadd, 1), (79, .istore 7, 2), (81, .iinc 8 1, 3), (84, .goto (-41), 3), (87, .iload 7, 2), (89, .iload_n 1, 1), (90, .invokestatic 201, 3), (93, .iload 7, 2), (95, .isub, 1), (96, .if_icmp .le 8, 3), (99, .iload 7, 2), (101, .goto 10, 3), (104, .iload_n 1, 1), (105, .invokestatic 201, 3), (108, .iload 7, 2), (110, .isub, 1), (111, .istore 8, 2), (113, .iload 5, 2), (115, .iload 6, 2), (117, .if_icmp .gt 13, 3), (120, .iload 8, 2), (122, .iload_n 3, 1), (123, .if_icmp .ge 7, 3), (126, .iconst 1, 1), (127, .goto 4, 3), (130, .iconst 0, 1), (131, .istore 9, 2), (133, .iload 9, 2), (135, .ifCond .eq 14, 3), (138, .bipush 10, 2), (140, .iload 5, 2), (142, .imul, 1), (143, .iload 6, 2), (145, .iadd, 1), (146, .goto 4, 3), (149, .iload_n 2, 1), (150, .istore_n 2, 1), (151, .iload 9, 2), (153, .ifCond .eq 8, 3), (156, .iload 8, 2), (158, .goto 4, 3), (161, .iload_n 3, 1), (162, .istore_n 3, 1), (163, .iinc 4 1, 3), (166, .goto (-152), 3), (169, .iload_n 2, 1), (170, .ireturn, 1)]
theorem dd_X10_look : ∀ q ∈ L_X10_look, decode cX10_look q.1 = .ok q.2 := by decide +kernel
abbrev M_X10_look : zM := (cX10_look, RX10, "look", 10, some .int, 2, 0, 0)
theorem u_X10_look : zCal yX10_look (M_X10_look) 0 := ⟨(zmem 1126 (by decide +kernel) rfl : Cond.code yX10_look cX10_look 10 (some .int) ∈ zTb), zmem 63 (by decide +kernel) rfl, by decide +kernel, Nat.le_of_ble_eq_true rfl⟩
theorem qi_X10_look : Cond.instanceMethod yX10_look ∈ zTb := zmem 1124 (by decide +kernel) rfl
theorem qs_X10_look : Cond.selects yX10_look.cls yX10_look yX10_look ∈ zTb := zmem 1125 (by decide +kernel) rfl
def f_X10_look_169 (v2 : Int32) (h : zH) : zR :=
  zrI v2 h
set_option maxRecDepth 100000 in
set_option maxHeartbeats 4000000 in
theorem zb_X10_look_169 (Y : zY) (v2 : Int32) (h : zH) : Z Y M_X10_look 0 0 169 [(2, .int v2)] [] h (f_X10_look_169 v2 h) := by
  rw [f_X10_look_169]
  refine z_iload_n 0 (zat dd_X10_look 87 rfl) rfl rfl ?_
  exact z_iret rfl (zat dd_X10_look 88 rfl)
def f_X10_look_162 (k14 : Int32 → Int32 → Int32 → Int32 → zH → zR) (v1 : Int32) (v2 : Int32) (v4 : Int32) (t0 : Int32) (h : zH) : zR :=
  k14 v1 v2 t0 (v4 + 1) h
set_option maxRecDepth 100000 in
set_option maxHeartbeats 4000000 in
theorem zb_X10_look_162 (Y : zY) (k14 : Int32 → Int32 → Int32 → Int32 → zH → zR) (hk14 : ∀ (v1 : Int32) (v2 : Int32) (v3 : Int32) (v4 : Int32) (h : zH), Z Y M_X10_look 0 0 14 [(1, .int v1), (2, .int v2), (3, .int v3), (4, .int v4)] [] h (k14 v1 v2 v3 v4 h)) (v1 : Int32) (v2 : Int32) (v4 : Int32) (t0 : Int32) (h : zH) : Z Y M_X10_look 0 0 162 [(1, .int v1), (2, .int v2), (4, .int v4)] [.int t0] h (f_X10_look_162 k14 v1 v2 v4 t0 h) := by
  rw [f_X10_look_162]
  refine z_istore_n (lv' := [(3, .int t0), (1, .int v1), (2, .int v2), (4, .int v4)]) (zat dd_X10_look 84 rfl) rfl (Nat.le_of_ble_eq_true rfl) rfl ?_
  refine z_iinc (y := v4 + 1) (lv' := [(4, .int (v4 + 1)), (3, .int t0), (1, .int v1), (2, .int v2)]) 3 (zat dd_X10_look 85 rfl) rfl rfl (Nat.le_of_ble_eq_true rfl) rfl ?_
  refine z_goto (tgt := 14) (zat dd_X10_look 86 rfl) (by decide) ?_
  refine z_sub [2, 3, 1, 0] rfl ?_
  exact hk14 v1 v2 t0 (v4 + 1) h
def f_X10_look_150 (k14 : Int32 → Int32 → Int32 → Int32 → zH → zR) (v1 : Int32) (v3 : Int32) (v4 : Int32) (v8 : Int32) (v9 : Int32) (t0 : Int32) (h : zH) : zR :=
  if v9 = 0 then
  f_X10_look_162 k14 v1 t0 v4 v3 h
  else
  f_X10_look_162 k14 v1 t0 v4 v8 h
set_option maxRecDepth 100000 in
set_option maxHeartbeats 4000000 in
theorem zb_X10_look_150 (Y : zY) (k14 : Int32 → Int32 → Int32 → Int32 → zH → zR) (hk14 : ∀ (v1 : Int32) (v2 : Int32) (v3 : Int32) (v4 : Int32) (h : zH), Z Y M_X10_look 0 0 14 [(1, .int v1), (2, .int v2), (3, .int v3), (4, .int v4)] [] h (k14 v1 v2 v3 v4 h)) (v1 : Int32) (v3 : Int32) (v4 : Int32) (v8 : Int32) (v9 : Int32) (t0 : Int32) (h : zH) : Z Y M_X10_look 0 0 150 [(1, .int v1), (3, .int v3), (4, .int v4), (8, .int v8), (9, .int v9)] [.int t0] h (f_X10_look_150 k14 v1 v3 v4 v8 v9 t0 h) := by
  rw [f_X10_look_150]
  refine z_istore_n (lv' := [(2, .int t0), (1, .int v1), (3, .int v3), (4, .int v4), (8, .int v8), (9, .int v9)]) (zat dd_X10_look 78 rfl) rfl (Nat.le_of_ble_eq_true rfl) rfl ?_
  refine z_iload 5 (zat dd_X10_look 79 rfl) rfl ?_
  refine z_if_eq (tgt := 161) (zat dd_X10_look 80 rfl) (by decide) ?_ ?_
  · refine z_iload_n 2 (zat dd_X10_look 83 rfl) rfl rfl ?_
    refine z_sub [1, 0, 3] rfl ?_
    exact zb_X10_look_162 Y k14 hk14 v1 t0 v4 v3 h
  · refine z_iload 4 (zat dd_X10_look 81 rfl) rfl ?_
    refine z_goto (tgt := 162) (zat dd_X10_look 82 rfl) (by decide) ?_
    refine z_sub [1, 0, 3] rfl ?_
    exact zb_X10_look_162 Y k14 hk14 v1 t0 v4 v8 h
def f_X10_look_131 (k14 : Int32 → Int32 → Int32 → Int32 → zH → zR) (v1 : Int32) (v2 : Int32) (v3 : Int32) (v4 : Int32) (v5 : Int32) (v6 : Int32) (v8 : Int32) (t0 : Int32) (h : zH) : zR :=
  if t0 = 0 then
  f_X10_look_150 k14 v1 v3 v4 v8 t0 v2 h
  else
  f_X10_look_150 k14 v1 v3 v4 v8 t0 ((10 * v5) + v6) h
set_option maxRecDepth 100000 in
set_option maxHeartbeats 4000000 in
theorem zb_X10_look_131 (Y : zY) (k14 : Int32 → Int32 → Int32 → Int32 → zH → zR) (hk14 : ∀ (v1 : Int32) (v2 : Int32) (v3 : Int32) (v4 : Int32) (h : zH), Z Y M_X10_look 0 0 14 [(1, .int v1), (2, .int v2), (3, .int v3), (4, .int v4)] [] h (k14 v1 v2 v3 v4 h)) (v1 : Int32) (v2 : Int32) (v3 : Int32) (v4 : Int32) (v5 : Int32) (v6 : Int32) (v8 : Int32) (t0 : Int32) (h : zH) : Z Y M_X10_look 0 0 131 [(1, .int v1), (2, .int v2), (3, .int v3), (4, .int v4), (5, .int v5), (6, .int v6), (8, .int v8)] [.int t0] h (f_X10_look_131 k14 v1 v2 v3 v4 v5 v6 v8 t0 h) := by
  rw [f_X10_look_131]
  refine z_istore (lv' := [(9, .int t0), (1, .int v1), (2, .int v2), (3, .int v3), (4, .int v4), (5, .int v5), (6, .int v6), (8, .int v8)]) (zat dd_X10_look 68 rfl) (Nat.le_of_ble_eq_true rfl) rfl ?_
  refine z_iload 0 (zat dd_X10_look 69 rfl) rfl ?_
  refine z_if_eq (tgt := 149) (zat dd_X10_look 70 rfl) (by decide) ?_ ?_
  · refine z_iload_n 2 (zat dd_X10_look 77 rfl) rfl rfl ?_
    refine z_sub [1, 3, 4, 7, 0] rfl ?_
    exact zb_X10_look_150 Y k14 hk14 v1 v3 v4 v8 t0 v2 h
  · refine z_bipush (x := 10) (zat dd_X10_look 71 rfl) (by decide) ?_
    refine z_iload 5 (zat dd_X10_look 72 rfl) rfl ?_
    refine z_imul (zat dd_X10_look 73 rfl) ?_
    refine z_iload 6 (zat dd_X10_look 74 rfl) rfl ?_
    refine z_iadd (zat dd_X10_look 75 rfl) ?_
    refine z_goto (tgt := 150) (zat dd_X10_look 76 rfl) (by decide) ?_
    refine z_sub [1, 3, 4, 7, 0] rfl ?_
    exact zb_X10_look_150 Y k14 hk14 v1 v3 v4 v8 t0 ((10 * v5) + v6) h
def f_X10_look_130 (k14 : Int32 → Int32 → Int32 → Int32 → zH → zR) (v1 : Int32) (v2 : Int32) (v3 : Int32) (v4 : Int32) (v5 : Int32) (v6 : Int32) (v8 : Int32) (h : zH) : zR :=
  f_X10_look_131 k14 v1 v2 v3 v4 v5 v6 v8 0 h
set_option maxRecDepth 100000 in
set_option maxHeartbeats 4000000 in
theorem zb_X10_look_130 (Y : zY) (k14 : Int32 → Int32 → Int32 → Int32 → zH → zR) (hk14 : ∀ (v1 : Int32) (v2 : Int32) (v3 : Int32) (v4 : Int32) (h : zH), Z Y M_X10_look 0 0 14 [(1, .int v1), (2, .int v2), (3, .int v3), (4, .int v4)] [] h (k14 v1 v2 v3 v4 h)) (v1 : Int32) (v2 : Int32) (v3 : Int32) (v4 : Int32) (v5 : Int32) (v6 : Int32) (v8 : Int32) (h : zH) : Z Y M_X10_look 0 0 130 [(1, .int v1), (2, .int v2), (3, .int v3), (4, .int v4), (5, .int v5), (6, .int v6), (8, .int v8)] [] h (f_X10_look_130 k14 v1 v2 v3 v4 v5 v6 v8 h) := by
  rw [f_X10_look_130]
  refine z_iconst (x := 0) (zat dd_X10_look 67 rfl) (by decide) ?_
  exact zb_X10_look_131 Y k14 hk14 v1 v2 v3 v4 v5 v6 v8 0 h
def f_X10_look_111 (k14 : Int32 → Int32 → Int32 → Int32 → zH → zR) (v1 : Int32) (v2 : Int32) (v3 : Int32) (v4 : Int32) (v5 : Int32) (v6 : Int32) (t0 : Int32) (h : zH) : zR :=
  if v6 < v5 then
  f_X10_look_130 k14 v1 v2 v3 v4 v5 v6 t0 h
  else
  if v3 ≤ t0 then
  f_X10_look_130 k14 v1 v2 v3 v4 v5 v6 t0 h
  else
  f_X10_look_131 k14 v1 v2 v3 v4 v5 v6 t0 1 h
set_option maxRecDepth 100000 in
set_option maxHeartbeats 4000000 in
theorem zb_X10_look_111 (Y : zY) (k14 : Int32 → Int32 → Int32 → Int32 → zH → zR) (hk14 : ∀ (v1 : Int32) (v2 : Int32) (v3 : Int32) (v4 : Int32) (h : zH), Z Y M_X10_look 0 0 14 [(1, .int v1), (2, .int v2), (3, .int v3), (4, .int v4)] [] h (k14 v1 v2 v3 v4 h)) (v1 : Int32) (v2 : Int32) (v3 : Int32) (v4 : Int32) (v5 : Int32) (v6 : Int32) (t0 : Int32) (h : zH) : Z Y M_X10_look 0 0 111 [(1, .int v1), (2, .int v2), (3, .int v3), (4, .int v4), (5, .int v5), (6, .int v6)] [.int t0] h (f_X10_look_111 k14 v1 v2 v3 v4 v5 v6 t0 h) := by
  rw [f_X10_look_111]
  refine z_istore (lv' := [(8, .int t0), (1, .int v1), (2, .int v2), (3, .int v3), (4, .int v4), (5, .int v5), (6, .int v6)]) (zat dd_X10_look 58 rfl) (Nat.le_of_ble_eq_true rfl) rfl ?_
  refine z_iload 5 (zat dd_X10_look 59 rfl) rfl ?_
  refine z_iload 6 (zat dd_X10_look 60 rfl) rfl ?_
  refine z_icmp_gt (tgt := 130) (zat dd_X10_look 61 rfl) (by decide) ?_ ?_
  · refine z_sub [1, 2, 3, 4, 5, 6, 0] rfl ?_
    exact zb_X10_look_130 Y k14 hk14 v1 v2 v3 v4 v5 v6 t0 h
  · refine z_iload 0 (zat dd_X10_look 62 rfl) rfl ?_
    refine z_iload_n 3 (zat dd_X10_look 63 rfl) rfl rfl ?_
    refine z_icmp_ge (tgt := 130) (zat dd_X10_look 64 rfl) (by decide) ?_ ?_
    · refine z_sub [1, 2, 3, 4, 5, 6, 0] rfl ?_
      exact zb_X10_look_130 Y k14 hk14 v1 v2 v3 v4 v5 v6 t0 h
    · refine z_iconst (x := 1) (zat dd_X10_look 65 rfl) (by decide) ?_
      refine z_goto (tgt := 131) (zat dd_X10_look 66 rfl) (by decide) ?_
      refine z_sub [1, 2, 3, 4, 5, 6, 0] rfl ?_
      exact zb_X10_look_131 Y k14 hk14 v1 v2 v3 v4 v5 v6 t0 1 h
def f_X10_look_78 (k43 : Int32 → Int32 → Int32 → Int32 → Int32 → Int32 → Int32 → Int32 → zH → zR) (v1 : Int32) (v2 : Int32) (v3 : Int32) (v4 : Int32) (v5 : Int32) (v6 : Int32) (v8 : Int32) (t0 : Int32) (t1 : Int32) (h : zH) : zR :=
  zlt (t1 + t0) fun x1 =>
  k43 v1 v2 v3 v4 v5 v6 x1 (v8 + 1) h
set_option maxRecDepth 100000 in
set_option maxHeartbeats 4000000 in
theorem zb_X10_look_78 (Y : zY) (k43 : Int32 → Int32 → Int32 → Int32 → Int32 → Int32 → Int32 → Int32 → zH → zR) (hk43 : ∀ (v1 : Int32) (v2 : Int32) (v3 : Int32) (v4 : Int32) (v5 : Int32) (v6 : Int32) (v7 : Int32) (v8 : Int32) (h : zH), Z Y M_X10_look 0 0 43 [(1, .int v1), (2, .int v2), (3, .int v3), (4, .int v4), (5, .int v5), (6, .int v6), (7, .int v7), (8, .int v8)] [] h (k43 v1 v2 v3 v4 v5 v6 v7 v8 h)) (v1 : Int32) (v2 : Int32) (v3 : Int32) (v4 : Int32) (v5 : Int32) (v6 : Int32) (v8 : Int32) (t0 : Int32) (t1 : Int32) (h : zH) : Z Y M_X10_look 0 0 78 [(1, .int v1), (2, .int v2), (3, .int v3), (4, .int v4), (5, .int v5), (6, .int v6), (8, .int v8)] [.int t0, .int t1] h (f_X10_look_78 k43 v1 v2 v3 v4 v5 v6 v8 t0 t1 h) := by
  rw [f_X10_look_78]
  refine z_iadd (zat dd_X10_look 42 rfl) ?_
  refine z_let (fun x1 => ?_)
  refine z_istore (lv' := [(7, .int x1), (1, .int v1), (2, .int v2), (3, .int v3), (4, .int v4), (5, .int v5), (6, .int v6), (8, .int v8)]) (zat dd_X10_look 43 rfl) (Nat.le_of_ble_eq_true rfl) rfl ?_
  refine z_iinc (y := v8 + 1) (lv' := [(8, .int (v8 + 1)), (7, .int x1), (1, .int v1), (2, .int v2), (3, .int v3), (4, .int v4), (5, .int v5), (6, .int v6)]) 7 (zat dd_X10_look 44 rfl) rfl rfl (Nat.le_of_ble_eq_true rfl) rfl ?_
  refine z_goto (tgt := 43) (zat dd_X10_look 45 rfl) (by decide) ?_
  refine z_sub [2, 3, 4, 5, 6, 7, 1, 0] rfl ?_
  exact hk43 v1 v2 v3 v4 v5 v6 x1 (v8 + 1) h
def f_X10_look_77 (k43 : Int32 → Int32 → Int32 → Int32 → Int32 → Int32 → Int32 → Int32 → zH → zR) (v1 : Int32) (v2 : Int32) (v3 : Int32) (v4 : Int32) (v5 : Int32) (v6 : Int32) (v8 : Int32) (t0 : Int32) (h : zH) : zR :=
  f_X10_look_78 k43 v1 v2 v3 v4 v5 v6 v8 0 t0 h
set_option maxRecDepth 100000 in
set_option maxHeartbeats 4000000 in
theorem zb_X10_look_77 (Y : zY) (k43 : Int32 → Int32 → Int32 → Int32 → Int32 → Int32 → Int32 → Int32 → zH → zR) (hk43 : ∀ (v1 : Int32) (v2 : Int32) (v3 : Int32) (v4 : Int32) (v5 : Int32) (v6 : Int32) (v7 : Int32) (v8 : Int32) (h : zH), Z Y M_X10_look 0 0 43 [(1, .int v1), (2, .int v2), (3, .int v3), (4, .int v4), (5, .int v5), (6, .int v6), (7, .int v7), (8, .int v8)] [] h (k43 v1 v2 v3 v4 v5 v6 v7 v8 h)) (v1 : Int32) (v2 : Int32) (v3 : Int32) (v4 : Int32) (v5 : Int32) (v6 : Int32) (v8 : Int32) (t0 : Int32) (h : zH) : Z Y M_X10_look 0 0 77 [(1, .int v1), (2, .int v2), (3, .int v3), (4, .int v4), (5, .int v5), (6, .int v6), (8, .int v8)] [.int t0] h (f_X10_look_77 k43 v1 v2 v3 v4 v5 v6 v8 t0 h) := by
  rw [f_X10_look_77]
  refine z_iconst (x := 0) (zat dd_X10_look 41 rfl) (by decide) ?_
  exact zb_X10_look_78 Y k43 hk43 v1 v2 v3 v4 v5 v6 v8 0 t0 h
def f_X10_look_43 (k14 : Int32 → Int32 → Int32 → Int32 → zH → zR) : Nat → Int32 → Int32 → Int32 → Int32 → Int32 → Int32 → Int32 → Int32 → zH → zR
  | 0, _, _, _, _, _, _, _, _, _ => none
  | n + 1, v1, v2, v3, v4, v5, v6, v7, v8, h =>
  if 6 ≤ v8 then
  zcI (f_X10_ones v1 h) fun x1 h2 =>
  if v7 ≤ (x1 - v7) then
  zcI (f_X10_ones v1 h2) fun x3 h4 =>
  f_X10_look_111 k14 v1 v2 v3 v4 v5 v6 (x3 - v7) h4
  else
  f_X10_look_111 k14 v1 v2 v3 v4 v5 v6 v7 h2
  else
  zcI (f_X10_has v1 v8 h) fun x5 h6 =>
  if x5 = 0 then
  f_X10_look_77 (f_X10_look_43 k14 n) v1 v2 v3 v4 v5 v6 v8 v7 h6
  else
  zcI (f_X10_goes v8 v5 v6 h6) fun x7 h8 =>
  if x7 = 0 then
  f_X10_look_77 (f_X10_look_43 k14 n) v1 v2 v3 v4 v5 v6 v8 v7 h8
  else
  f_X10_look_78 (f_X10_look_43 k14 n) v1 v2 v3 v4 v5 v6 v8 1 v7 h8
set_option maxRecDepth 100000 in
set_option maxHeartbeats 4000000 in
theorem zb_X10_look_43 (Y : zY) (k14 : Int32 → Int32 → Int32 → Int32 → zH → zR) (hk14 : ∀ (v1 : Int32) (v2 : Int32) (v3 : Int32) (v4 : Int32) (h : zH), Z Y M_X10_look 0 0 14 [(1, .int v1), (2, .int v2), (3, .int v3), (4, .int v4)] [] h (k14 v1 v2 v3 v4 h)) : ∀ (n : Nat) (v1 : Int32) (v2 : Int32) (v3 : Int32) (v4 : Int32) (v5 : Int32) (v6 : Int32) (v7 : Int32) (v8 : Int32) (h : zH), Z Y M_X10_look 0 0 43 [(1, .int v1), (2, .int v2), (3, .int v3), (4, .int v4), (5, .int v5), (6, .int v6), (7, .int v7), (8, .int v8)] [] h (f_X10_look_43 k14 n v1 v2 v3 v4 v5 v6 v7 v8 h) := by
  intro n
  induction n with
  | zero =>
    intro v1 v2 v3 v4 v5 v6 v7 v8 h
    rw [f_X10_look_43]
    exact z_none
  | succ n ih =>
    intro v1 v2 v3 v4 v5 v6 v7 v8 h
    rw [f_X10_look_43]
    refine z_iload 7 (zat dd_X10_look 26 rfl) rfl ?_
    refine z_bipush (x := 6) (zat dd_X10_look 27 rfl) (by decide) ?_
    refine z_icmp_ge (tgt := 87) (zat dd_X10_look 28 rfl) (by decide) ?_ ?_
    · refine z_iload 6 (zat dd_X10_look 46 rfl) rfl ?_
      refine z_iload_n 0 (zat dd_X10_look 47 rfl) rfl rfl ?_
      refine z_callS_I0 (M2 := M_X10_ones) [.int v1] (fun l D _ _ => m_X10_ones l D v1 h) u_X10_ones ql_X10_201 qi_X10_ones rfl rfl (Nat.le_of_ble_eq_true rfl) (by decide) rfl rfl (zat dd_X10_look 48 rfl) (fun x1 h2 => ?_)
      refine z_iload 6 (zat dd_X10_look 49 rfl) rfl ?_
      refine z_isub (zat dd_X10_look 50 rfl) ?_
      refine z_icmp_le (tgt := 104) (zat dd_X10_look 51 rfl) (by decide) ?_ ?_
      · refine z_iload_n 0 (zat dd_X10_look 54 rfl) rfl rfl ?_
        refine z_callS_I0 (M2 := M_X10_ones) [.int v1] (fun l D _ _ => m_X10_ones l D v1 h2) u_X10_ones ql_X10_201 qi_X10_ones rfl rfl (Nat.le_of_ble_eq_true rfl) (by decide) rfl rfl (zat dd_X10_look 55 rfl) (fun x3 h4 => ?_)
        refine z_iload 6 (zat dd_X10_look 56 rfl) rfl ?_
        refine z_isub (zat dd_X10_look 57 rfl) ?_
        refine z_sub [0, 1, 2, 3, 4, 5] rfl ?_
        exact zb_X10_look_111 Y k14 hk14 v1 v2 v3 v4 v5 v6 (x3 - v7) h4
      · refine z_iload 6 (zat dd_X10_look 52 rfl) rfl ?_
        refine z_goto (tgt := 111) (zat dd_X10_look 53 rfl) (by decide) ?_
        refine z_sub [0, 1, 2, 3, 4, 5] rfl ?_
        exact zb_X10_look_111 Y k14 hk14 v1 v2 v3 v4 v5 v6 v7 h2
    · refine z_iload 6 (zat dd_X10_look 29 rfl) rfl ?_
      refine z_iload_n 0 (zat dd_X10_look 30 rfl) rfl rfl ?_
      refine z_iload 7 (zat dd_X10_look 31 rfl) rfl ?_
      refine z_callS_I0 (M2 := M_X10_has) [.int v1, .int v8] (fun l D _ _ => m_X10_has l D v1 v8 h) u_X10_has ql_X10_180 qi_X10_has rfl rfl (Nat.le_of_ble_eq_true rfl) (by decide) rfl rfl (zat dd_X10_look 32 rfl) (fun x5 h6 => ?_)
      refine z_if_eq (tgt := 77) (zat dd_X10_look 33 rfl) (by decide) ?_ ?_
      · refine z_sub [0, 1, 2, 3, 4, 5, 7] rfl ?_
        exact zb_X10_look_77 Y (f_X10_look_43 k14 n) ih v1 v2 v3 v4 v5 v6 v8 v7 h6
      · refine z_iload 7 (zat dd_X10_look 34 rfl) rfl ?_
        refine z_iload 4 (zat dd_X10_look 35 rfl) rfl ?_
        refine z_iload 5 (zat dd_X10_look 36 rfl) rfl ?_
        refine z_callS_I0 (M2 := M_X10_goes) [.int v8, .int v5, .int v6] (fun l D _ _ => m_X10_goes l D v8 v5 v6 h6) u_X10_goes ql_X10_44 qi_X10_goes rfl rfl (Nat.le_of_ble_eq_true rfl) (by decide) rfl rfl (zat dd_X10_look 37 rfl) (fun x7 h8 => ?_)
        refine z_if_eq (tgt := 77) (zat dd_X10_look 38 rfl) (by decide) ?_ ?_
        · refine z_sub [0, 1, 2, 3, 4, 5, 7] rfl ?_
          exact zb_X10_look_77 Y (f_X10_look_43 k14 n) ih v1 v2 v3 v4 v5 v6 v8 v7 h8
        · refine z_iconst (x := 1) (zat dd_X10_look 39 rfl) (by decide) ?_
          refine z_goto (tgt := 78) (zat dd_X10_look 40 rfl) (by decide) ?_
          refine z_sub [0, 1, 2, 3, 4, 5, 7] rfl ?_
          exact zb_X10_look_78 Y (f_X10_look_43 k14 n) ih v1 v2 v3 v4 v5 v6 v8 1 v7 h8
def f_X10_look_14 : Nat → Int32 → Int32 → Int32 → Int32 → zH → zR
  | 0, _, _, _, _, _ => none
  | n + 1, v1, v2, v3, v4, h =>
  if 16 ≤ v4 then
  f_X10_look_169 v2 h
  else
  if v1 = 0 then
  f_X10_look_169 v2 h
  else
  zdv 4 <|
  zlt (v4 / 4) fun x1 =>
  zdv 4 <|
  zlt (v4 - v4 / 4 * 4) fun x2 =>
  f_X10_look_43 (f_X10_look_14 n) zF v1 v2 v3 v4 x1 x2 0 0 h
set_option maxRecDepth 100000 in
set_option maxHeartbeats 4000000 in
theorem zb_X10_look_14 (Y : zY) : ∀ (n : Nat) (v1 : Int32) (v2 : Int32) (v3 : Int32) (v4 : Int32) (h : zH), Z Y M_X10_look 0 0 14 [(1, .int v1), (2, .int v2), (3, .int v3), (4, .int v4)] [] h (f_X10_look_14 n v1 v2 v3 v4 h) := by
  intro n
  induction n with
  | zero =>
    intro v1 v2 v3 v4 h
    rw [f_X10_look_14]
    exact z_none
  | succ n ih =>
    intro v1 v2 v3 v4 h
    rw [f_X10_look_14]
    refine z_iload 3 (zat dd_X10_look 9 rfl) rfl ?_
    refine z_bipush (x := 16) (zat dd_X10_look 10 rfl) (by decide) ?_
    refine z_icmp_ge (tgt := 169) (zat dd_X10_look 11 rfl) (by decide) ?_ ?_
    · refine z_sub [1] rfl ?_
      exact zb_X10_look_169 Y v2 h
    · refine z_iload_n 0 (zat dd_X10_look 12 rfl) rfl rfl ?_
      refine z_if_eq (tgt := 169) (zat dd_X10_look 13 rfl) (by decide) ?_ ?_
      · refine z_sub [1] rfl ?_
        exact zb_X10_look_169 Y v2 h
      · refine z_iload 3 (zat dd_X10_look 14 rfl) rfl ?_
        refine z_iconst (x := 4) (zat dd_X10_look 15 rfl) (by decide) ?_
        refine z_idiv (zat dd_X10_look 16 rfl) ?_
        refine z_let (fun x1 => ?_)
        refine z_istore (lv' := [(5, .int x1), (1, .int v1), (2, .int v2), (3, .int v3), (4, .int v4)]) (zat dd_X10_look 17 rfl) (Nat.le_of_ble_eq_true rfl) rfl ?_
        refine z_iload 4 (zat dd_X10_look 18 rfl) rfl ?_
        refine z_iconst (x := 4) (zat dd_X10_look 19 rfl) (by decide) ?_
        refine z_irem (zat dd_X10_look 20 rfl) ?_
        refine z_let (fun x2 => ?_)
        refine z_istore (lv' := [(6, .int x2), (5, .int x1), (1, .int v1), (2, .int v2), (3, .int v3), (4, .int v4)]) (zat dd_X10_look 21 rfl) (Nat.le_of_ble_eq_true rfl) rfl ?_
        refine z_iconst (x := 0) (zat dd_X10_look 22 rfl) (by decide) ?_
        refine z_istore (lv' := [(7, .int 0), (6, .int x2), (5, .int x1), (1, .int v1), (2, .int v2), (3, .int v3), (4, .int v4)]) (zat dd_X10_look 23 rfl) (Nat.le_of_ble_eq_true rfl) rfl ?_
        refine z_iconst (x := 0) (zat dd_X10_look 24 rfl) (by decide) ?_
        refine z_istore (lv' := [(8, .int 0), (7, .int 0), (6, .int x2), (5, .int x1), (1, .int v1), (2, .int v2), (3, .int v3), (4, .int v4)]) (zat dd_X10_look 25 rfl) (Nat.le_of_ble_eq_true rfl) rfl ?_
        refine z_sub [4, 5, 6, 7, 3, 2, 1, 0] rfl ?_
        exact zb_X10_look_43 Y (f_X10_look_14 n) ih zF v1 v2 v3 v4 x1 x2 0 0 h
def f_X10_look (v0 : Nat) (h : zH) : zR :=
  zoc h v0 6 <|
  zcI (f_X10_is v0 h) fun x1 h2 =>
  f_X10_look_14 zF x1 (-101) 7 0 h2
set_option maxRecDepth 100000 in
set_option maxHeartbeats 4000000 in
theorem m_X10_look (l : Launch) (D : zD) (v0 : Nat) (h : zH) : zMet l D yX10_look M_X10_look [.ref v0] h (f_X10_look v0 h) := by
  refine zMet.of (by decide +kernel) ⟨rfl, rfl⟩ (Nat.le_of_ble_eq_true rfl) (fun Y hl hD => ?_)
  show Z Y M_X10_look 0 0 0 [(0, .ref v0)] [] h _
  rw [f_X10_look]
  refine z_aload_n 0 (zat dd_X10_look 0 rfl) rfl rfl ?_
  refine z_callV_I0 (M2 := M_X10_is) [] (fun l D _ _ => m_X10_is l D v0 h) u_X10_is ql_X10_219 qi_X10_is qs_X10_is (ci := 6) rfl rfl rfl (Nat.le_of_ble_eq_true rfl) (by decide) rfl rfl (zat dd_X10_look 1 rfl) (fun x1 h2 => ?_)
  refine z_istore_n (lv' := [(1, .int x1), (0, .ref v0)]) (zat dd_X10_look 2 rfl) rfl (Nat.le_of_ble_eq_true rfl) rfl ?_
  refine z_bipush (x := (-101)) (zat dd_X10_look 3 rfl) (by decide) ?_
  refine z_istore_n (lv' := [(2, .int (-101)), (1, .int x1), (0, .ref v0)]) (zat dd_X10_look 4 rfl) rfl (Nat.le_of_ble_eq_true rfl) rfl ?_
  refine z_bipush (x := 7) (zat dd_X10_look 5 rfl) (by decide) ?_
  refine z_istore_n (lv' := [(3, .int 7), (2, .int (-101)), (1, .int x1), (0, .ref v0)]) (zat dd_X10_look 6 rfl) rfl (Nat.le_of_ble_eq_true rfl) rfl ?_
  refine z_iconst (x := 0) (zat dd_X10_look 7 rfl) (by decide) ?_
  refine z_istore (lv' := [(4, .int 0), (3, .int 7), (2, .int (-101)), (1, .int x1), (0, .ref v0)]) (zat dd_X10_look 8 rfl) (Nat.le_of_ble_eq_true rfl) rfl ?_
  refine z_sub [3, 2, 1, 0] rfl ?_
  exact zb_X10_look_14 Y zF x1 (-101) 7 0 h2
/-! PaperDollsModel.kindSet(I)I -/
def L_X10_kindSet : List (Nat × Instr × Nat) := [(0, .iconst 0, 1), (1, .istore_n 2, 1), (2, .iconst 0, 1), (3, .istore_n 3, 1), (4, .iload_n 3, 1), (5, .bipush 6, 2), (7, .if_icmp .ge 114, 3), (10, .iconst 1, 1), (11, .istore 4, 2), (13, .iconst 0, 1), (14, .istore 5, 2), (16, .iload 5, 2), (18, .aload_n 0, 1), (19, .getfield 7, 3), (22, .bipush 63, 2), (24, .iaload, 1), (25, .if_icmp .ge 75, 3), (28, .bipush 64, 2), (30, .iconst 4, 1), (31, .iload 5, 2), (33, .imul, 1), (34, .iadd, 1), (35, .istore 6, 2), (37, .iload 4, 2), (39, .ifCond .eq 52, 3), (42, .aload_n 0, 1), (43, .getfield 7, 3), (46, .iload 6, 2), (48, .iaload, 1), (49, .iload_n 1, 1), (50, .if_icmp .ne 37, 3), (53, .iload_n 3, 1), (54, .aload_n 0, 1), (55, .getfield 7, 3), (58, .iload 6, 2), (60, .iconst 1, 1), (61, .iadd, 1), (62, .iaload, 1), (63, .aload_n 0, 1), (64, .getfield 7, 3), (67, .iload 6, 2), (69, .iconst 2, 1), (70, .iadd, 1), (71, .iaload, 1), (72, .invokestatic 52, 3), (75, .aload_n 0, 1), (76, .getfield 7, 3), (79, .iload 6, 2), (81, .iconst 3, 1), (82, .iadd, 1), (83, .iaload, 1), (84, .if_icmp .ne 7, 3), (87, .iconst 1, 1), (88, .goto 4, 3), (91, .iconst 0, 1), (92, .istore 4, 2), (94, .iinc 5 1, 3), (97, .goto (-81), 3), (100, .iload_n 2, 1), (101, .iload 4, 2), (103, .ifCond .eq 9, 3), (106, .iconst 1, 1), (107, .iload_n 3, 1), (108, .ishl, 1), (109, .goto 4, 3), (112, .iconst 0, 1), (113, .ior, 1), (114, .istore_n 2, 1), (115, .iinc 3 1, 3), (118, .goto (-114), 3), (121, .iload_n 2, 1), (122, .ireturn, 1)]
theorem dd_X10_kindSet : ∀ q ∈ L_X10_kindSet, decode cX10_kindSet q.1 = .ok q.2 := by decide +kernel
abbrev M_X10_kindSet : zM := (cX10_kindSet, RX10, "kindSet", 7, some .int, 1, 0, 0)
theorem u_X10_kindSet : zCal yX10_kindSet (M_X10_kindSet) 1 := ⟨(zmem 1135 (by decide +kernel) rfl : Cond.code yX10_kindSet cX10_kindSet 7 (some .int) ∈ zTb), zmem 63 (by decide +kernel) rfl, by decide +kernel, Nat.le_of_ble_eq_true rfl⟩
theorem qi_X10_kindSet : Cond.instanceMethod yX10_kindSet ∈ zTb := zmem 1134 (by decide +kernel) rfl
theorem qs_X10_kindSet : Cond.selects yX10_kindSet.cls yX10_kindSet yX10_kindSet ∈ zTb := zmem 50 (by decide +kernel) rfl
def f_X10_kindSet_113 (k4 : Nat → Int32 → Int32 → Int32 → zH → zR) (v0 : Nat) (v1 : Int32) (v3 : Int32) (t0 : Int32) (t1 : Int32) (h : zH) : zR :=
  zlt (t1 ||| t0) fun x1 =>
  k4 v0 v1 x1 (v3 + 1) h
set_option maxRecDepth 100000 in
set_option maxHeartbeats 4000000 in
theorem zb_X10_kindSet_113 (Y : zY) (k4 : Nat → Int32 → Int32 → Int32 → zH → zR) (hk4 : ∀ (v0 : Nat) (v1 : Int32) (v2 : Int32) (v3 : Int32) (h : zH), Z Y M_X10_kindSet 0 0 4 [(0, .ref v0), (1, .int v1), (2, .int v2), (3, .int v3)] [] h (k4 v0 v1 v2 v3 h)) (v0 : Nat) (v1 : Int32) (v3 : Int32) (t0 : Int32) (t1 : Int32) (h : zH) : Z Y M_X10_kindSet 0 0 113 [(0, .ref v0), (1, .int v1), (3, .int v3)] [.int t0, .int t1] h (f_X10_kindSet_113 k4 v0 v1 v3 t0 t1 h) := by
  rw [f_X10_kindSet_113]
  refine z_ior (zat dd_X10_kindSet 66 rfl) ?_
  refine z_let (fun x1 => ?_)
  refine z_istore_n (lv' := [(2, .int x1), (0, .ref v0), (1, .int v1), (3, .int v3)]) (zat dd_X10_kindSet 67 rfl) rfl (Nat.le_of_ble_eq_true rfl) rfl ?_
  refine z_iinc (y := v3 + 1) (lv' := [(3, .int (v3 + 1)), (2, .int x1), (0, .ref v0), (1, .int v1)]) 3 (zat dd_X10_kindSet 68 rfl) rfl rfl (Nat.le_of_ble_eq_true rfl) rfl ?_
  refine z_goto (tgt := 4) (zat dd_X10_kindSet 69 rfl) (by decide) ?_
  refine z_sub [2, 3, 1, 0] rfl ?_
  exact hk4 v0 v1 x1 (v3 + 1) h
def f_X10_kindSet_92 (k16 : Nat → Int32 → Int32 → Int32 → Int32 → Int32 → zH → zR) (v0 : Nat) (v1 : Int32) (v2 : Int32) (v3 : Int32) (v5 : Int32) (t0 : Int32) (h : zH) : zR :=
  k16 v0 v1 v2 v3 t0 (v5 + 1) h
set_option maxRecDepth 100000 in
set_option maxHeartbeats 4000000 in
theorem zb_X10_kindSet_92 (Y : zY) (k16 : Nat → Int32 → Int32 → Int32 → Int32 → Int32 → zH → zR) (hk16 : ∀ (v0 : Nat) (v1 : Int32) (v2 : Int32) (v3 : Int32) (v4 : Int32) (v5 : Int32) (h : zH), Z Y M_X10_kindSet 0 0 16 [(0, .ref v0), (1, .int v1), (2, .int v2), (3, .int v3), (4, .int v4), (5, .int v5)] [] h (k16 v0 v1 v2 v3 v4 v5 h)) (v0 : Nat) (v1 : Int32) (v2 : Int32) (v3 : Int32) (v5 : Int32) (t0 : Int32) (h : zH) : Z Y M_X10_kindSet 0 0 92 [(0, .ref v0), (1, .int v1), (2, .int v2), (3, .int v3), (5, .int v5)] [.int t0] h (f_X10_kindSet_92 k16 v0 v1 v2 v3 v5 t0 h) := by
  rw [f_X10_kindSet_92]
  refine z_istore (lv' := [(4, .int t0), (0, .ref v0), (1, .int v1), (2, .int v2), (3, .int v3), (5, .int v5)]) (zat dd_X10_kindSet 55 rfl) (Nat.le_of_ble_eq_true rfl) rfl ?_
  refine z_iinc (y := v5 + 1) (lv' := [(5, .int (v5 + 1)), (4, .int t0), (0, .ref v0), (1, .int v1), (2, .int v2), (3, .int v3)]) 5 (zat dd_X10_kindSet 56 rfl) rfl rfl (Nat.le_of_ble_eq_true rfl) rfl ?_
  refine z_goto (tgt := 16) (zat dd_X10_kindSet 57 rfl) (by decide) ?_
  refine z_sub [2, 3, 4, 5, 1, 0] rfl ?_
  exact hk16 v0 v1 v2 v3 t0 (v5 + 1) h
def f_X10_kindSet_91 (k16 : Nat → Int32 → Int32 → Int32 → Int32 → Int32 → zH → zR) (v0 : Nat) (v1 : Int32) (v2 : Int32) (v3 : Int32) (v5 : Int32) (h : zH) : zR :=
  f_X10_kindSet_92 k16 v0 v1 v2 v3 v5 0 h
set_option maxRecDepth 100000 in
set_option maxHeartbeats 4000000 in
theorem zb_X10_kindSet_91 (Y : zY) (k16 : Nat → Int32 → Int32 → Int32 → Int32 → Int32 → zH → zR) (hk16 : ∀ (v0 : Nat) (v1 : Int32) (v2 : Int32) (v3 : Int32) (v4 : Int32) (v5 : Int32) (h : zH), Z Y M_X10_kindSet 0 0 16 [(0, .ref v0), (1, .int v1), (2, .int v2), (3, .int v3), (4, .int v4), (5, .int v5)] [] h (k16 v0 v1 v2 v3 v4 v5 h)) (v0 : Nat) (v1 : Int32) (v2 : Int32) (v3 : Int32) (v5 : Int32) (h : zH) : Z Y M_X10_kindSet 0 0 91 [(0, .ref v0), (1, .int v1), (2, .int v2), (3, .int v3), (5, .int v5)] [] h (f_X10_kindSet_91 k16 v0 v1 v2 v3 v5 h) := by
  rw [f_X10_kindSet_91]
  refine z_iconst (x := 0) (zat dd_X10_kindSet 54 rfl) (by decide) ?_
  exact zb_X10_kindSet_92 Y k16 hk16 v0 v1 v2 v3 v5 0 h
def f_X10_kindSet_87 (k16 : Nat → Int32 → Int32 → Int32 → Int32 → Int32 → zH → zR) (v0 : Nat) (v1 : Int32) (v2 : Int32) (v3 : Int32) (v5 : Int32) (h : zH) : zR :=
  f_X10_kindSet_92 k16 v0 v1 v2 v3 v5 1 h
set_option maxRecDepth 100000 in
set_option maxHeartbeats 4000000 in
theorem zb_X10_kindSet_87 (Y : zY) (k16 : Nat → Int32 → Int32 → Int32 → Int32 → Int32 → zH → zR) (hk16 : ∀ (v0 : Nat) (v1 : Int32) (v2 : Int32) (v3 : Int32) (v4 : Int32) (v5 : Int32) (h : zH), Z Y M_X10_kindSet 0 0 16 [(0, .ref v0), (1, .int v1), (2, .int v2), (3, .int v3), (4, .int v4), (5, .int v5)] [] h (k16 v0 v1 v2 v3 v4 v5 h)) (v0 : Nat) (v1 : Int32) (v2 : Int32) (v3 : Int32) (v5 : Int32) (h : zH) : Z Y M_X10_kindSet 0 0 87 [(0, .ref v0), (1, .int v1), (2, .int v2), (3, .int v3), (5, .int v5)] [] h (f_X10_kindSet_87 k16 v0 v1 v2 v3 v5 h) := by
  rw [f_X10_kindSet_87]
  refine z_iconst (x := 1) (zat dd_X10_kindSet 52 rfl) (by decide) ?_
  refine z_goto (tgt := 92) (zat dd_X10_kindSet 53 rfl) (by decide) ?_
  exact zb_X10_kindSet_92 Y k16 hk16 v0 v1 v2 v3 v5 1 h
def f_X10_kindSet_16 (k4 : Nat → Int32 → Int32 → Int32 → zH → zR) : Nat → Nat → Int32 → Int32 → Int32 → Int32 → Int32 → zH → zR
  | 0, _, _, _, _, _, _, _ => none
  | n + 1, v0, v1, v2, v3, v4, v5, h =>
  zgR h v0 6 0 fun a1 =>
  zaI h a1 0 63 fun x2 =>
  if x2 ≤ v5 then
  if v4 = 0 then
  f_X10_kindSet_113 k4 v0 v1 v3 0 v2 h
  else
  f_X10_kindSet_113 k4 v0 v1 v3 (1 <<< (v3 &&& 31)) v2 h
  else
  zlt (64 + (4 * v5)) fun x3 =>
  if v4 = 0 then
  f_X10_kindSet_91 (f_X10_kindSet_16 k4 n) v0 v1 v2 v3 v5 h
  else
  zgR h v0 6 0 fun a4 =>
  zaI h a4 0 x3 fun x5 =>
  if x5 = v1 then
  zgR h v0 6 0 fun a6 =>
  zaI h a6 0 (x3 + 1) fun x7 =>
  zgR h v0 6 0 fun a8 =>
  zaI h a8 0 (x3 + 2) fun x9 =>
  zcI (f_X10_holds v3 x7 x9 h) fun x10 h11 =>
  zgR h11 v0 6 0 fun a12 =>
  zaI h11 a12 0 (x3 + 3) fun x13 =>
  if x10 = x13 then
  f_X10_kindSet_87 (f_X10_kindSet_16 k4 n) v0 v1 v2 v3 v5 h11
  else
  f_X10_kindSet_91 (f_X10_kindSet_16 k4 n) v0 v1 v2 v3 v5 h11
  else
  f_X10_kindSet_87 (f_X10_kindSet_16 k4 n) v0 v1 v2 v3 v5 h
set_option maxRecDepth 100000 in
set_option maxHeartbeats 4000000 in
theorem zb_X10_kindSet_16 (Y : zY) (k4 : Nat → Int32 → Int32 → Int32 → zH → zR) (hk4 : ∀ (v0 : Nat) (v1 : Int32) (v2 : Int32) (v3 : Int32) (h : zH), Z Y M_X10_kindSet 0 0 4 [(0, .ref v0), (1, .int v1), (2, .int v2), (3, .int v3)] [] h (k4 v0 v1 v2 v3 h)) : ∀ (n : Nat) (v0 : Nat) (v1 : Int32) (v2 : Int32) (v3 : Int32) (v4 : Int32) (v5 : Int32) (h : zH), Z Y M_X10_kindSet 0 0 16 [(0, .ref v0), (1, .int v1), (2, .int v2), (3, .int v3), (4, .int v4), (5, .int v5)] [] h (f_X10_kindSet_16 k4 n v0 v1 v2 v3 v4 v5 h) := by
  intro n
  induction n with
  | zero =>
    intro v0 v1 v2 v3 v4 v5 h
    rw [f_X10_kindSet_16]
    exact z_none
  | succ n ih =>
    intro v0 v1 v2 v3 v4 v5 h
    rw [f_X10_kindSet_16]
    refine z_iload 5 (zat dd_X10_kindSet 11 rfl) rfl ?_
    refine z_aload_n 0 (zat dd_X10_kindSet 12 rfl) rfl rfl ?_
    refine z_getR fl_X10_7 (zat dd_X10_kindSet 13 rfl) (fun a1 => ?_)
    refine z_bipush (x := 63) (zat dd_X10_kindSet 14 rfl) (by decide) ?_
    refine z_iald (zat dd_X10_kindSet 15 rfl) (fun x2 => ?_)
    refine z_icmp_ge (tgt := 100) (zat dd_X10_kindSet 16 rfl) (by decide) ?_ ?_
    · refine z_iload_n 2 (zat dd_X10_kindSet 58 rfl) rfl rfl ?_
      refine z_iload 4 (zat dd_X10_kindSet 59 rfl) rfl ?_
      refine z_if_eq (tgt := 112) (zat dd_X10_kindSet 60 rfl) (by decide) ?_ ?_
      · refine z_iconst (x := 0) (zat dd_X10_kindSet 65 rfl) (by decide) ?_
        refine z_sub [0, 1, 3] rfl ?_
        exact zb_X10_kindSet_113 Y k4 hk4 v0 v1 v3 0 v2 h
      · refine z_iconst (x := 1) (zat dd_X10_kindSet 61 rfl) (by decide) ?_
        refine z_iload_n 3 (zat dd_X10_kindSet 62 rfl) rfl rfl ?_
        refine z_ishl (zat dd_X10_kindSet 63 rfl) ?_
        refine z_goto (tgt := 113) (zat dd_X10_kindSet 64 rfl) (by decide) ?_
        refine z_sub [0, 1, 3] rfl ?_
        exact zb_X10_kindSet_113 Y k4 hk4 v0 v1 v3 (1 <<< (v3 &&& 31)) v2 h
    · refine z_bipush (x := 64) (zat dd_X10_kindSet 17 rfl) (by decide) ?_
      refine z_iconst (x := 4) (zat dd_X10_kindSet 18 rfl) (by decide) ?_
      refine z_iload 5 (zat dd_X10_kindSet 19 rfl) rfl ?_
      refine z_imul (zat dd_X10_kindSet 20 rfl) ?_
      refine z_iadd (zat dd_X10_kindSet 21 rfl) ?_
      refine z_let (fun x3 => ?_)
      refine z_istore (lv' := [(6, .int x3), (0, .ref v0), (1, .int v1), (2, .int v2), (3, .int v3), (4, .int v4), (5, .int v5)]) (zat dd_X10_kindSet 22 rfl) (Nat.le_of_ble_eq_true rfl) rfl ?_
      refine z_iload 5 (zat dd_X10_kindSet 23 rfl) rfl ?_
      refine z_if_eq (tgt := 91) (zat dd_X10_kindSet 24 rfl) (by decide) ?_ ?_
      · refine z_sub [1, 2, 3, 4, 6] rfl ?_
        exact zb_X10_kindSet_91 Y (f_X10_kindSet_16 k4 n) ih v0 v1 v2 v3 v5 h
      · refine z_aload_n 1 (zat dd_X10_kindSet 25 rfl) rfl rfl ?_
        refine z_getR fl_X10_7 (zat dd_X10_kindSet 26 rfl) (fun a4 => ?_)
        refine z_iload 0 (zat dd_X10_kindSet 27 rfl) rfl ?_
        refine z_iald (zat dd_X10_kindSet 28 rfl) (fun x5 => ?_)
        refine z_iload_n 2 (zat dd_X10_kindSet 29 rfl) rfl rfl ?_
        refine z_icmp_ne (tgt := 87) (zat dd_X10_kindSet 30 rfl) (by decide) ?_ ?_
        · refine z_sub [1, 2, 3, 4, 6] rfl ?_
          exact zb_X10_kindSet_87 Y (f_X10_kindSet_16 k4 n) ih v0 v1 v2 v3 v5 h
        · refine z_iload_n 4 (zat dd_X10_kindSet 31 rfl) rfl rfl ?_
          refine z_aload_n 1 (zat dd_X10_kindSet 32 rfl) rfl rfl ?_
          refine z_getR fl_X10_7 (zat dd_X10_kindSet 33 rfl) (fun a6 => ?_)
          refine z_iload 0 (zat dd_X10_kindSet 34 rfl) rfl ?_
          refine z_iconst (x := 1) (zat dd_X10_kindSet 35 rfl) (by decide) ?_
          refine z_iadd (zat dd_X10_kindSet 36 rfl) ?_
          refine z_iald (zat dd_X10_kindSet 37 rfl) (fun x7 => ?_)
          refine z_aload_n 1 (zat dd_X10_kindSet 38 rfl) rfl rfl ?_
          refine z_getR fl_X10_7 (zat dd_X10_kindSet 39 rfl) (fun a8 => ?_)
          refine z_iload 0 (zat dd_X10_kindSet 40 rfl) rfl ?_
          refine z_iconst (x := 2) (zat dd_X10_kindSet 41 rfl) (by decide) ?_
          refine z_iadd (zat dd_X10_kindSet 42 rfl) ?_
          refine z_iald (zat dd_X10_kindSet 43 rfl) (fun x9 => ?_)
          refine z_callS_I0 (M2 := M_X10_holds) [.int v3, .int x7, .int x9] (fun l D _ _ => m_X10_holds l D v3 x7 x9 h) u_X10_holds ql_X10_52 qi_X10_holds rfl rfl (Nat.le_of_ble_eq_true rfl) (by decide) rfl rfl (zat dd_X10_kindSet 44 rfl) (fun x10 h11 => ?_)
          refine z_aload_n 1 (zat dd_X10_kindSet 45 rfl) rfl rfl ?_
          refine z_getR fl_X10_7 (zat dd_X10_kindSet 46 rfl) (fun a12 => ?_)
          refine z_iload 0 (zat dd_X10_kindSet 47 rfl) rfl ?_
          refine z_iconst (x := 3) (zat dd_X10_kindSet 48 rfl) (by decide) ?_
          refine z_iadd (zat dd_X10_kindSet 49 rfl) ?_
          refine z_iald (zat dd_X10_kindSet 50 rfl) (fun x13 => ?_)
          refine z_icmp_ne (tgt := 91) (zat dd_X10_kindSet 51 rfl) (by decide) ?_ ?_
          · refine z_sub [1, 2, 3, 4, 6] rfl ?_
            exact zb_X10_kindSet_91 Y (f_X10_kindSet_16 k4 n) ih v0 v1 v2 v3 v5 h11
          · refine z_sub [1, 2, 3, 4, 6] rfl ?_
            exact zb_X10_kindSet_87 Y (f_X10_kindSet_16 k4 n) ih v0 v1 v2 v3 v5 h11
def f_X10_kindSet_4 : Nat → Nat → Int32 → Int32 → Int32 → zH → zR
  | 0, _, _, _, _, _ => none
  | n + 1, v0, v1, v2, v3, h =>
  if 6 ≤ v3 then
  zrI v2 h
  else
  f_X10_kindSet_16 (f_X10_kindSet_4 n) zF v0 v1 v2 v3 1 0 h
set_option maxRecDepth 100000 in
set_option maxHeartbeats 4000000 in
theorem zb_X10_kindSet_4 (Y : zY) : ∀ (n : Nat) (v0 : Nat) (v1 : Int32) (v2 : Int32) (v3 : Int32) (h : zH), Z Y M_X10_kindSet 0 0 4 [(0, .ref v0), (1, .int v1), (2, .int v2), (3, .int v3)] [] h (f_X10_kindSet_4 n v0 v1 v2 v3 h) := by
  intro n
  induction n with
  | zero =>
    intro v0 v1 v2 v3 h
    rw [f_X10_kindSet_4]
    exact z_none
  | succ n ih =>
    intro v0 v1 v2 v3 h
    rw [f_X10_kindSet_4]
    refine z_iload_n 3 (zat dd_X10_kindSet 4 rfl) rfl rfl ?_
    refine z_bipush (x := 6) (zat dd_X10_kindSet 5 rfl) (by decide) ?_
    refine z_icmp_ge (tgt := 121) (zat dd_X10_kindSet 6 rfl) (by decide) ?_ ?_
    · refine z_iload_n 2 (zat dd_X10_kindSet 70 rfl) rfl rfl ?_
      exact z_iret rfl (zat dd_X10_kindSet 71 rfl)
    · refine z_iconst (x := 1) (zat dd_X10_kindSet 7 rfl) (by decide) ?_
      refine z_istore (lv' := [(4, .int 1), (0, .ref v0), (1, .int v1), (2, .int v2), (3, .int v3)]) (zat dd_X10_kindSet 8 rfl) (Nat.le_of_ble_eq_true rfl) rfl ?_
      refine z_iconst (x := 0) (zat dd_X10_kindSet 9 rfl) (by decide) ?_
      refine z_istore (lv' := [(5, .int 0), (4, .int 1), (0, .ref v0), (1, .int v1), (2, .int v2), (3, .int v3)]) (zat dd_X10_kindSet 10 rfl) (Nat.le_of_ble_eq_true rfl) rfl ?_
      refine z_sub [2, 3, 4, 5, 1, 0] rfl ?_
      exact zb_X10_kindSet_16 Y (f_X10_kindSet_4 n) ih zF v0 v1 v2 v3 1 0 h
def f_X10_kindSet (v0 : Nat) (v1 : Int32) (h : zH) : zR :=
  f_X10_kindSet_4 zF v0 v1 0 0 h
set_option maxRecDepth 100000 in
set_option maxHeartbeats 4000000 in
theorem m_X10_kindSet (l : Launch) (D : zD) (v0 : Nat) (v1 : Int32) (h : zH) : zMet l D yX10_kindSet M_X10_kindSet [.ref v0, .int v1] h (f_X10_kindSet v0 v1 h) := by
  refine zMet.of (by decide +kernel) ⟨rfl, rfl⟩ (Nat.le_of_ble_eq_true rfl) (fun Y hl hD => ?_)
  show Z Y M_X10_kindSet 0 0 0 [(0, .ref v0), (1, .int v1)] [] h _
  rw [f_X10_kindSet]
  refine z_iconst (x := 0) (zat dd_X10_kindSet 0 rfl) (by decide) ?_
  refine z_istore_n (lv' := [(2, .int 0), (0, .ref v0), (1, .int v1)]) (zat dd_X10_kindSet 1 rfl) rfl (Nat.le_of_ble_eq_true rfl) rfl ?_
  refine z_iconst (x := 0) (zat dd_X10_kindSet 2 rfl) (by decide) ?_
  refine z_istore_n (lv' := [(3, .int 0), (2, .int 0), (0, .ref v0), (1, .int v1)]) (zat dd_X10_kindSet 3 rfl) rfl (Nat.le_of_ble_eq_true rfl) rfl ?_
  refine z_sub [2, 3, 1, 0] rfl ?_
  exact zb_X10_kindSet_4 Y zF v0 v1 0 0 h
/-! PaperDollsModel.kinds(I)I -/
def L_X10_kinds : List (Nat × Instr × Nat) := [(0, .aload_n 0, 1), (1, .iload_n 1, 1), (2, .invokevirtual 165, 3), (5, .ifCond .eq 11, 3), (8, .aload_n 0, 1), (9, .iload_n 1, 1), (10, .invokevirtual 222, 3), (13, .goto 7, 3), (16, .aload_n 0, 1), (17, .invokevirtual 85, 3), (20, .ireturn, 1)]
theorem dd_X10_kinds : ∀ q ∈ L_X10_kinds, decode cX10_kinds q.1 = .ok q.2 := by decide +kernel
abbrev M_X10_kinds : zM := (cX10_kinds, RX10, "kinds", 2, some .int, 2, 0, 0)
theorem u_X10_kinds : zCal yX10_kinds (M_X10_kinds) 1 := ⟨(zmem 1131 (by decide +kernel) rfl : Cond.code yX10_kinds cX10_kinds 2 (some .int) ∈ zTb), zmem 63 (by decide +kernel) rfl, by decide +kernel, Nat.le_of_ble_eq_true rfl⟩
theorem qi_X10_kinds : Cond.instanceMethod yX10_kinds ∈ zTb := zmem 1129 (by decide +kernel) rfl
theorem qs_X10_kinds : Cond.selects yX10_kinds.cls yX10_kinds yX10_kinds ∈ zTb := zmem 1130 (by decide +kernel) rfl
def f_X10_kinds_20 (t0 : Int32) (h : zH) : zR :=
  zrI t0 h
set_option maxRecDepth 100000 in
set_option maxHeartbeats 4000000 in
theorem zb_X10_kinds_20 (Y : zY) (t0 : Int32) (h : zH) : Z Y M_X10_kinds 0 0 20 [] [.int t0] h (f_X10_kinds_20 t0 h) := by
  rw [f_X10_kinds_20]
  exact z_iret rfl (zat dd_X10_kinds 10 rfl)
def f_X10_kinds (v0 : Nat) (v1 : Int32) (h : zH) : zR :=
  zoc h v0 6 <|
  zcI (f_X10_isPiece v0 v1 h) fun x1 h2 =>
  if x1 = 0 then
  zoc h2 v0 6 <|
  zcI (f_X10_bad v0 h2) fun x3 h4 =>
  f_X10_kinds_20 x3 h4
  else
  zoc h2 v0 6 <|
  zcI (f_X10_kindSet v0 v1 h2) fun x5 h6 =>
  f_X10_kinds_20 x5 h6
set_option maxRecDepth 100000 in
set_option maxHeartbeats 4000000 in
theorem m_X10_kinds (l : Launch) (D : zD) (v0 : Nat) (v1 : Int32) (h : zH) : zMet l D yX10_kinds M_X10_kinds [.ref v0, .int v1] h (f_X10_kinds v0 v1 h) := by
  refine zMet.of (by decide +kernel) ⟨rfl, rfl⟩ (Nat.le_of_ble_eq_true rfl) (fun Y hl hD => ?_)
  show Z Y M_X10_kinds 0 0 0 [(0, .ref v0), (1, .int v1)] [] h _
  rw [f_X10_kinds]
  refine z_aload_n 0 (zat dd_X10_kinds 0 rfl) rfl rfl ?_
  refine z_iload_n 1 (zat dd_X10_kinds 1 rfl) rfl rfl ?_
  refine z_callV_I0 (M2 := M_X10_isPiece) [.int v1] (fun l D _ _ => m_X10_isPiece l D v0 v1 h) u_X10_isPiece ql_X10_165 qi_X10_isPiece qs_X10_isPiece (ci := 6) rfl rfl rfl (Nat.le_of_ble_eq_true rfl) (by decide) rfl rfl (zat dd_X10_kinds 2 rfl) (fun x1 h2 => ?_)
  refine z_if_eq (tgt := 16) (zat dd_X10_kinds 3 rfl) (by decide) ?_ ?_
  · refine z_aload_n 0 (zat dd_X10_kinds 8 rfl) rfl rfl ?_
    refine z_callV_I0 (M2 := M_X10_bad) [] (fun l D _ _ => m_X10_bad l D v0 h2) u_X10_bad ql_X10_85 qi_X10_bad qs_X10_bad (ci := 6) rfl rfl rfl (Nat.le_of_ble_eq_true rfl) (by decide) rfl rfl (zat dd_X10_kinds 9 rfl) (fun x3 h4 => ?_)
    refine z_sub [] rfl ?_
    exact zb_X10_kinds_20 Y x3 h4
  · refine z_aload_n 0 (zat dd_X10_kinds 4 rfl) rfl rfl ?_
    refine z_iload_n 1 (zat dd_X10_kinds 5 rfl) rfl rfl ?_
    refine z_callV_I0 (M2 := M_X10_kindSet) [.int v1] (fun l D _ _ => m_X10_kindSet l D v0 v1 h2) u_X10_kindSet ql_X10_222 qi_X10_kindSet qs_X10_kindSet (ci := 6) rfl rfl rfl (Nat.le_of_ble_eq_true rfl) (by decide) rfl rfl (zat dd_X10_kinds 6 rfl) (fun x5 h6 => ?_)
    refine z_goto (tgt := 20) (zat dd_X10_kinds 7 rfl) (by decide) ?_
    refine z_sub [] rfl ?_
    exact zb_X10_kinds_20 Y x5 h6
/-! PaperDollsModel.ask(I)I -/
def L_X10_ask : List (Nat × Instr × Nat) := [(0, .aload_n 0, 1), (1, .iload_n 1, 1), (2, .invokevirtual 165, 3), (5, .ifCond .ne 8, 3), (8, .aload_n 0, 1), (9, .invokevirtual 85, 3), (12, .ireturn, 1), (13, .aload_n 0, 1), (14, .iload_n 1, 1), (15, .invokevirtual 222, 3), (18, .istore_n 2, 1), (19, .bipush (-101), 2), (21, .istore_n 3, 1), (22, .bipush 7, 2), (24, .istore 4, 2), (26, .iconst 0, 1), (27, .istore 5, 2), (29, .iload 5, 2), (31, .bipush 31, 2), (33, .if_icmp .ge 160, 3), (36, .iload_n 2, 1), (37, .ifCond .eq 156, 3), (40, .iconst 0, 1), (41, .istore 6, 2), (43, .iconst 0, 1), (44, .istore 7, 2), (46, .iload 7, 2), (48, .bipush 6, 2), (50, .if_icmp .ge 107, 3), (53, .iconst 0, 1), (54, .istore 8, 2), (56, .iconst 0, 1), (57, .istore 9, 2), (59, .iload 9, 2), (61, .bipush 6, 2), (63, .if_icmp .ge 72, 3), (66, .iload 8, 2), (68, .iload_n 2, 1), (69, .iload 7, 2), (71, .invokestatic 180, 3), (74, .ifCond .eq 51, 3), (77, .iload_n 2, 1), (78, .iload 9, 2), (80, .invokestatic 180, 3), (83, .ifCond .eq 42, 3), (86, .iload 7, 2), (88, .aload_n 0, 1), (89, .getfield 7, 3), (92, .bipush 28, 2), (94, .iload_n 1, 1), (95, .iadd, 1), (96, .iaload, 1), (97, .iload 5, 2), (99, .invokestatic 52, 3), (102, .iload 9, 2), (104, .aload_n 0, 1), (105, .getfield 7, 3), (108, .bipush 28, 2), (110, .iload_n 1, 1), (111, .iadd, 1), (112, .iaload, 1), (113, .iload 5, 2), (115, .invokestatic 52, 3), (118, .if_icmp .ne 7, 3), (121, .iconst 1, 1), (122, .goto 4, 3), (125, .iconst 0, 1), (126, .iadd, 1), (127, .istore 8, 2), (129, .iinc 9 1, 3), (132, .goto (-73), 3), (135, .iload 8, 2), (137, .iload 6, 2), (139, .if_icmp .le 8, 3), (142, .iload 8, 2), (144, .goto 5, 3), (147, .iload 6, 2), (149, .istore 6, 2), (151, .iinc 7 1, 3), (154, .goto (-108), 3), (157, .iload 6, 2), (159, .iload 4, 2), (161, .if_icmp .ge 8, 3), (164, .iload 5, 2), (166, .goto 4, 3), (169, .iload_n 3, 1), (170, .istore_n 3, 1), (171, .iload 6, 2), (173, .iload 4, 2), (175, .if_icmp .ge 8, 3), (178, .iload 6, 2), (180, .goto 5, 3), (183, .iload 4, 2), (185, .istore 4, 2), (187, .iinc 5 1, 3), (190, .goto (-161), 3), (193, .iload_n 3, 1), (194, .ireturn, 1)]
theorem dd_X10_ask : ∀ q ∈ L_X10_ask, decode cX10_ask q.1 = .ok q.2 := by decide +kernel
abbrev M_X10_ask : zM := (cX10_ask, RX10, "ask", 10, some .int, 2, 0, 0)
theorem u_X10_ask : zCal yX10_ask (M_X10_ask) 1 := ⟨(zmem 1139 (by decide +kernel) rfl : Cond.code yX10_ask cX10_ask 10 (some .int) ∈ zTb), zmem 63 (by decide +kernel) rfl, by decide +kernel, Nat.le_of_ble_eq_true rfl⟩
theorem qi_X10_ask : Cond.instanceMethod yX10_ask ∈ zTb := zmem 1137 (by decide +kernel) rfl
theorem qs_X10_ask : Cond.selects yX10_ask.cls yX10_ask yX10_ask ∈ zTb := zmem 1138 (by decide +kernel) rfl
def f_X10_ask_193 (v3 : Int32) (h : zH) : zR :=
  zrI v3 h
set_option maxRecDepth 100000 in
set_option maxHeartbeats 4000000 in
theorem zb_X10_ask_193 (Y : zY) (v3 : Int32) (h : zH) : Z Y M_X10_ask 0 0 193 [(3, .int v3)] [] h (f_X10_ask_193 v3 h) := by
  rw [f_X10_ask_193]
  refine z_iload_n 0 (zat dd_X10_ask 96 rfl) rfl rfl ?_
  exact z_iret rfl (zat dd_X10_ask 97 rfl)
def f_X10_ask_185 (k29 : Nat → Int32 → Int32 → Int32 → Int32 → Int32 → zH → zR) (v0 : Nat) (v1 : Int32) (v2 : Int32) (v3 : Int32) (v5 : Int32) (t0 : Int32) (h : zH) : zR :=
  k29 v0 v1 v2 v3 t0 (v5 + 1) h
set_option maxRecDepth 100000 in
set_option maxHeartbeats 4000000 in
theorem zb_X10_ask_185 (Y : zY) (k29 : Nat → Int32 → Int32 → Int32 → Int32 → Int32 → zH → zR) (hk29 : ∀ (v0 : Nat) (v1 : Int32) (v2 : Int32) (v3 : Int32) (v4 : Int32) (v5 : Int32) (h : zH), Z Y M_X10_ask 0 0 29 [(0, .ref v0), (1, .int v1), (2, .int v2), (3, .int v3), (4, .int v4), (5, .int v5)] [] h (k29 v0 v1 v2 v3 v4 v5 h)) (v0 : Nat) (v1 : Int32) (v2 : Int32) (v3 : Int32) (v5 : Int32) (t0 : Int32) (h : zH) : Z Y M_X10_ask 0 0 185 [(0, .ref v0), (1, .int v1), (2, .int v2), (3, .int v3), (5, .int v5)] [.int t0] h (f_X10_ask_185 k29 v0 v1 v2 v3 v5 t0 h) := by
  rw [f_X10_ask_185]
  refine z_istore (lv' := [(4, .int t0), (0, .ref v0), (1, .int v1), (2, .int v2), (3, .int v3), (5, .int v5)]) (zat dd_X10_ask 93 rfl) (Nat.le_of_ble_eq_true rfl) rfl ?_
  refine z_iinc (y := v5 + 1) (lv' := [(5, .int (v5 + 1)), (4, .int t0), (0, .ref v0), (1, .int v1), (2, .int v2), (3, .int v3)]) 5 (zat dd_X10_ask 94 rfl) rfl rfl (Nat.le_of_ble_eq_true rfl) rfl ?_
  refine z_goto (tgt := 29) (zat dd_X10_ask 95 rfl) (by decide) ?_
  refine z_sub [2, 3, 4, 5, 1, 0] rfl ?_
  exact hk29 v0 v1 v2 v3 t0 (v5 + 1) h
def f_X10_ask_170 (k29 : Nat → Int32 → Int32 → Int32 → Int32 → Int32 → zH → zR) (v0 : Nat) (v1 : Int32) (v2 : Int32) (v4 : Int32) (v5 : Int32) (v6 : Int32) (t0 : Int32) (h : zH) : zR :=
  if v4 ≤ v6 then
  f_X10_ask_185 k29 v0 v1 v2 t0 v5 v4 h
  else
  f_X10_ask_185 k29 v0 v1 v2 t0 v5 v6 h
set_option maxRecDepth 100000 in
set_option maxHeartbeats 4000000 in
theorem zb_X10_ask_170 (Y : zY) (k29 : Nat → Int32 → Int32 → Int32 → Int32 → Int32 → zH → zR) (hk29 : ∀ (v0 : Nat) (v1 : Int32) (v2 : Int32) (v3 : Int32) (v4 : Int32) (v5 : Int32) (h : zH), Z Y M_X10_ask 0 0 29 [(0, .ref v0), (1, .int v1), (2, .int v2), (3, .int v3), (4, .int v4), (5, .int v5)] [] h (k29 v0 v1 v2 v3 v4 v5 h)) (v0 : Nat) (v1 : Int32) (v2 : Int32) (v4 : Int32) (v5 : Int32) (v6 : Int32) (t0 : Int32) (h : zH) : Z Y M_X10_ask 0 0 170 [(0, .ref v0), (1, .int v1), (2, .int v2), (4, .int v4), (5, .int v5), (6, .int v6)] [.int t0] h (f_X10_ask_170 k29 v0 v1 v2 v4 v5 v6 t0 h) := by
  rw [f_X10_ask_170]
  refine z_istore_n (lv' := [(3, .int t0), (0, .ref v0), (1, .int v1), (2, .int v2), (4, .int v4), (5, .int v5), (6, .int v6)]) (zat dd_X10_ask 86 rfl) rfl (Nat.le_of_ble_eq_true rfl) rfl ?_
  refine z_iload 6 (zat dd_X10_ask 87 rfl) rfl ?_
  refine z_iload 4 (zat dd_X10_ask 88 rfl) rfl ?_
  refine z_icmp_ge (tgt := 183) (zat dd_X10_ask 89 rfl) (by decide) ?_ ?_
  · refine z_iload 4 (zat dd_X10_ask 92 rfl) rfl ?_
    refine z_sub [1, 2, 3, 0, 5] rfl ?_
    exact zb_X10_ask_185 Y k29 hk29 v0 v1 v2 t0 v5 v4 h
  · refine z_iload 6 (zat dd_X10_ask 90 rfl) rfl ?_
    refine z_goto (tgt := 185) (zat dd_X10_ask 91 rfl) (by decide) ?_
    refine z_sub [1, 2, 3, 0, 5] rfl ?_
    exact zb_X10_ask_185 Y k29 hk29 v0 v1 v2 t0 v5 v6 h
def f_X10_ask_149 (k46 : Nat → Int32 → Int32 → Int32 → Int32 → Int32 → Int32 → Int32 → zH → zR) (v0 : Nat) (v1 : Int32) (v2 : Int32) (v3 : Int32) (v4 : Int32) (v5 : Int32) (v7 : Int32) (t0 : Int32) (h : zH) : zR :=
  k46 v0 v1 v2 v3 v4 v5 t0 (v7 + 1) h
set_option maxRecDepth 100000 in
set_option maxHeartbeats 4000000 in
theorem zb_X10_ask_149 (Y : zY) (k46 : Nat → Int32 → Int32 → Int32 → Int32 → Int32 → Int32 → Int32 → zH → zR) (hk46 : ∀ (v0 : Nat) (v1 : Int32) (v2 : Int32) (v3 : Int32) (v4 : Int32) (v5 : Int32) (v6 : Int32) (v7 : Int32) (h : zH), Z Y M_X10_ask 0 0 46 [(0, .ref v0), (1, .int v1), (2, .int v2), (3, .int v3), (4, .int v4), (5, .int v5), (6, .int v6), (7, .int v7)] [] h (k46 v0 v1 v2 v3 v4 v5 v6 v7 h)) (v0 : Nat) (v1 : Int32) (v2 : Int32) (v3 : Int32) (v4 : Int32) (v5 : Int32) (v7 : Int32) (t0 : Int32) (h : zH) : Z Y M_X10_ask 0 0 149 [(0, .ref v0), (1, .int v1), (2, .int v2), (3, .int v3), (4, .int v4), (5, .int v5), (7, .int v7)] [.int t0] h (f_X10_ask_149 k46 v0 v1 v2 v3 v4 v5 v7 t0 h) := by
  rw [f_X10_ask_149]
  refine z_istore (lv' := [(6, .int t0), (0, .ref v0), (1, .int v1), (2, .int v2), (3, .int v3), (4, .int v4), (5, .int v5), (7, .int v7)]) (zat dd_X10_ask 77 rfl) (Nat.le_of_ble_eq_true rfl) rfl ?_
  refine z_iinc (y := v7 + 1) (lv' := [(7, .int (v7 + 1)), (6, .int t0), (0, .ref v0), (1, .int v1), (2, .int v2), (3, .int v3), (4, .int v4), (5, .int v5)]) 7 (zat dd_X10_ask 78 rfl) rfl rfl (Nat.le_of_ble_eq_true rfl) rfl ?_
  refine z_goto (tgt := 46) (zat dd_X10_ask 79 rfl) (by decide) ?_
  refine z_sub [2, 3, 4, 5, 6, 7, 1, 0] rfl ?_
  exact hk46 v0 v1 v2 v3 v4 v5 t0 (v7 + 1) h
def f_X10_ask_126 (k59 : Nat → Int32 → Int32 → Int32 → Int32 → Int32 → Int32 → Int32 → Int32 → Int32 → zH → zR) (v0 : Nat) (v1 : Int32) (v2 : Int32) (v3 : Int32) (v4 : Int32) (v5 : Int32) (v6 : Int32) (v7 : Int32) (v9 : Int32) (t0 : Int32) (t1 : Int32) (h : zH) : zR :=
  zlt (t1 + t0) fun x1 =>
  k59 v0 v1 v2 v3 v4 v5 v6 v7 x1 (v9 + 1) h
set_option maxRecDepth 100000 in
set_option maxHeartbeats 4000000 in
theorem zb_X10_ask_126 (Y : zY) (k59 : Nat → Int32 → Int32 → Int32 → Int32 → Int32 → Int32 → Int32 → Int32 → Int32 → zH → zR) (hk59 : ∀ (v0 : Nat) (v1 : Int32) (v2 : Int32) (v3 : Int32) (v4 : Int32) (v5 : Int32) (v6 : Int32) (v7 : Int32) (v8 : Int32) (v9 : Int32) (h : zH), Z Y M_X10_ask 0 0 59 [(0, .ref v0), (1, .int v1), (2, .int v2), (3, .int v3), (4, .int v4), (5, .int v5), (6, .int v6), (7, .int v7), (8, .int v8), (9, .int v9)] [] h (k59 v0 v1 v2 v3 v4 v5 v6 v7 v8 v9 h)) (v0 : Nat) (v1 : Int32) (v2 : Int32) (v3 : Int32) (v4 : Int32) (v5 : Int32) (v6 : Int32) (v7 : Int32) (v9 : Int32) (t0 : Int32) (t1 : Int32) (h : zH) : Z Y M_X10_ask 0 0 126 [(0, .ref v0), (1, .int v1), (2, .int v2), (3, .int v3), (4, .int v4), (5, .int v5), (6, .int v6), (7, .int v7), (9, .int v9)] [.int t0, .int t1] h (f_X10_ask_126 k59 v0 v1 v2 v3 v4 v5 v6 v7 v9 t0 t1 h) := by
  rw [f_X10_ask_126]
  refine z_iadd (zat dd_X10_ask 67 rfl) ?_
  refine z_let (fun x1 => ?_)
  refine z_istore (lv' := [(8, .int x1), (0, .ref v0), (1, .int v1), (2, .int v2), (3, .int v3), (4, .int v4), (5, .int v5), (6, .int v6), (7, .int v7), (9, .int v9)]) (zat dd_X10_ask 68 rfl) (Nat.le_of_ble_eq_true rfl) rfl ?_
  refine z_iinc (y := v9 + 1) (lv' := [(9, .int (v9 + 1)), (8, .int x1), (0, .ref v0), (1, .int v1), (2, .int v2), (3, .int v3), (4, .int v4), (5, .int v5), (6, .int v6), (7, .int v7)]) 9 (zat dd_X10_ask 69 rfl) rfl rfl (Nat.le_of_ble_eq_true rfl) rfl ?_
  refine z_goto (tgt := 59) (zat dd_X10_ask 70 rfl) (by decide) ?_
  refine z_sub [2, 3, 4, 5, 6, 7, 8, 9, 1, 0] rfl ?_
  exact hk59 v0 v1 v2 v3 v4 v5 v6 v7 x1 (v9 + 1) h
def f_X10_ask_125 (k59 : Nat → Int32 → Int32 → Int32 → Int32 → Int32 → Int32 → Int32 → Int32 → Int32 → zH → zR) (v0 : Nat) (v1 : Int32) (v2 : Int32) (v3 : Int32) (v4 : Int32) (v5 : Int32) (v6 : Int32) (v7 : Int32) (v9 : Int32) (t0 : Int32) (h : zH) : zR :=
  f_X10_ask_126 k59 v0 v1 v2 v3 v4 v5 v6 v7 v9 0 t0 h
set_option maxRecDepth 100000 in
set_option maxHeartbeats 4000000 in
theorem zb_X10_ask_125 (Y : zY) (k59 : Nat → Int32 → Int32 → Int32 → Int32 → Int32 → Int32 → Int32 → Int32 → Int32 → zH → zR) (hk59 : ∀ (v0 : Nat) (v1 : Int32) (v2 : Int32) (v3 : Int32) (v4 : Int32) (v5 : Int32) (v6 : Int32) (v7 : Int32) (v8 : Int32) (v9 : Int32) (h : zH), Z Y M_X10_ask 0 0 59 [(0, .ref v0), (1, .int v1), (2, .int v2), (3, .int v3), (4, .int v4), (5, .int v5), (6, .int v6), (7, .int v7), (8, .int v8), (9, .int v9)] [] h (k59 v0 v1 v2 v3 v4 v5 v6 v7 v8 v9 h)) (v0 : Nat) (v1 : Int32) (v2 : Int32) (v3 : Int32) (v4 : Int32) (v5 : Int32) (v6 : Int32) (v7 : Int32) (v9 : Int32) (t0 : Int32) (h : zH) : Z Y M_X10_ask 0 0 125 [(0, .ref v0), (1, .int v1), (2, .int v2), (3, .int v3), (4, .int v4), (5, .int v5), (6, .int v6), (7, .int v7), (9, .int v9)] [.int t0] h (f_X10_ask_125 k59 v0 v1 v2 v3 v4 v5 v6 v7 v9 t0 h) := by
  rw [f_X10_ask_125]
  refine z_iconst (x := 0) (zat dd_X10_ask 66 rfl) (by decide) ?_
  exact zb_X10_ask_126 Y k59 hk59 v0 v1 v2 v3 v4 v5 v6 v7 v9 0 t0 h
def f_X10_ask_59 (k46 : Nat → Int32 → Int32 → Int32 → Int32 → Int32 → Int32 → Int32 → zH → zR) : Nat → Nat → Int32 → Int32 → Int32 → Int32 → Int32 → Int32 → Int32 → Int32 → Int32 → zH → zR
  | 0, _, _, _, _, _, _, _, _, _, _, _ => none
  | n + 1, v0, v1, v2, v3, v4, v5, v6, v7, v8, v9, h =>
  if 6 ≤ v9 then
  if v8 ≤ v6 then
  f_X10_ask_149 k46 v0 v1 v2 v3 v4 v5 v7 v6 h
  else
  f_X10_ask_149 k46 v0 v1 v2 v3 v4 v5 v7 v8 h
  else
  zcI (f_X10_has v2 v7 h) fun x1 h2 =>
  if x1 = 0 then
  f_X10_ask_125 (f_X10_ask_59 k46 n) v0 v1 v2 v3 v4 v5 v6 v7 v9 v8 h2
  else
  zcI (f_X10_has v2 v9 h2) fun x3 h4 =>
  if x3 = 0 then
  f_X10_ask_125 (f_X10_ask_59 k46 n) v0 v1 v2 v3 v4 v5 v6 v7 v9 v8 h4
  else
  zgR h4 v0 6 0 fun a5 =>
  zaI h4 a5 0 (28 + v1) fun x6 =>
  zcI (f_X10_holds v7 x6 v5 h4) fun x7 h8 =>
  zgR h8 v0 6 0 fun a9 =>
  zaI h8 a9 0 (28 + v1) fun x10 =>
  zcI (f_X10_holds v9 x10 v5 h8) fun x11 h12 =>
  if x7 = x11 then
  f_X10_ask_126 (f_X10_ask_59 k46 n) v0 v1 v2 v3 v4 v5 v6 v7 v9 1 v8 h12
  else
  f_X10_ask_125 (f_X10_ask_59 k46 n) v0 v1 v2 v3 v4 v5 v6 v7 v9 v8 h12
set_option maxRecDepth 100000 in
set_option maxHeartbeats 4000000 in
theorem zb_X10_ask_59 (Y : zY) (k46 : Nat → Int32 → Int32 → Int32 → Int32 → Int32 → Int32 → Int32 → zH → zR) (hk46 : ∀ (v0 : Nat) (v1 : Int32) (v2 : Int32) (v3 : Int32) (v4 : Int32) (v5 : Int32) (v6 : Int32) (v7 : Int32) (h : zH), Z Y M_X10_ask 0 0 46 [(0, .ref v0), (1, .int v1), (2, .int v2), (3, .int v3), (4, .int v4), (5, .int v5), (6, .int v6), (7, .int v7)] [] h (k46 v0 v1 v2 v3 v4 v5 v6 v7 h)) : ∀ (n : Nat) (v0 : Nat) (v1 : Int32) (v2 : Int32) (v3 : Int32) (v4 : Int32) (v5 : Int32) (v6 : Int32) (v7 : Int32) (v8 : Int32) (v9 : Int32) (h : zH), Z Y M_X10_ask 0 0 59 [(0, .ref v0), (1, .int v1), (2, .int v2), (3, .int v3), (4, .int v4), (5, .int v5), (6, .int v6), (7, .int v7), (8, .int v8), (9, .int v9)] [] h (f_X10_ask_59 k46 n v0 v1 v2 v3 v4 v5 v6 v7 v8 v9 h) := by
  intro n
  induction n with
  | zero =>
    intro v0 v1 v2 v3 v4 v5 v6 v7 v8 v9 h
    rw [f_X10_ask_59]
    exact z_none
  | succ n ih =>
    intro v0 v1 v2 v3 v4 v5 v6 v7 v8 v9 h
    rw [f_X10_ask_59]
    refine z_iload 9 (zat dd_X10_ask 33 rfl) rfl ?_
    refine z_bipush (x := 6) (zat dd_X10_ask 34 rfl) (by decide) ?_
    refine z_icmp_ge (tgt := 135) (zat dd_X10_ask 35 rfl) (by decide) ?_ ?_
    · refine z_iload 8 (zat dd_X10_ask 71 rfl) rfl ?_
      refine z_iload 6 (zat dd_X10_ask 72 rfl) rfl ?_
      refine z_icmp_le (tgt := 147) (zat dd_X10_ask 73 rfl) (by decide) ?_ ?_
      · refine z_iload 6 (zat dd_X10_ask 76 rfl) rfl ?_
        refine z_sub [0, 1, 2, 3, 4, 5, 7] rfl ?_
        exact zb_X10_ask_149 Y k46 hk46 v0 v1 v2 v3 v4 v5 v7 v6 h
      · refine z_iload 8 (zat dd_X10_ask 74 rfl) rfl ?_
        refine z_goto (tgt := 149) (zat dd_X10_ask 75 rfl) (by decide) ?_
        refine z_sub [0, 1, 2, 3, 4, 5, 7] rfl ?_
        exact zb_X10_ask_149 Y k46 hk46 v0 v1 v2 v3 v4 v5 v7 v8 h
    · refine z_iload 8 (zat dd_X10_ask 36 rfl) rfl ?_
      refine z_iload_n 2 (zat dd_X10_ask 37 rfl) rfl rfl ?_
      refine z_iload 7 (zat dd_X10_ask 38 rfl) rfl ?_
      refine z_callS_I0 (M2 := M_X10_has) [.int v2, .int v7] (fun l D _ _ => m_X10_has l D v2 v7 h) u_X10_has ql_X10_180 qi_X10_has rfl rfl (Nat.le_of_ble_eq_true rfl) (by decide) rfl rfl (zat dd_X10_ask 39 rfl) (fun x1 h2 => ?_)
      refine z_if_eq (tgt := 125) (zat dd_X10_ask 40 rfl) (by decide) ?_ ?_
      · refine z_sub [0, 1, 2, 3, 4, 5, 6, 7, 9] rfl ?_
        exact zb_X10_ask_125 Y (f_X10_ask_59 k46 n) ih v0 v1 v2 v3 v4 v5 v6 v7 v9 v8 h2
      · refine z_iload_n 2 (zat dd_X10_ask 41 rfl) rfl rfl ?_
        refine z_iload 9 (zat dd_X10_ask 42 rfl) rfl ?_
        refine z_callS_I0 (M2 := M_X10_has) [.int v2, .int v9] (fun l D _ _ => m_X10_has l D v2 v9 h2) u_X10_has ql_X10_180 qi_X10_has rfl rfl (Nat.le_of_ble_eq_true rfl) (by decide) rfl rfl (zat dd_X10_ask 43 rfl) (fun x3 h4 => ?_)
        refine z_if_eq (tgt := 125) (zat dd_X10_ask 44 rfl) (by decide) ?_ ?_
        · refine z_sub [0, 1, 2, 3, 4, 5, 6, 7, 9] rfl ?_
          exact zb_X10_ask_125 Y (f_X10_ask_59 k46 n) ih v0 v1 v2 v3 v4 v5 v6 v7 v9 v8 h4
        · refine z_iload 7 (zat dd_X10_ask 45 rfl) rfl ?_
          refine z_aload_n 0 (zat dd_X10_ask 46 rfl) rfl rfl ?_
          refine z_getR fl_X10_7 (zat dd_X10_ask 47 rfl) (fun a5 => ?_)
          refine z_bipush (x := 28) (zat dd_X10_ask 48 rfl) (by decide) ?_
          refine z_iload_n 1 (zat dd_X10_ask 49 rfl) rfl rfl ?_
          refine z_iadd (zat dd_X10_ask 50 rfl) ?_
          refine z_iald (zat dd_X10_ask 51 rfl) (fun x6 => ?_)
          refine z_iload 5 (zat dd_X10_ask 52 rfl) rfl ?_
          refine z_callS_I0 (M2 := M_X10_holds) [.int v7, .int x6, .int v5] (fun l D _ _ => m_X10_holds l D v7 x6 v5 h4) u_X10_holds ql_X10_52 qi_X10_holds rfl rfl (Nat.le_of_ble_eq_true rfl) (by decide) rfl rfl (zat dd_X10_ask 53 rfl) (fun x7 h8 => ?_)
          refine z_iload 9 (zat dd_X10_ask 54 rfl) rfl ?_
          refine z_aload_n 0 (zat dd_X10_ask 55 rfl) rfl rfl ?_
          refine z_getR fl_X10_7 (zat dd_X10_ask 56 rfl) (fun a9 => ?_)
          refine z_bipush (x := 28) (zat dd_X10_ask 57 rfl) (by decide) ?_
          refine z_iload_n 1 (zat dd_X10_ask 58 rfl) rfl rfl ?_
          refine z_iadd (zat dd_X10_ask 59 rfl) ?_
          refine z_iald (zat dd_X10_ask 60 rfl) (fun x10 => ?_)
          refine z_iload 5 (zat dd_X10_ask 61 rfl) rfl ?_
          refine z_callS_I0 (M2 := M_X10_holds) [.int v9, .int x10, .int v5] (fun l D _ _ => m_X10_holds l D v9 x10 v5 h8) u_X10_holds ql_X10_52 qi_X10_holds rfl rfl (Nat.le_of_ble_eq_true rfl) (by decide) rfl rfl (zat dd_X10_ask 62 rfl) (fun x11 h12 => ?_)
          refine z_icmp_ne (tgt := 125) (zat dd_X10_ask 63 rfl) (by decide) ?_ ?_
          · refine z_sub [0, 1, 2, 3, 4, 5, 6, 7, 9] rfl ?_
            exact zb_X10_ask_125 Y (f_X10_ask_59 k46 n) ih v0 v1 v2 v3 v4 v5 v6 v7 v9 v8 h12
          · refine z_iconst (x := 1) (zat dd_X10_ask 64 rfl) (by decide) ?_
            refine z_goto (tgt := 126) (zat dd_X10_ask 65 rfl) (by decide) ?_
            refine z_sub [0, 1, 2, 3, 4, 5, 6, 7, 9] rfl ?_
            exact zb_X10_ask_126 Y (f_X10_ask_59 k46 n) ih v0 v1 v2 v3 v4 v5 v6 v7 v9 1 v8 h12
def f_X10_ask_46 (k29 : Nat → Int32 → Int32 → Int32 → Int32 → Int32 → zH → zR) : Nat → Nat → Int32 → Int32 → Int32 → Int32 → Int32 → Int32 → Int32 → zH → zR
  | 0, _, _, _, _, _, _, _, _, _ => none
  | n + 1, v0, v1, v2, v3, v4, v5, v6, v7, h =>
  if 6 ≤ v7 then
  if v4 ≤ v6 then
  f_X10_ask_170 k29 v0 v1 v2 v4 v5 v6 v3 h
  else
  f_X10_ask_170 k29 v0 v1 v2 v4 v5 v6 v5 h
  else
  f_X10_ask_59 (f_X10_ask_46 k29 n) zF v0 v1 v2 v3 v4 v5 v6 v7 0 0 h
set_option maxRecDepth 100000 in
set_option maxHeartbeats 4000000 in
theorem zb_X10_ask_46 (Y : zY) (k29 : Nat → Int32 → Int32 → Int32 → Int32 → Int32 → zH → zR) (hk29 : ∀ (v0 : Nat) (v1 : Int32) (v2 : Int32) (v3 : Int32) (v4 : Int32) (v5 : Int32) (h : zH), Z Y M_X10_ask 0 0 29 [(0, .ref v0), (1, .int v1), (2, .int v2), (3, .int v3), (4, .int v4), (5, .int v5)] [] h (k29 v0 v1 v2 v3 v4 v5 h)) : ∀ (n : Nat) (v0 : Nat) (v1 : Int32) (v2 : Int32) (v3 : Int32) (v4 : Int32) (v5 : Int32) (v6 : Int32) (v7 : Int32) (h : zH), Z Y M_X10_ask 0 0 46 [(0, .ref v0), (1, .int v1), (2, .int v2), (3, .int v3), (4, .int v4), (5, .int v5), (6, .int v6), (7, .int v7)] [] h (f_X10_ask_46 k29 n v0 v1 v2 v3 v4 v5 v6 v7 h) := by
  intro n
  induction n with
  | zero =>
    intro v0 v1 v2 v3 v4 v5 v6 v7 h
    rw [f_X10_ask_46]
    exact z_none
  | succ n ih =>
    intro v0 v1 v2 v3 v4 v5 v6 v7 h
    rw [f_X10_ask_46]
    refine z_iload 7 (zat dd_X10_ask 26 rfl) rfl ?_
    refine z_bipush (x := 6) (zat dd_X10_ask 27 rfl) (by decide) ?_
    refine z_icmp_ge (tgt := 157) (zat dd_X10_ask 28 rfl) (by decide) ?_ ?_
    · refine z_iload 6 (zat dd_X10_ask 80 rfl) rfl ?_
      refine z_iload 4 (zat dd_X10_ask 81 rfl) rfl ?_
      refine z_icmp_ge (tgt := 169) (zat dd_X10_ask 82 rfl) (by decide) ?_ ?_
      · refine z_iload_n 3 (zat dd_X10_ask 85 rfl) rfl rfl ?_
        refine z_sub [0, 1, 2, 4, 5, 6] rfl ?_
        exact zb_X10_ask_170 Y k29 hk29 v0 v1 v2 v4 v5 v6 v3 h
      · refine z_iload 5 (zat dd_X10_ask 83 rfl) rfl ?_
        refine z_goto (tgt := 170) (zat dd_X10_ask 84 rfl) (by decide) ?_
        refine z_sub [0, 1, 2, 4, 5, 6] rfl ?_
        exact zb_X10_ask_170 Y k29 hk29 v0 v1 v2 v4 v5 v6 v5 h
    · refine z_iconst (x := 0) (zat dd_X10_ask 29 rfl) (by decide) ?_
      refine z_istore (lv' := [(8, .int 0), (0, .ref v0), (1, .int v1), (2, .int v2), (3, .int v3), (4, .int v4), (5, .int v5), (6, .int v6), (7, .int v7)]) (zat dd_X10_ask 30 rfl) (Nat.le_of_ble_eq_true rfl) rfl ?_
      refine z_iconst (x := 0) (zat dd_X10_ask 31 rfl) (by decide) ?_
      refine z_istore (lv' := [(9, .int 0), (8, .int 0), (0, .ref v0), (1, .int v1), (2, .int v2), (3, .int v3), (4, .int v4), (5, .int v5), (6, .int v6), (7, .int v7)]) (zat dd_X10_ask 32 rfl) (Nat.le_of_ble_eq_true rfl) rfl ?_
      refine z_sub [2, 3, 4, 5, 6, 7, 8, 9, 1, 0] rfl ?_
      exact zb_X10_ask_59 Y (f_X10_ask_46 k29 n) ih zF v0 v1 v2 v3 v4 v5 v6 v7 0 0 h
def f_X10_ask_29 : Nat → Nat → Int32 → Int32 → Int32 → Int32 → Int32 → zH → zR
  | 0, _, _, _, _, _, _, _ => none
  | n + 1, v0, v1, v2, v3, v4, v5, h =>
  if 31 ≤ v5 then
  f_X10_ask_193 v3 h
  else
  if v2 = 0 then
  f_X10_ask_193 v3 h
  else
  f_X10_ask_46 (f_X10_ask_29 n) zF v0 v1 v2 v3 v4 v5 0 0 h
set_option maxRecDepth 100000 in
set_option maxHeartbeats 4000000 in
theorem zb_X10_ask_29 (Y : zY) : ∀ (n : Nat) (v0 : Nat) (v1 : Int32) (v2 : Int32) (v3 : Int32) (v4 : Int32) (v5 : Int32) (h : zH), Z Y M_X10_ask 0 0 29 [(0, .ref v0), (1, .int v1), (2, .int v2), (3, .int v3), (4, .int v4), (5, .int v5)] [] h (f_X10_ask_29 n v0 v1 v2 v3 v4 v5 h) := by
  intro n
  induction n with
  | zero =>
    intro v0 v1 v2 v3 v4 v5 h
    rw [f_X10_ask_29]
    exact z_none
  | succ n ih =>
    intro v0 v1 v2 v3 v4 v5 h
    rw [f_X10_ask_29]
    refine z_iload 5 (zat dd_X10_ask 17 rfl) rfl ?_
    refine z_bipush (x := 31) (zat dd_X10_ask 18 rfl) (by decide) ?_
    refine z_icmp_ge (tgt := 193) (zat dd_X10_ask 19 rfl) (by decide) ?_ ?_
    · refine z_sub [3] rfl ?_
      exact zb_X10_ask_193 Y v3 h
    · refine z_iload_n 2 (zat dd_X10_ask 20 rfl) rfl rfl ?_
      refine z_if_eq (tgt := 193) (zat dd_X10_ask 21 rfl) (by decide) ?_ ?_
      · refine z_sub [3] rfl ?_
        exact zb_X10_ask_193 Y v3 h
      · refine z_iconst (x := 0) (zat dd_X10_ask 22 rfl) (by decide) ?_
        refine z_istore (lv' := [(6, .int 0), (0, .ref v0), (1, .int v1), (2, .int v2), (3, .int v3), (4, .int v4), (5, .int v5)]) (zat dd_X10_ask 23 rfl) (Nat.le_of_ble_eq_true rfl) rfl ?_
        refine z_iconst (x := 0) (zat dd_X10_ask 24 rfl) (by decide) ?_
        refine z_istore (lv' := [(7, .int 0), (6, .int 0), (0, .ref v0), (1, .int v1), (2, .int v2), (3, .int v3), (4, .int v4), (5, .int v5)]) (zat dd_X10_ask 25 rfl) (Nat.le_of_ble_eq_true rfl) rfl ?_
        refine z_sub [2, 3, 4, 5, 6, 7, 1, 0] rfl ?_
        exact zb_X10_ask_46 Y (f_X10_ask_29 n) ih zF v0 v1 v2 v3 v4 v5 0 0 h
def f_X10_ask (v0 : Nat) (v1 : Int32) (h : zH) : zR :=
  zoc h v0 6 <|
  zcI (f_X10_isPiece v0 v1 h) fun x1 h2 =>
  if x1 = 0 then
  zoc h2 v0 6 <|
  zcI (f_X10_bad v0 h2) fun x5 h6 =>
  zrI x5 h6
  else
  zoc h2 v0 6 <|
  zcI (f_X10_kindSet v0 v1 h2) fun x3 h4 =>
  f_X10_ask_29 zF v0 v1 x3 (-101) 7 0 h4
set_option maxRecDepth 100000 in
set_option maxHeartbeats 4000000 in
theorem m_X10_ask (l : Launch) (D : zD) (v0 : Nat) (v1 : Int32) (h : zH) : zMet l D yX10_ask M_X10_ask [.ref v0, .int v1] h (f_X10_ask v0 v1 h) := by
  refine zMet.of (by decide +kernel) ⟨rfl, rfl⟩ (Nat.le_of_ble_eq_true rfl) (fun Y hl hD => ?_)
  show Z Y M_X10_ask 0 0 0 [(0, .ref v0), (1, .int v1)] [] h _
  rw [f_X10_ask]
  refine z_aload_n 0 (zat dd_X10_ask 0 rfl) rfl rfl ?_
  refine z_iload_n 1 (zat dd_X10_ask 1 rfl) rfl rfl ?_
  refine z_callV_I0 (M2 := M_X10_isPiece) [.int v1] (fun l D _ _ => m_X10_isPiece l D v0 v1 h) u_X10_isPiece ql_X10_165 qi_X10_isPiece qs_X10_isPiece (ci := 6) rfl rfl rfl (Nat.le_of_ble_eq_true rfl) (by decide) rfl rfl (zat dd_X10_ask 2 rfl) (fun x1 h2 => ?_)
  refine z_if_ne (tgt := 13) (zat dd_X10_ask 3 rfl) (by decide) ?_ ?_
  · refine z_aload_n 0 (zat dd_X10_ask 7 rfl) rfl rfl ?_
    refine z_iload_n 1 (zat dd_X10_ask 8 rfl) rfl rfl ?_
    refine z_callV_I0 (M2 := M_X10_kindSet) [.int v1] (fun l D _ _ => m_X10_kindSet l D v0 v1 h2) u_X10_kindSet ql_X10_222 qi_X10_kindSet qs_X10_kindSet (ci := 6) rfl rfl rfl (Nat.le_of_ble_eq_true rfl) (by decide) rfl rfl (zat dd_X10_ask 9 rfl) (fun x3 h4 => ?_)
    refine z_istore_n (lv' := [(2, .int x3), (0, .ref v0), (1, .int v1)]) (zat dd_X10_ask 10 rfl) rfl (Nat.le_of_ble_eq_true rfl) rfl ?_
    refine z_bipush (x := (-101)) (zat dd_X10_ask 11 rfl) (by decide) ?_
    refine z_istore_n (lv' := [(3, .int (-101)), (2, .int x3), (0, .ref v0), (1, .int v1)]) (zat dd_X10_ask 12 rfl) rfl (Nat.le_of_ble_eq_true rfl) rfl ?_
    refine z_bipush (x := 7) (zat dd_X10_ask 13 rfl) (by decide) ?_
    refine z_istore (lv' := [(4, .int 7), (3, .int (-101)), (2, .int x3), (0, .ref v0), (1, .int v1)]) (zat dd_X10_ask 14 rfl) (Nat.le_of_ble_eq_true rfl) rfl ?_
    refine z_iconst (x := 0) (zat dd_X10_ask 15 rfl) (by decide) ?_
    refine z_istore (lv' := [(5, .int 0), (4, .int 7), (3, .int (-101)), (2, .int x3), (0, .ref v0), (1, .int v1)]) (zat dd_X10_ask 16 rfl) (Nat.le_of_ble_eq_true rfl) rfl ?_
    refine z_sub [4, 5, 3, 2, 1, 0] rfl ?_
    exact zb_X10_ask_29 Y zF v0 v1 x3 (-101) 7 0 h4
  · refine z_aload_n 0 (zat dd_X10_ask 4 rfl) rfl rfl ?_
    refine z_callV_I0 (M2 := M_X10_bad) [] (fun l D _ _ => m_X10_bad l D v0 h2) u_X10_bad ql_X10_85 qi_X10_bad qs_X10_bad (ci := 6) rfl rfl rfl (Nat.le_of_ble_eq_true rfl) (by decide) rfl rfl (zat dd_X10_ask 5 rfl) (fun x5 h6 => ?_)
    exact z_iret rfl (zat dd_X10_ask 6 rfl)
/-! PaperDollsModel.getsOf(III)I -/
def L_X10_getsOf : List (Nat × Instr × Nat) := [(0, .iload_n 2, 1), (1, .iload_n 3, 1), (2, .if_icmp .ne 6, 3), (5, .bipush (-2), 2), (7, .ireturn, 1), (8, .iload_n 1, 1), (9, .iload_n 2, 1), (10, .invokestatic 180, 3), (13, .ifCond .ne 5, 3), (16, .iconst 0, 1), (17, .ireturn, 1), (18, .iload_n 1, 1), (19, .iload_n 3, 1), (20, .invokestatic 180, 3), (23, .ifCond .eq 14, 3), (26, .aload_n 0, 1), (27, .iload_n 2, 1), (28, .iload_n 3, 1), (29, .invokevirtual 186, 3), (32, .ifCond .ne 5, 3), (35, .iconst (-1), 1), (36, .ireturn, 1), (37, .aload_n 0, 1), (38, .getfield 7, 3), (41, .bipush 12, 2), (43, .iload_n 2, 1), (44, .iadd, 1), (45, .iaload, 1), (46, .invokestatic 63, 3), (49, .istore 4, 2), (51, .iload 4, 2), (53, .invokestatic 201, 3), (56, .iload 4, 2), (58, .aload_n 0, 1), (59, .getfield 7, 3), (62, .bipush 12, 2), (64, .iload_n 3, 1), (65, .iadd, 1), (66, .iaload, 1), (67, .invokestatic 63, 3), (70, .iconst (-1), 1), (71, .ixor, 1), (72, .iand, 1), (73, .invokestatic 201, 3), (76, .iadd, 1), (77, .ireturn, 1)]
theorem dd_X10_getsOf : ∀ q ∈ L_X10_getsOf, decode cX10_getsOf q.1 = .ok q.2 := by decide +kernel
abbrev M_X10_getsOf : zM := (cX10_getsOf, RX10, "getsOf", 5, some .int, 2, 0, 0)
theorem u_X10_getsOf : zCal yX10_getsOf (M_X10_getsOf) 3 := ⟨(zmem 1151 (by decide +kernel) rfl : Cond.code yX10_getsOf cX10_getsOf 5 (some .int) ∈ zTb), zmem 63 (by decide +kernel) rfl, by decide +kernel, Nat.le_of_ble_eq_true rfl⟩
theorem qi_X10_getsOf : Cond.instanceMethod yX10_getsOf ∈ zTb := zmem 1150 (by decide +kernel) rfl
theorem qs_X10_getsOf : Cond.selects yX10_getsOf.cls yX10_getsOf yX10_getsOf ∈ zTb := zmem 52 (by decide +kernel) rfl
def f_X10_getsOf_37 (v0 : Nat) (v2 : Int32) (v3 : Int32) (h : zH) : zR :=
  zgR h v0 6 0 fun a1 =>
  zaI h a1 0 (12 + v2) fun x2 =>
  zcI (f_X10_covers x2 h) fun x3 h4 =>
  zcI (f_X10_ones x3 h4) fun x5 h6 =>
  zgR h6 v0 6 0 fun a7 =>
  zaI h6 a7 0 (12 + v3) fun x8 =>
  zcI (f_X10_covers x8 h6) fun x9 h10 =>
  zcI (f_X10_ones (x3 &&& (x9 ^^^ (-1))) h10) fun x11 h12 =>
  zrI (x5 + x11) h12
set_option maxRecDepth 100000 in
set_option maxHeartbeats 4000000 in
theorem zb_X10_getsOf_37 (Y : zY) (v0 : Nat) (v2 : Int32) (v3 : Int32) (h : zH) : Z Y M_X10_getsOf 0 0 37 [(0, .ref v0), (2, .int v2), (3, .int v3)] [] h (f_X10_getsOf_37 v0 v2 v3 h) := by
  rw [f_X10_getsOf_37]
  refine z_aload_n 0 (zat dd_X10_getsOf 22 rfl) rfl rfl ?_
  refine z_getR fl_X10_7 (zat dd_X10_getsOf 23 rfl) (fun a1 => ?_)
  refine z_bipush (x := 12) (zat dd_X10_getsOf 24 rfl) (by decide) ?_
  refine z_iload_n 1 (zat dd_X10_getsOf 25 rfl) rfl rfl ?_
  refine z_iadd (zat dd_X10_getsOf 26 rfl) ?_
  refine z_iald (zat dd_X10_getsOf 27 rfl) (fun x2 => ?_)
  refine z_callS_I0 (M2 := M_X10_covers) [.int x2] (fun l D _ _ => m_X10_covers l D x2 h) u_X10_covers ql_X10_63 qi_X10_covers rfl rfl (Nat.le_of_ble_eq_true rfl) (by decide) rfl rfl (zat dd_X10_getsOf 28 rfl) (fun x3 h4 => ?_)
  refine z_istore (lv' := [(4, .int x3), (0, .ref v0), (2, .int v2), (3, .int v3)]) (zat dd_X10_getsOf 29 rfl) (Nat.le_of_ble_eq_true rfl) rfl ?_
  refine z_iload 0 (zat dd_X10_getsOf 30 rfl) rfl ?_
  refine z_callS_I0 (M2 := M_X10_ones) [.int x3] (fun l D _ _ => m_X10_ones l D x3 h4) u_X10_ones ql_X10_201 qi_X10_ones rfl rfl (Nat.le_of_ble_eq_true rfl) (by decide) rfl rfl (zat dd_X10_getsOf 31 rfl) (fun x5 h6 => ?_)
  refine z_iload 0 (zat dd_X10_getsOf 32 rfl) rfl ?_
  refine z_aload_n 1 (zat dd_X10_getsOf 33 rfl) rfl rfl ?_
  refine z_getR fl_X10_7 (zat dd_X10_getsOf 34 rfl) (fun a7 => ?_)
  refine z_bipush (x := 12) (zat dd_X10_getsOf 35 rfl) (by decide) ?_
  refine z_iload_n 3 (zat dd_X10_getsOf 36 rfl) rfl rfl ?_
  refine z_iadd (zat dd_X10_getsOf 37 rfl) ?_
  refine z_iald (zat dd_X10_getsOf 38 rfl) (fun x8 => ?_)
  refine z_callS_I0 (M2 := M_X10_covers) [.int x8] (fun l D _ _ => m_X10_covers l D x8 h6) u_X10_covers ql_X10_63 qi_X10_covers rfl rfl (Nat.le_of_ble_eq_true rfl) (by decide) rfl rfl (zat dd_X10_getsOf 39 rfl) (fun x9 h10 => ?_)
  refine z_iconst (x := (-1)) (zat dd_X10_getsOf 40 rfl) (by decide) ?_
  refine z_ixor (zat dd_X10_getsOf 41 rfl) ?_
  refine z_iand (zat dd_X10_getsOf 42 rfl) ?_
  refine z_callS_I0 (M2 := M_X10_ones) [.int (x3 &&& (x9 ^^^ (-1)))] (fun l D _ _ => m_X10_ones l D (x3 &&& (x9 ^^^ (-1))) h10) u_X10_ones ql_X10_201 qi_X10_ones rfl rfl (Nat.le_of_ble_eq_true rfl) (by decide) rfl rfl (zat dd_X10_getsOf 43 rfl) (fun x11 h12 => ?_)
  refine z_iadd (zat dd_X10_getsOf 44 rfl) ?_
  exact z_iret rfl (zat dd_X10_getsOf 45 rfl)
def f_X10_getsOf (v0 : Nat) (v1 : Int32) (v2 : Int32) (v3 : Int32) (h : zH) : zR :=
  if v2 = v3 then
  zrI (-2) h
  else
  zcI (f_X10_has v1 v2 h) fun x1 h2 =>
  if x1 = 0 then
  zrI 0 h2
  else
  zcI (f_X10_has v1 v3 h2) fun x3 h4 =>
  if x3 = 0 then
  f_X10_getsOf_37 v0 v2 v3 h4
  else
  zoc h4 v0 6 <|
  zcI (f_X10_areGoing v0 v2 v3 h4) fun x5 h6 =>
  if x5 = 0 then
  zrI (-1) h6
  else
  f_X10_getsOf_37 v0 v2 v3 h6
set_option maxRecDepth 100000 in
set_option maxHeartbeats 4000000 in
theorem m_X10_getsOf (l : Launch) (D : zD) (v0 : Nat) (v1 : Int32) (v2 : Int32) (v3 : Int32) (h : zH) : zMet l D yX10_getsOf M_X10_getsOf [.ref v0, .int v1, .int v2, .int v3] h (f_X10_getsOf v0 v1 v2 v3 h) := by
  refine zMet.of (by decide +kernel) ⟨rfl, rfl⟩ (Nat.le_of_ble_eq_true rfl) (fun Y hl hD => ?_)
  show Z Y M_X10_getsOf 0 0 0 [(0, .ref v0), (1, .int v1), (2, .int v2), (3, .int v3)] [] h _
  rw [f_X10_getsOf]
  refine z_iload_n 2 (zat dd_X10_getsOf 0 rfl) rfl rfl ?_
  refine z_iload_n 3 (zat dd_X10_getsOf 1 rfl) rfl rfl ?_
  refine z_icmp_ne (tgt := 8) (zat dd_X10_getsOf 2 rfl) (by decide) ?_ ?_
  · refine z_iload_n 1 (zat dd_X10_getsOf 5 rfl) rfl rfl ?_
    refine z_iload_n 2 (zat dd_X10_getsOf 6 rfl) rfl rfl ?_
    refine z_callS_I0 (M2 := M_X10_has) [.int v1, .int v2] (fun l D _ _ => m_X10_has l D v1 v2 h) u_X10_has ql_X10_180 qi_X10_has rfl rfl (Nat.le_of_ble_eq_true rfl) (by decide) rfl rfl (zat dd_X10_getsOf 7 rfl) (fun x1 h2 => ?_)
    refine z_if_ne (tgt := 18) (zat dd_X10_getsOf 8 rfl) (by decide) ?_ ?_
    · refine z_iload_n 1 (zat dd_X10_getsOf 11 rfl) rfl rfl ?_
      refine z_iload_n 3 (zat dd_X10_getsOf 12 rfl) rfl rfl ?_
      refine z_callS_I0 (M2 := M_X10_has) [.int v1, .int v3] (fun l D _ _ => m_X10_has l D v1 v3 h2) u_X10_has ql_X10_180 qi_X10_has rfl rfl (Nat.le_of_ble_eq_true rfl) (by decide) rfl rfl (zat dd_X10_getsOf 13 rfl) (fun x3 h4 => ?_)
      refine z_if_eq (tgt := 37) (zat dd_X10_getsOf 14 rfl) (by decide) ?_ ?_
      · refine z_sub [0, 2, 3] rfl ?_
        exact zb_X10_getsOf_37 Y v0 v2 v3 h4
      · refine z_aload_n 0 (zat dd_X10_getsOf 15 rfl) rfl rfl ?_
        refine z_iload_n 2 (zat dd_X10_getsOf 16 rfl) rfl rfl ?_
        refine z_iload_n 3 (zat dd_X10_getsOf 17 rfl) rfl rfl ?_
        refine z_callV_I0 (M2 := M_X10_areGoing) [.int v2, .int v3] (fun l D _ _ => m_X10_areGoing l D v0 v2 v3 h4) u_X10_areGoing ql_X10_186 qi_X10_areGoing qs_X10_areGoing (ci := 6) rfl rfl rfl (Nat.le_of_ble_eq_true rfl) (by decide) rfl rfl (zat dd_X10_getsOf 18 rfl) (fun x5 h6 => ?_)
        refine z_if_ne (tgt := 37) (zat dd_X10_getsOf 19 rfl) (by decide) ?_ ?_
        · refine z_sub [0, 2, 3] rfl ?_
          exact zb_X10_getsOf_37 Y v0 v2 v3 h6
        · refine z_iconst (x := (-1)) (zat dd_X10_getsOf 20 rfl) (by decide) ?_
          exact z_iret rfl (zat dd_X10_getsOf 21 rfl)
    · refine z_iconst (x := 0) (zat dd_X10_getsOf 9 rfl) (by decide) ?_
      exact z_iret rfl (zat dd_X10_getsOf 10 rfl)
  · refine z_bipush (x := (-2)) (zat dd_X10_getsOf 3 rfl) (by decide) ?_
    exact z_iret rfl (zat dd_X10_getsOf 4 rfl)
/-! PaperDollsModel.rests(IIII)Z -/
def L_X10_rests : List (Nat × Instr × Nat) := [(0, .iload_n 2, 1), (1, .iload_n 3, 1), (2, .invokestatic 180, 3), (5, .ifCond .eq 16, 3), (8, .iload_n 2, 1), (9, .iload 4, 2), (11, .invokestatic 180, 3), (14, .ifCond .eq 7, 3), (17, .iconst 1, 1), (18, .goto 4, 3), (21, .iconst 0, 1), (22, .istore 5, 2), (24, .iconst 0, 1), (25, .istore 6, 2), (27, .iload 6, 2), (29, .aload_n 0, 1), (30, .getfield 7, 3), (33, .iconst 0, 1), (34, .iaload, 1), (35, .if_icmp .ge 69, 3), (38, .iload 5, 2), (40, .ifCond .eq 64, 3), (43, .iload_n 2, 1), (44, .iload 6, 2), (46, .invokestatic 180, 3), (49, .ifCond .eq 42, 3), (52, .aload_n 0, 1), (53, .iload_n 1, 1), (54, .iload 6, 2), (56, .iload 4, 2), (58, .invokevirtual 225, 3), (61, .aload_n 0, 1), (62, .iload_n 1, 1), (63, .iload_n 3, 1), (64, .iload 4, 2), (66, .invokevirtual 225, 3), (69, .if_icmp .gt 26, 3), (72, .aload_n 0, 1), (73, .iload_n 1, 1), (74, .iload 6, 2), (76, .iload_n 3, 1), (77, .invokevirtual 225, 3), (80, .aload_n 0, 1), (81, .iload_n 1, 1), (82, .iload 4, 2), (84, .iload_n 3, 1), (85, .invokevirtual 225, 3), (88, .if_icmp .gt 7, 3), (91, .iconst 1, 1), (92, .goto 4, 3), (95, .iconst 0, 1), (96, .istore 5, 2), (98, .iinc 6 1, 3), (101, .goto (-74), 3), (104, .iload 5, 2), (106, .ireturn, 1)]
theorem dd_X10_rests : ∀ q ∈ L_X10_rests, decode cX10_rests q.1 = .ok q.2 := by decide +kernel
abbrev M_X10_rests : zM := (cX10_rests, RX10, "rests", 7, some .boolean, 3, 0, 0)
theorem u_X10_rests : zCal yX10_rests (M_X10_rests) 4 := ⟨(zmem 1147 (by decide +kernel) rfl : Cond.code yX10_rests cX10_rests 7 (some .boolean) ∈ zTb), zmem 63 (by decide +kernel) rfl, by decide +kernel, Nat.le_of_ble_eq_true rfl⟩
theorem qi_X10_rests : Cond.instanceMethod yX10_rests ∈ zTb := zmem 1146 (by decide +kernel) rfl
theorem qs_X10_rests : Cond.selects yX10_rests.cls yX10_rests yX10_rests ∈ zTb := zmem 51 (by decide +kernel) rfl
def f_X10_rests_104 (v5 : Int32) (h : zH) : zR :=
  zrZ v5 h
set_option maxRecDepth 100000 in
set_option maxHeartbeats 4000000 in
theorem zb_X10_rests_104 (Y : zY) (v5 : Int32) (h : zH) : Z Y M_X10_rests 0 0 104 [(5, .int v5)] [] h (f_X10_rests_104 v5 h) := by
  rw [f_X10_rests_104]
  refine z_iload 0 (zat dd_X10_rests 54 rfl) rfl ?_
  exact z_zret rfl (zat dd_X10_rests 55 rfl)
def f_X10_rests_96 (k27 : Nat → Int32 → Int32 → Int32 → Int32 → Int32 → Int32 → zH → zR) (v0 : Nat) (v1 : Int32) (v2 : Int32) (v3 : Int32) (v4 : Int32) (v6 : Int32) (t0 : Int32) (h : zH) : zR :=
  k27 v0 v1 v2 v3 v4 t0 (v6 + 1) h
set_option maxRecDepth 100000 in
set_option maxHeartbeats 4000000 in
theorem zb_X10_rests_96 (Y : zY) (k27 : Nat → Int32 → Int32 → Int32 → Int32 → Int32 → Int32 → zH → zR) (hk27 : ∀ (v0 : Nat) (v1 : Int32) (v2 : Int32) (v3 : Int32) (v4 : Int32) (v5 : Int32) (v6 : Int32) (h : zH), Z Y M_X10_rests 0 0 27 [(0, .ref v0), (1, .int v1), (2, .int v2), (3, .int v3), (4, .int v4), (5, .int v5), (6, .int v6)] [] h (k27 v0 v1 v2 v3 v4 v5 v6 h)) (v0 : Nat) (v1 : Int32) (v2 : Int32) (v3 : Int32) (v4 : Int32) (v6 : Int32) (t0 : Int32) (h : zH) : Z Y M_X10_rests 0 0 96 [(0, .ref v0), (1, .int v1), (2, .int v2), (3, .int v3), (4, .int v4), (6, .int v6)] [.int t0] h (f_X10_rests_96 k27 v0 v1 v2 v3 v4 v6 t0 h) := by
  rw [f_X10_rests_96]
  refine z_istore (lv' := [(5, .int t0), (0, .ref v0), (1, .int v1), (2, .int v2), (3, .int v3), (4, .int v4), (6, .int v6)]) (zat dd_X10_rests 51 rfl) (Nat.le_of_ble_eq_true rfl) rfl ?_
  refine z_iinc (y := v6 + 1) (lv' := [(6, .int (v6 + 1)), (5, .int t0), (0, .ref v0), (1, .int v1), (2, .int v2), (3, .int v3), (4, .int v4)]) 6 (zat dd_X10_rests 52 rfl) rfl rfl (Nat.le_of_ble_eq_true rfl) rfl ?_
  refine z_goto (tgt := 27) (zat dd_X10_rests 53 rfl) (by decide) ?_
  refine z_sub [2, 3, 4, 5, 6, 1, 0] rfl ?_
  exact hk27 v0 v1 v2 v3 v4 t0 (v6 + 1) h
def f_X10_rests_95 (k27 : Nat → Int32 → Int32 → Int32 → Int32 → Int32 → Int32 → zH → zR) (v0 : Nat) (v1 : Int32) (v2 : Int32) (v3 : Int32) (v4 : Int32) (v6 : Int32) (h : zH) : zR :=
  f_X10_rests_96 k27 v0 v1 v2 v3 v4 v6 0 h
set_option maxRecDepth 100000 in
set_option maxHeartbeats 4000000 in
theorem zb_X10_rests_95 (Y : zY) (k27 : Nat → Int32 → Int32 → Int32 → Int32 → Int32 → Int32 → zH → zR) (hk27 : ∀ (v0 : Nat) (v1 : Int32) (v2 : Int32) (v3 : Int32) (v4 : Int32) (v5 : Int32) (v6 : Int32) (h : zH), Z Y M_X10_rests 0 0 27 [(0, .ref v0), (1, .int v1), (2, .int v2), (3, .int v3), (4, .int v4), (5, .int v5), (6, .int v6)] [] h (k27 v0 v1 v2 v3 v4 v5 v6 h)) (v0 : Nat) (v1 : Int32) (v2 : Int32) (v3 : Int32) (v4 : Int32) (v6 : Int32) (h : zH) : Z Y M_X10_rests 0 0 95 [(0, .ref v0), (1, .int v1), (2, .int v2), (3, .int v3), (4, .int v4), (6, .int v6)] [] h (f_X10_rests_95 k27 v0 v1 v2 v3 v4 v6 h) := by
  rw [f_X10_rests_95]
  refine z_iconst (x := 0) (zat dd_X10_rests 50 rfl) (by decide) ?_
  exact zb_X10_rests_96 Y k27 hk27 v0 v1 v2 v3 v4 v6 0 h
def f_X10_rests_91 (k27 : Nat → Int32 → Int32 → Int32 → Int32 → Int32 → Int32 → zH → zR) (v0 : Nat) (v1 : Int32) (v2 : Int32) (v3 : Int32) (v4 : Int32) (v6 : Int32) (h : zH) : zR :=
  f_X10_rests_96 k27 v0 v1 v2 v3 v4 v6 1 h
set_option maxRecDepth 100000 in
set_option maxHeartbeats 4000000 in
theorem zb_X10_rests_91 (Y : zY) (k27 : Nat → Int32 → Int32 → Int32 → Int32 → Int32 → Int32 → zH → zR) (hk27 : ∀ (v0 : Nat) (v1 : Int32) (v2 : Int32) (v3 : Int32) (v4 : Int32) (v5 : Int32) (v6 : Int32) (h : zH), Z Y M_X10_rests 0 0 27 [(0, .ref v0), (1, .int v1), (2, .int v2), (3, .int v3), (4, .int v4), (5, .int v5), (6, .int v6)] [] h (k27 v0 v1 v2 v3 v4 v5 v6 h)) (v0 : Nat) (v1 : Int32) (v2 : Int32) (v3 : Int32) (v4 : Int32) (v6 : Int32) (h : zH) : Z Y M_X10_rests 0 0 91 [(0, .ref v0), (1, .int v1), (2, .int v2), (3, .int v3), (4, .int v4), (6, .int v6)] [] h (f_X10_rests_91 k27 v0 v1 v2 v3 v4 v6 h) := by
  rw [f_X10_rests_91]
  refine z_iconst (x := 1) (zat dd_X10_rests 48 rfl) (by decide) ?_
  refine z_goto (tgt := 96) (zat dd_X10_rests 49 rfl) (by decide) ?_
  exact zb_X10_rests_96 Y k27 hk27 v0 v1 v2 v3 v4 v6 1 h
def f_X10_rests_27 : Nat → Nat → Int32 → Int32 → Int32 → Int32 → Int32 → Int32 → zH → zR
  | 0, _, _, _, _, _, _, _, _ => none
  | n + 1, v0, v1, v2, v3, v4, v5, v6, h =>
  zgR h v0 6 0 fun a1 =>
  zaI h a1 0 0 fun x2 =>
  if x2 ≤ v6 then
  f_X10_rests_104 v5 h
  else
  if v5 = 0 then
  f_X10_rests_104 v5 h
  else
  zcI (f_X10_has v2 v6 h) fun x3 h4 =>
  if x3 = 0 then
  f_X10_rests_91 (f_X10_rests_27 n) v0 v1 v2 v3 v4 v6 h4
  else
  zoc h4 v0 6 <|
  zcI (f_X10_getsOf v0 v1 v6 v4 h4) fun x5 h6 =>
  zoc h6 v0 6 <|
  zcI (f_X10_getsOf v0 v1 v3 v4 h6) fun x7 h8 =>
  if x7 < x5 then
  f_X10_rests_95 (f_X10_rests_27 n) v0 v1 v2 v3 v4 v6 h8
  else
  zoc h8 v0 6 <|
  zcI (f_X10_getsOf v0 v1 v6 v3 h8) fun x9 h10 =>
  zoc h10 v0 6 <|
  zcI (f_X10_getsOf v0 v1 v4 v3 h10) fun x11 h12 =>
  if x11 < x9 then
  f_X10_rests_95 (f_X10_rests_27 n) v0 v1 v2 v3 v4 v6 h12
  else
  f_X10_rests_91 (f_X10_rests_27 n) v0 v1 v2 v3 v4 v6 h12
set_option maxRecDepth 100000 in
set_option maxHeartbeats 4000000 in
theorem zb_X10_rests_27 (Y : zY) : ∀ (n : Nat) (v0 : Nat) (v1 : Int32) (v2 : Int32) (v3 : Int32) (v4 : Int32) (v5 : Int32) (v6 : Int32) (h : zH), Z Y M_X10_rests 0 0 27 [(0, .ref v0), (1, .int v1), (2, .int v2), (3, .int v3), (4, .int v4), (5, .int v5), (6, .int v6)] [] h (f_X10_rests_27 n v0 v1 v2 v3 v4 v5 v6 h) := by
  intro n
  induction n with
  | zero =>
    intro v0 v1 v2 v3 v4 v5 v6 h
    rw [f_X10_rests_27]
    exact z_none
  | succ n ih =>
    intro v0 v1 v2 v3 v4 v5 v6 h
    rw [f_X10_rests_27]
    refine z_iload 6 (zat dd_X10_rests 14 rfl) rfl ?_
    refine z_aload_n 0 (zat dd_X10_rests 15 rfl) rfl rfl ?_
    refine z_getR fl_X10_7 (zat dd_X10_rests 16 rfl) (fun a1 => ?_)
    refine z_iconst (x := 0) (zat dd_X10_rests 17 rfl) (by decide) ?_
    refine z_iald (zat dd_X10_rests 18 rfl) (fun x2 => ?_)
    refine z_icmp_ge (tgt := 104) (zat dd_X10_rests 19 rfl) (by decide) ?_ ?_
    · refine z_sub [5] rfl ?_
      exact zb_X10_rests_104 Y v5 h
    · refine z_iload 5 (zat dd_X10_rests 20 rfl) rfl ?_
      refine z_if_eq (tgt := 104) (zat dd_X10_rests 21 rfl) (by decide) ?_ ?_
      · refine z_sub [5] rfl ?_
        exact zb_X10_rests_104 Y v5 h
      · refine z_iload_n 2 (zat dd_X10_rests 22 rfl) rfl rfl ?_
        refine z_iload 6 (zat dd_X10_rests 23 rfl) rfl ?_
        refine z_callS_I0 (M2 := M_X10_has) [.int v2, .int v6] (fun l D _ _ => m_X10_has l D v2 v6 h) u_X10_has ql_X10_180 qi_X10_has rfl rfl (Nat.le_of_ble_eq_true rfl) (by decide) rfl rfl (zat dd_X10_rests 24 rfl) (fun x3 h4 => ?_)
        refine z_if_eq (tgt := 91) (zat dd_X10_rests 25 rfl) (by decide) ?_ ?_
        · refine z_sub [0, 1, 2, 3, 4, 6] rfl ?_
          exact zb_X10_rests_91 Y (f_X10_rests_27 n) ih v0 v1 v2 v3 v4 v6 h4
        · refine z_aload_n 0 (zat dd_X10_rests 26 rfl) rfl rfl ?_
          refine z_iload_n 1 (zat dd_X10_rests 27 rfl) rfl rfl ?_
          refine z_iload 6 (zat dd_X10_rests 28 rfl) rfl ?_
          refine z_iload 4 (zat dd_X10_rests 29 rfl) rfl ?_
          refine z_callV_I0 (M2 := M_X10_getsOf) [.int v1, .int v6, .int v4] (fun l D _ _ => m_X10_getsOf l D v0 v1 v6 v4 h4) u_X10_getsOf ql_X10_225 qi_X10_getsOf qs_X10_getsOf (ci := 6) rfl rfl rfl (Nat.le_of_ble_eq_true rfl) (by decide) rfl rfl (zat dd_X10_rests 30 rfl) (fun x5 h6 => ?_)
          refine z_aload_n 0 (zat dd_X10_rests 31 rfl) rfl rfl ?_
          refine z_iload_n 1 (zat dd_X10_rests 32 rfl) rfl rfl ?_
          refine z_iload_n 3 (zat dd_X10_rests 33 rfl) rfl rfl ?_
          refine z_iload 4 (zat dd_X10_rests 34 rfl) rfl ?_
          refine z_callV_I0 (M2 := M_X10_getsOf) [.int v1, .int v3, .int v4] (fun l D _ _ => m_X10_getsOf l D v0 v1 v3 v4 h6) u_X10_getsOf ql_X10_225 qi_X10_getsOf qs_X10_getsOf (ci := 6) rfl rfl rfl (Nat.le_of_ble_eq_true rfl) (by decide) rfl rfl (zat dd_X10_rests 35 rfl) (fun x7 h8 => ?_)
          refine z_icmp_gt (tgt := 95) (zat dd_X10_rests 36 rfl) (by decide) ?_ ?_
          · refine z_sub [0, 1, 2, 3, 4, 6] rfl ?_
            exact zb_X10_rests_95 Y (f_X10_rests_27 n) ih v0 v1 v2 v3 v4 v6 h8
          · refine z_aload_n 0 (zat dd_X10_rests 37 rfl) rfl rfl ?_
            refine z_iload_n 1 (zat dd_X10_rests 38 rfl) rfl rfl ?_
            refine z_iload 6 (zat dd_X10_rests 39 rfl) rfl ?_
            refine z_iload_n 3 (zat dd_X10_rests 40 rfl) rfl rfl ?_
            refine z_callV_I0 (M2 := M_X10_getsOf) [.int v1, .int v6, .int v3] (fun l D _ _ => m_X10_getsOf l D v0 v1 v6 v3 h8) u_X10_getsOf ql_X10_225 qi_X10_getsOf qs_X10_getsOf (ci := 6) rfl rfl rfl (Nat.le_of_ble_eq_true rfl) (by decide) rfl rfl (zat dd_X10_rests 41 rfl) (fun x9 h10 => ?_)
            refine z_aload_n 0 (zat dd_X10_rests 42 rfl) rfl rfl ?_
            refine z_iload_n 1 (zat dd_X10_rests 43 rfl) rfl rfl ?_
            refine z_iload 4 (zat dd_X10_rests 44 rfl) rfl ?_
            refine z_iload_n 3 (zat dd_X10_rests 45 rfl) rfl rfl ?_
            refine z_callV_I0 (M2 := M_X10_getsOf) [.int v1, .int v4, .int v3] (fun l D _ _ => m_X10_getsOf l D v0 v1 v4 v3 h10) u_X10_getsOf ql_X10_225 qi_X10_getsOf qs_X10_getsOf (ci := 6) rfl rfl rfl (Nat.le_of_ble_eq_true rfl) (by decide) rfl rfl (zat dd_X10_rests 46 rfl) (fun x11 h12 => ?_)
            refine z_icmp_gt (tgt := 95) (zat dd_X10_rests 47 rfl) (by decide) ?_ ?_
            · refine z_sub [0, 1, 2, 3, 4, 6] rfl ?_
              exact zb_X10_rests_95 Y (f_X10_rests_27 n) ih v0 v1 v2 v3 v4 v6 h12
            · refine z_sub [0, 1, 2, 3, 4, 6] rfl ?_
              exact zb_X10_rests_91 Y (f_X10_rests_27 n) ih v0 v1 v2 v3 v4 v6 h12
def f_X10_rests_22 (v0 : Nat) (v1 : Int32) (v2 : Int32) (v3 : Int32) (v4 : Int32) (t0 : Int32) (h : zH) : zR :=
  f_X10_rests_27 zF v0 v1 v2 v3 v4 t0 0 h
set_option maxRecDepth 100000 in
set_option maxHeartbeats 4000000 in
theorem zb_X10_rests_22 (Y : zY) (v0 : Nat) (v1 : Int32) (v2 : Int32) (v3 : Int32) (v4 : Int32) (t0 : Int32) (h : zH) : Z Y M_X10_rests 0 0 22 [(0, .ref v0), (1, .int v1), (2, .int v2), (3, .int v3), (4, .int v4)] [.int t0] h (f_X10_rests_22 v0 v1 v2 v3 v4 t0 h) := by
  rw [f_X10_rests_22]
  refine z_istore (lv' := [(5, .int t0), (0, .ref v0), (1, .int v1), (2, .int v2), (3, .int v3), (4, .int v4)]) (zat dd_X10_rests 11 rfl) (Nat.le_of_ble_eq_true rfl) rfl ?_
  refine z_iconst (x := 0) (zat dd_X10_rests 12 rfl) (by decide) ?_
  refine z_istore (lv' := [(6, .int 0), (5, .int t0), (0, .ref v0), (1, .int v1), (2, .int v2), (3, .int v3), (4, .int v4)]) (zat dd_X10_rests 13 rfl) (Nat.le_of_ble_eq_true rfl) rfl ?_
  refine z_sub [2, 3, 4, 5, 6, 1, 0] rfl ?_
  exact zb_X10_rests_27 Y zF v0 v1 v2 v3 v4 t0 0 h
def f_X10_rests_21 (v0 : Nat) (v1 : Int32) (v2 : Int32) (v3 : Int32) (v4 : Int32) (h : zH) : zR :=
  f_X10_rests_22 v0 v1 v2 v3 v4 0 h
set_option maxRecDepth 100000 in
set_option maxHeartbeats 4000000 in
theorem zb_X10_rests_21 (Y : zY) (v0 : Nat) (v1 : Int32) (v2 : Int32) (v3 : Int32) (v4 : Int32) (h : zH) : Z Y M_X10_rests 0 0 21 [(0, .ref v0), (1, .int v1), (2, .int v2), (3, .int v3), (4, .int v4)] [] h (f_X10_rests_21 v0 v1 v2 v3 v4 h) := by
  rw [f_X10_rests_21]
  refine z_iconst (x := 0) (zat dd_X10_rests 10 rfl) (by decide) ?_
  exact zb_X10_rests_22 Y v0 v1 v2 v3 v4 0 h
def f_X10_rests (v0 : Nat) (v1 : Int32) (v2 : Int32) (v3 : Int32) (v4 : Int32) (h : zH) : zR :=
  zcI (f_X10_has v2 v3 h) fun x1 h2 =>
  if x1 = 0 then
  f_X10_rests_21 v0 v1 v2 v3 v4 h2
  else
  zcI (f_X10_has v2 v4 h2) fun x3 h4 =>
  if x3 = 0 then
  f_X10_rests_21 v0 v1 v2 v3 v4 h4
  else
  f_X10_rests_22 v0 v1 v2 v3 v4 1 h4
set_option maxRecDepth 100000 in
set_option maxHeartbeats 4000000 in
theorem m_X10_rests (l : Launch) (D : zD) (v0 : Nat) (v1 : Int32) (v2 : Int32) (v3 : Int32) (v4 : Int32) (h : zH) : zMet l D yX10_rests M_X10_rests [.ref v0, .int v1, .int v2, .int v3, .int v4] h (f_X10_rests v0 v1 v2 v3 v4 h) := by
  refine zMet.of (by decide +kernel) ⟨rfl, rfl⟩ (Nat.le_of_ble_eq_true rfl) (fun Y hl hD => ?_)
  show Z Y M_X10_rests 0 0 0 [(0, .ref v0), (1, .int v1), (2, .int v2), (3, .int v3), (4, .int v4)] [] h _
  rw [f_X10_rests]
  refine z_iload_n 2 (zat dd_X10_rests 0 rfl) rfl rfl ?_
  refine z_iload_n 3 (zat dd_X10_rests 1 rfl) rfl rfl ?_
  refine z_callS_I0 (M2 := M_X10_has) [.int v2, .int v3] (fun l D _ _ => m_X10_has l D v2 v3 h) u_X10_has ql_X10_180 qi_X10_has rfl rfl (Nat.le_of_ble_eq_true rfl) (by decide) rfl rfl (zat dd_X10_rests 2 rfl) (fun x1 h2 => ?_)
  refine z_if_eq (tgt := 21) (zat dd_X10_rests 3 rfl) (by decide) ?_ ?_
  · exact zb_X10_rests_21 Y v0 v1 v2 v3 v4 h2
  · refine z_iload_n 2 (zat dd_X10_rests 4 rfl) rfl rfl ?_
    refine z_iload 4 (zat dd_X10_rests 5 rfl) rfl ?_
    refine z_callS_I0 (M2 := M_X10_has) [.int v2, .int v4] (fun l D _ _ => m_X10_has l D v2 v4 h2) u_X10_has ql_X10_180 qi_X10_has rfl rfl (Nat.le_of_ble_eq_true rfl) (by decide) rfl rfl (zat dd_X10_rests 6 rfl) (fun x3 h4 => ?_)
    refine z_if_eq (tgt := 21) (zat dd_X10_rests 7 rfl) (by decide) ?_ ?_
    · exact zb_X10_rests_21 Y v0 v1 v2 v3 v4 h4
    · refine z_iconst (x := 1) (zat dd_X10_rests 8 rfl) (by decide) ?_
      refine z_goto (tgt := 22) (zat dd_X10_rests 9 rfl) (by decide) ?_
      exact zb_X10_rests_22 Y v0 v1 v2 v3 v4 1 h4
/-! PaperDollsModel.two(I)I -/
def L_X10_two : List (Nat × Instr × Nat) := [(0, .iload_n 1, 1), (1, .iconst (-1), 1), (2, .if_icmp .ge 8, 3), (5, .aload_n 0, 1), (6, .invokevirtual 85, 3), (9, .ireturn, 1), (10, .aload_n 0, 1), (11, .invokevirtual 183, 3), (14, .istore_n 2, 1), (15, .iconst 0, 1), (16, .istore_n 3, 1), (17, .iconst 0, 1), (18, .istore 4, 2), (20, .iload 4, 2), (22, .aload_n 0, 1), (23, .getfield 7, 3), (26, .iconst 0, 1), (27, .iaload, 1), (28, .if_icmp .ge 31, 3), (31, .iload_n 3, 1), (32, .aload_n 0, 1), (33, .iload 4, 2), (35, .invokevirtual 56, 3), (38, .bipush (-101), 2), (40, .if_icmp .ne 10, 3), (43, .iconst 1, 1), (44, .iload 4, 2), (46, .ishl, 1), (47, .goto 4, 3), (50, .iconst 0, 1), (51, .ior, 1), (52, .istore_n 3, 1), (53, .iinc 4 1, 3), (56, .goto (-36), 3), (59, .iconst 0, 1), (60, .istore 4, 2), (62, .iconst 0, 1), (63, .istore 5, 2), (65, .iload 5, 2), (67, .bipush 64, 2), (69, .if_icmp .ge 52, 3), (72, .aload_n 0, 1), (73, .iload_n 2, 1), (74, .iload_n 3, 1), (75, .iload 5, 2), (77, .bipush 8, 2), (79, .idiv, 1), (80, .iload 5, 2), (82, .bipush 8, 2), (84, .irem, 1), (85, .invokevirtual 228, 3), (88, .ifCond .eq 27, 3), (91, .iload 4, 2), (93, .iload_n 1, 1), (94, .if_icmp .ne 18, 3), (97, .bipush 10, 2), (99, .iload 5, 2), (101, .bipush 8, 2), (103, .idiv, 1), (104, .imul, 1), (105, .iload 5, 2), (107, .bipush 8, 2), (109, .irem, 1), (110, .iadd, 1), (111, .ireturn, 1), (112, .iinc 4 1, 3), (115, .iinc 5 1, 3), (118, .goto (-53), 3), (121, .iload_n 1, 1), (122, .ifCond .ge 8, 3), (125, .iload 4, 2), (127, .goto 5, 3), (130, .bipush (-5), 2), (132, .ireturn, 1)]
theorem dd_X10_two : ∀ q ∈ L_X10_two, decode cX10_two q.1 = .ok q.2 := by decide +kernel
abbrev M_X10_two : zM := (cX10_two, RX10, "two", 6, some .int, 4, 0, 0)
theorem u_X10_two : zCal yX10_two (M_X10_two) 1 := ⟨(zmem 1143 (by decide +kernel) rfl : Cond.code yX10_two cX10_two 6 (some .int) ∈ zTb), zmem 63 (by decide +kernel) rfl, by decide +kernel, Nat.le_of_ble_eq_true rfl⟩
theorem qi_X10_two : Cond.instanceMethod yX10_two ∈ zTb := zmem 1141 (by decide +kernel) rfl
theorem qs_X10_two : Cond.selects yX10_two.cls yX10_two yX10_two ∈ zTb := zmem 1142 (by decide +kernel) rfl
def f_X10_two_132 (t0 : Int32) (h : zH) : zR :=
  zrI t0 h
set_option maxRecDepth 100000 in
set_option maxHeartbeats 4000000 in
theorem zb_X10_two_132 (Y : zY) (t0 : Int32) (h : zH) : Z Y M_X10_two 0 0 132 [] [.int t0] h (f_X10_two_132 t0 h) := by
  rw [f_X10_two_132]
  exact z_iret rfl (zat dd_X10_two 73 rfl)
def f_X10_two_115 (k65 : Nat → Int32 → Int32 → Int32 → Int32 → Int32 → zH → zR) (v0 : Nat) (v1 : Int32) (v2 : Int32) (v3 : Int32) (v4 : Int32) (v5 : Int32) (h : zH) : zR :=
  k65 v0 v1 v2 v3 v4 (v5 + 1) h
set_option maxRecDepth 100000 in
set_option maxHeartbeats 4000000 in
theorem zb_X10_two_115 (Y : zY) (k65 : Nat → Int32 → Int32 → Int32 → Int32 → Int32 → zH → zR) (hk65 : ∀ (v0 : Nat) (v1 : Int32) (v2 : Int32) (v3 : Int32) (v4 : Int32) (v5 : Int32) (h : zH), Z Y M_X10_two 0 0 65 [(0, .ref v0), (1, .int v1), (2, .int v2), (3, .int v3), (4, .int v4), (5, .int v5)] [] h (k65 v0 v1 v2 v3 v4 v5 h)) (v0 : Nat) (v1 : Int32) (v2 : Int32) (v3 : Int32) (v4 : Int32) (v5 : Int32) (h : zH) : Z Y M_X10_two 0 0 115 [(0, .ref v0), (1, .int v1), (2, .int v2), (3, .int v3), (4, .int v4), (5, .int v5)] [] h (f_X10_two_115 k65 v0 v1 v2 v3 v4 v5 h) := by
  rw [f_X10_two_115]
  refine z_iinc (y := v5 + 1) (lv' := [(5, .int (v5 + 1)), (0, .ref v0), (1, .int v1), (2, .int v2), (3, .int v3), (4, .int v4)]) 5 (zat dd_X10_two 66 rfl) rfl rfl (Nat.le_of_ble_eq_true rfl) rfl ?_
  refine z_goto (tgt := 65) (zat dd_X10_two 67 rfl) (by decide) ?_
  refine z_sub [1, 2, 3, 4, 5, 0] rfl ?_
  exact hk65 v0 v1 v2 v3 v4 (v5 + 1) h
def f_X10_two_65 : Nat → Nat → Int32 → Int32 → Int32 → Int32 → Int32 → zH → zR
  | 0, _, _, _, _, _, _, _ => none
  | n + 1, v0, v1, v2, v3, v4, v5, h =>
  if 64 ≤ v5 then
  if 0 ≤ v1 then
  f_X10_two_132 (-5) h
  else
  f_X10_two_132 v4 h
  else
  zdv 8 <|
  zdv 8 <|
  zoc h v0 6 <|
  zcI (f_X10_rests v0 v2 v3 (v5 / 8) (v5 - v5 / 8 * 8) h) fun x1 h2 =>
  if x1 = 0 then
  f_X10_two_115 (f_X10_two_65 n) v0 v1 v2 v3 v4 v5 h2
  else
  if v4 = v1 then
  zdv 8 <|
  zdv 8 <|
  zrI ((10 * (v5 / 8)) + (v5 - v5 / 8 * 8)) h2
  else
  f_X10_two_115 (f_X10_two_65 n) v0 v1 v2 v3 (v4 + 1) v5 h2
set_option maxRecDepth 100000 in
set_option maxHeartbeats 4000000 in
theorem zb_X10_two_65 (Y : zY) : ∀ (n : Nat) (v0 : Nat) (v1 : Int32) (v2 : Int32) (v3 : Int32) (v4 : Int32) (v5 : Int32) (h : zH), Z Y M_X10_two 0 0 65 [(0, .ref v0), (1, .int v1), (2, .int v2), (3, .int v3), (4, .int v4), (5, .int v5)] [] h (f_X10_two_65 n v0 v1 v2 v3 v4 v5 h) := by
  intro n
  induction n with
  | zero =>
    intro v0 v1 v2 v3 v4 v5 h
    rw [f_X10_two_65]
    exact z_none
  | succ n ih =>
    intro v0 v1 v2 v3 v4 v5 h
    rw [f_X10_two_65]
    refine z_iload 5 (zat dd_X10_two 38 rfl) rfl ?_
    refine z_bipush (x := 64) (zat dd_X10_two 39 rfl) (by decide) ?_
    refine z_icmp_ge (tgt := 121) (zat dd_X10_two 40 rfl) (by decide) ?_ ?_
    · refine z_iload_n 1 (zat dd_X10_two 68 rfl) rfl rfl ?_
      refine z_if_ge (tgt := 130) (zat dd_X10_two 69 rfl) (by decide) ?_ ?_
      · refine z_bipush (x := (-5)) (zat dd_X10_two 72 rfl) (by decide) ?_
        refine z_sub [] rfl ?_
        exact zb_X10_two_132 Y (-5) h
      · refine z_iload 4 (zat dd_X10_two 70 rfl) rfl ?_
        refine z_goto (tgt := 132) (zat dd_X10_two 71 rfl) (by decide) ?_
        refine z_sub [] rfl ?_
        exact zb_X10_two_132 Y v4 h
    · refine z_aload_n 0 (zat dd_X10_two 41 rfl) rfl rfl ?_
      refine z_iload_n 2 (zat dd_X10_two 42 rfl) rfl rfl ?_
      refine z_iload_n 3 (zat dd_X10_two 43 rfl) rfl rfl ?_
      refine z_iload 5 (zat dd_X10_two 44 rfl) rfl ?_
      refine z_bipush (x := 8) (zat dd_X10_two 45 rfl) (by decide) ?_
      refine z_idiv (zat dd_X10_two 46 rfl) ?_
      refine z_iload 5 (zat dd_X10_two 47 rfl) rfl ?_
      refine z_bipush (x := 8) (zat dd_X10_two 48 rfl) (by decide) ?_
      refine z_irem (zat dd_X10_two 49 rfl) ?_
      refine z_callV_I0 (M2 := M_X10_rests) [.int v2, .int v3, .int (v5 / 8), .int (v5 - v5 / 8 * 8)] (fun l D _ _ => m_X10_rests l D v0 v2 v3 (v5 / 8) (v5 - v5 / 8 * 8) h) u_X10_rests ql_X10_228 qi_X10_rests qs_X10_rests (ci := 6) rfl rfl rfl (Nat.le_of_ble_eq_true rfl) (by decide) rfl rfl (zat dd_X10_two 50 rfl) (fun x1 h2 => ?_)
      refine z_if_eq (tgt := 115) (zat dd_X10_two 51 rfl) (by decide) ?_ ?_
      · exact zb_X10_two_115 Y (f_X10_two_65 n) ih v0 v1 v2 v3 v4 v5 h2
      · refine z_iload 4 (zat dd_X10_two 52 rfl) rfl ?_
        refine z_iload_n 1 (zat dd_X10_two 53 rfl) rfl rfl ?_
        refine z_icmp_ne (tgt := 112) (zat dd_X10_two 54 rfl) (by decide) ?_ ?_
        · refine z_iinc (y := v4 + 1) (lv' := [(4, .int (v4 + 1)), (0, .ref v0), (1, .int v1), (2, .int v2), (3, .int v3), (5, .int v5)]) 4 (zat dd_X10_two 65 rfl) rfl rfl (Nat.le_of_ble_eq_true rfl) rfl ?_
          refine z_sub [1, 2, 3, 4, 0, 5] rfl ?_
          exact zb_X10_two_115 Y (f_X10_two_65 n) ih v0 v1 v2 v3 (v4 + 1) v5 h2
        · refine z_bipush (x := 10) (zat dd_X10_two 55 rfl) (by decide) ?_
          refine z_iload 5 (zat dd_X10_two 56 rfl) rfl ?_
          refine z_bipush (x := 8) (zat dd_X10_two 57 rfl) (by decide) ?_
          refine z_idiv (zat dd_X10_two 58 rfl) ?_
          refine z_imul (zat dd_X10_two 59 rfl) ?_
          refine z_iload 5 (zat dd_X10_two 60 rfl) rfl ?_
          refine z_bipush (x := 8) (zat dd_X10_two 61 rfl) (by decide) ?_
          refine z_irem (zat dd_X10_two 62 rfl) ?_
          refine z_iadd (zat dd_X10_two 63 rfl) ?_
          exact z_iret rfl (zat dd_X10_two 64 rfl)
def f_X10_two_51 (k20 : Nat → Int32 → Int32 → Int32 → Int32 → zH → zR) (v0 : Nat) (v1 : Int32) (v2 : Int32) (v4 : Int32) (t0 : Int32) (t1 : Int32) (h : zH) : zR :=
  zlt (t1 ||| t0) fun x1 =>
  k20 v0 v1 v2 x1 (v4 + 1) h
set_option maxRecDepth 100000 in
set_option maxHeartbeats 4000000 in
theorem zb_X10_two_51 (Y : zY) (k20 : Nat → Int32 → Int32 → Int32 → Int32 → zH → zR) (hk20 : ∀ (v0 : Nat) (v1 : Int32) (v2 : Int32) (v3 : Int32) (v4 : Int32) (h : zH), Z Y M_X10_two 0 0 20 [(0, .ref v0), (1, .int v1), (2, .int v2), (3, .int v3), (4, .int v4)] [] h (k20 v0 v1 v2 v3 v4 h)) (v0 : Nat) (v1 : Int32) (v2 : Int32) (v4 : Int32) (t0 : Int32) (t1 : Int32) (h : zH) : Z Y M_X10_two 0 0 51 [(0, .ref v0), (1, .int v1), (2, .int v2), (4, .int v4)] [.int t0, .int t1] h (f_X10_two_51 k20 v0 v1 v2 v4 t0 t1 h) := by
  rw [f_X10_two_51]
  refine z_ior (zat dd_X10_two 30 rfl) ?_
  refine z_let (fun x1 => ?_)
  refine z_istore_n (lv' := [(3, .int x1), (0, .ref v0), (1, .int v1), (2, .int v2), (4, .int v4)]) (zat dd_X10_two 31 rfl) rfl (Nat.le_of_ble_eq_true rfl) rfl ?_
  refine z_iinc (y := v4 + 1) (lv' := [(4, .int (v4 + 1)), (3, .int x1), (0, .ref v0), (1, .int v1), (2, .int v2)]) 4 (zat dd_X10_two 32 rfl) rfl rfl (Nat.le_of_ble_eq_true rfl) rfl ?_
  refine z_goto (tgt := 20) (zat dd_X10_two 33 rfl) (by decide) ?_
  refine z_sub [2, 3, 4, 1, 0] rfl ?_
  exact hk20 v0 v1 v2 x1 (v4 + 1) h
def f_X10_two_20 : Nat → Nat → Int32 → Int32 → Int32 → Int32 → zH → zR
  | 0, _, _, _, _, _, _ => none
  | n + 1, v0, v1, v2, v3, v4, h =>
  zgR h v0 6 0 fun a1 =>
  zaI h a1 0 0 fun x2 =>
  if x2 ≤ v4 then
  f_X10_two_65 zF v0 v1 v2 v3 0 0 h
  else
  zoc h v0 6 <|
  zcI (f_X10_placeOf v0 v4 h) fun x3 h4 =>
  if x3 = (-101) then
  f_X10_two_51 (f_X10_two_20 n) v0 v1 v2 v4 (1 <<< (v4 &&& 31)) v3 h4
  else
  f_X10_two_51 (f_X10_two_20 n) v0 v1 v2 v4 0 v3 h4
set_option maxRecDepth 100000 in
set_option maxHeartbeats 4000000 in
theorem zb_X10_two_20 (Y : zY) : ∀ (n : Nat) (v0 : Nat) (v1 : Int32) (v2 : Int32) (v3 : Int32) (v4 : Int32) (h : zH), Z Y M_X10_two 0 0 20 [(0, .ref v0), (1, .int v1), (2, .int v2), (3, .int v3), (4, .int v4)] [] h (f_X10_two_20 n v0 v1 v2 v3 v4 h) := by
  intro n
  induction n with
  | zero =>
    intro v0 v1 v2 v3 v4 h
    rw [f_X10_two_20]
    exact z_none
  | succ n ih =>
    intro v0 v1 v2 v3 v4 h
    rw [f_X10_two_20]
    refine z_iload 4 (zat dd_X10_two 13 rfl) rfl ?_
    refine z_aload_n 0 (zat dd_X10_two 14 rfl) rfl rfl ?_
    refine z_getR fl_X10_7 (zat dd_X10_two 15 rfl) (fun a1 => ?_)
    refine z_iconst (x := 0) (zat dd_X10_two 16 rfl) (by decide) ?_
    refine z_iald (zat dd_X10_two 17 rfl) (fun x2 => ?_)
    refine z_icmp_ge (tgt := 59) (zat dd_X10_two 18 rfl) (by decide) ?_ ?_
    · refine z_iconst (x := 0) (zat dd_X10_two 34 rfl) (by decide) ?_
      refine z_istore (lv' := [(4, .int 0), (0, .ref v0), (1, .int v1), (2, .int v2), (3, .int v3)]) (zat dd_X10_two 35 rfl) (Nat.le_of_ble_eq_true rfl) rfl ?_
      refine z_iconst (x := 0) (zat dd_X10_two 36 rfl) (by decide) ?_
      refine z_istore (lv' := [(5, .int 0), (4, .int 0), (0, .ref v0), (1, .int v1), (2, .int v2), (3, .int v3)]) (zat dd_X10_two 37 rfl) (Nat.le_of_ble_eq_true rfl) rfl ?_
      refine z_sub [2, 3, 4, 5, 1, 0] rfl ?_
      exact zb_X10_two_65 Y zF v0 v1 v2 v3 0 0 h
    · refine z_iload_n 3 (zat dd_X10_two 19 rfl) rfl rfl ?_
      refine z_aload_n 0 (zat dd_X10_two 20 rfl) rfl rfl ?_
      refine z_iload 4 (zat dd_X10_two 21 rfl) rfl ?_
      refine z_callV_I0 (M2 := M_X10_placeOf) [.int v4] (fun l D _ _ => m_X10_placeOf l D v0 v4 h) u_X10_placeOf ql_X10_56 qi_X10_placeOf qs_X10_placeOf (ci := 6) rfl rfl rfl (Nat.le_of_ble_eq_true rfl) (by decide) rfl rfl (zat dd_X10_two 22 rfl) (fun x3 h4 => ?_)
      refine z_bipush (x := (-101)) (zat dd_X10_two 23 rfl) (by decide) ?_
      refine z_icmp_ne (tgt := 50) (zat dd_X10_two 24 rfl) (by decide) ?_ ?_
      · refine z_iconst (x := 0) (zat dd_X10_two 29 rfl) (by decide) ?_
        refine z_sub [0, 1, 2, 4] rfl ?_
        exact zb_X10_two_51 Y (f_X10_two_20 n) ih v0 v1 v2 v4 0 v3 h4
      · refine z_iconst (x := 1) (zat dd_X10_two 25 rfl) (by decide) ?_
        refine z_iload 4 (zat dd_X10_two 26 rfl) rfl ?_
        refine z_ishl (zat dd_X10_two 27 rfl) ?_
        refine z_goto (tgt := 51) (zat dd_X10_two 28 rfl) (by decide) ?_
        refine z_sub [0, 1, 2, 4] rfl ?_
        exact zb_X10_two_51 Y (f_X10_two_20 n) ih v0 v1 v2 v4 (1 <<< (v4 &&& 31)) v3 h4
def f_X10_two (v0 : Nat) (v1 : Int32) (h : zH) : zR :=
  if (-1) ≤ v1 then
  zoc h v0 6 <|
  zcI (f_X10_canSet v0 h) fun x1 h2 =>
  f_X10_two_20 zF v0 v1 x1 0 0 h2
  else
  zoc h v0 6 <|
  zcI (f_X10_bad v0 h) fun x3 h4 =>
  zrI x3 h4
set_option maxRecDepth 100000 in
set_option maxHeartbeats 4000000 in
theorem m_X10_two (l : Launch) (D : zD) (v0 : Nat) (v1 : Int32) (h : zH) : zMet l D yX10_two M_X10_two [.ref v0, .int v1] h (f_X10_two v0 v1 h) := by
  refine zMet.of (by decide +kernel) ⟨rfl, rfl⟩ (Nat.le_of_ble_eq_true rfl) (fun Y hl hD => ?_)
  show Z Y M_X10_two 0 0 0 [(0, .ref v0), (1, .int v1)] [] h _
  rw [f_X10_two]
  refine z_iload_n 1 (zat dd_X10_two 0 rfl) rfl rfl ?_
  refine z_iconst (x := (-1)) (zat dd_X10_two 1 rfl) (by decide) ?_
  refine z_icmp_ge (tgt := 10) (zat dd_X10_two 2 rfl) (by decide) ?_ ?_
  · refine z_aload_n 0 (zat dd_X10_two 6 rfl) rfl rfl ?_
    refine z_callV_I0 (M2 := M_X10_canSet) [] (fun l D _ _ => m_X10_canSet l D v0 h) u_X10_canSet ql_X10_183 qi_X10_canSet qs_X10_canSet (ci := 6) rfl rfl rfl (Nat.le_of_ble_eq_true rfl) (by decide) rfl rfl (zat dd_X10_two 7 rfl) (fun x1 h2 => ?_)
    refine z_istore_n (lv' := [(2, .int x1), (0, .ref v0), (1, .int v1)]) (zat dd_X10_two 8 rfl) rfl (Nat.le_of_ble_eq_true rfl) rfl ?_
    refine z_iconst (x := 0) (zat dd_X10_two 9 rfl) (by decide) ?_
    refine z_istore_n (lv' := [(3, .int 0), (2, .int x1), (0, .ref v0), (1, .int v1)]) (zat dd_X10_two 10 rfl) rfl (Nat.le_of_ble_eq_true rfl) rfl ?_
    refine z_iconst (x := 0) (zat dd_X10_two 11 rfl) (by decide) ?_
    refine z_istore (lv' := [(4, .int 0), (3, .int 0), (2, .int x1), (0, .ref v0), (1, .int v1)]) (zat dd_X10_two 12 rfl) (Nat.le_of_ble_eq_true rfl) rfl ?_
    refine z_sub [3, 4, 2, 1, 0] rfl ?_
    exact zb_X10_two_20 Y zF v0 v1 x1 0 0 h2
  · refine z_aload_n 0 (zat dd_X10_two 3 rfl) rfl rfl ?_
    refine z_callV_I0 (M2 := M_X10_bad) [] (fun l D _ _ => m_X10_bad l D v0 h) u_X10_bad ql_X10_85 qi_X10_bad qs_X10_bad (ci := 6) rfl rfl rfl (Nat.le_of_ble_eq_true rfl) (by decide) rfl rfl (zat dd_X10_two 4 rfl) (fun x3 h4 => ?_)
    exact z_iret rfl (zat dd_X10_two 5 rfl)
/-! PaperDollsModel.fraction(JJ)V -/
def L_X10_fraction : List (Nat × Instr × Nat) := [(0, .lload_n 1, 1), (1, .lstore 5, 2), (3, .lload_n 3, 1), (4, .lstore 7, 2), (6, .lload 7, 2), (8, .lconst 0, 1), (9, .lcmp, 1), (10, .ifCond .eq 21, 3), (13, .lload 5, 2), (15, .lload 7, 2), (17, .lrem, 1), (18, .lstore 9, 2), (20, .lload 7, 2), (22, .lstore 5, 2), (24, .lload 9, 2), (26, .lstore 7, 2), (28, .goto (-22), 3), (31, .aload_n 0, 1), (32, .lload_n 1, 1), (33, .lload 5, 2), (35, .ldiv, 1), (36, .putfield 232, 3), (39, .aload_n 0, 1), (40, .lload_n 3, 1), (41, .lload 5, 2), (43, .ldiv, 1), (44, .putfield 31, 3), (47, .return_, 1)]
theorem dd_X10_fraction : ∀ q ∈ L_X10_fraction, decode cX10_fraction q.1 = .ok q.2 := by decide +kernel
abbrev M_X10_fraction : zM := (cX10_fraction, RX10, "fraction", 11, none, 0, 0, 0)
theorem u_X10_fraction : zCal yX10_fraction (M_X10_fraction) 2 := ⟨(zmem 1160 (by decide +kernel) rfl : Cond.code yX10_fraction cX10_fraction 11 (none) ∈ zTb), zmem 63 (by decide +kernel) rfl, by decide +kernel, Nat.le_of_ble_eq_true rfl⟩
theorem qi_X10_fraction : Cond.instanceMethod yX10_fraction ∈ zTb := zmem 1159 (by decide +kernel) rfl
theorem qs_X10_fraction : Cond.selects yX10_fraction.cls yX10_fraction yX10_fraction ∈ zTb := zmem 53 (by decide +kernel) rfl
def f_X10_fraction_6 : Nat → Nat → Int64 → Int64 → Int64 → Int64 → zH → zR
  | 0, _, _, _, _, _, _ => none
  | n + 1, v0, v1, v3, v5, v7, h =>
  if (lg_cmp v7 0) = 0 then
  zdvJ v5 <|
  zpV h v0 6 10 (.long (v1 / v5)) fun h1 =>
  zdvJ v5 <|
  zpV h1 v0 6 11 (.long (v3 / v5)) fun h2 =>
  zrV h2
  else
  zdvJ v7 <|
  zlt (v5 - v5 / v7 * v7) fun x3 =>
  f_X10_fraction_6 n v0 v1 v3 v7 x3 h
set_option maxRecDepth 100000 in
set_option maxHeartbeats 4000000 in
theorem zb_X10_fraction_6 (Y : zY) : ∀ (n : Nat) (v0 : Nat) (v1 : Int64) (v3 : Int64) (v5 : Int64) (v7 : Int64) (h : zH), Z Y M_X10_fraction 0 0 6 [(0, .ref v0), (1, .long v1), (3, .long v3), (5, .long v5), (7, .long v7)] [] h (f_X10_fraction_6 n v0 v1 v3 v5 v7 h) := by
  intro n
  induction n with
  | zero =>
    intro v0 v1 v3 v5 v7 h
    rw [f_X10_fraction_6]
    exact z_none
  | succ n ih =>
    intro v0 v1 v3 v5 v7 h
    rw [f_X10_fraction_6]
    refine z_lload 4 (zat dd_X10_fraction 4 rfl) rfl ?_
    refine z_lconst (x := 0) (zat dd_X10_fraction 5 rfl) (by decide) ?_
    refine z_lcmp (zat dd_X10_fraction 6 rfl) ?_
    refine z_if_eq (tgt := 31) (zat dd_X10_fraction 7 rfl) (by decide) ?_ ?_
    · refine z_aload_n 0 (zat dd_X10_fraction 17 rfl) rfl rfl ?_
      refine z_lload_n 1 (zat dd_X10_fraction 18 rfl) rfl rfl ?_
      refine z_lload 3 (zat dd_X10_fraction 19 rfl) rfl ?_
      refine z_ldiv (zat dd_X10_fraction 20 rfl) ?_
      refine z_put fl_X10_232 rfl rfl (zat dd_X10_fraction 21 rfl) (fun h1 => ?_)
      refine z_aload_n 0 (zat dd_X10_fraction 22 rfl) rfl rfl ?_
      refine z_lload_n 2 (zat dd_X10_fraction 23 rfl) rfl rfl ?_
      refine z_lload 3 (zat dd_X10_fraction 24 rfl) rfl ?_
      refine z_ldiv (zat dd_X10_fraction 25 rfl) ?_
      refine z_put fl_X10_31 rfl rfl (zat dd_X10_fraction 26 rfl) (fun h2 => ?_)
      exact z_vret rfl (zat dd_X10_fraction 27 rfl)
    · refine z_lload 3 (zat dd_X10_fraction 8 rfl) rfl ?_
      refine z_lload 4 (zat dd_X10_fraction 9 rfl) rfl ?_
      refine z_lrem (zat dd_X10_fraction 10 rfl) ?_
      refine z_letJ (fun x3 => ?_)
      refine z_lstore (lv' := [(9, .long x3), (0, .ref v0), (1, .long v1), (3, .long v3), (5, .long v5), (7, .long v7)]) (zat dd_X10_fraction 11 rfl) (Nat.le_of_ble_eq_true rfl) rfl ?_
      refine z_lload 5 (zat dd_X10_fraction 12 rfl) rfl ?_
      refine z_lstore (lv' := [(5, .long v7), (9, .long x3), (0, .ref v0), (1, .long v1), (3, .long v3), (7, .long v7)]) (zat dd_X10_fraction 13 rfl) (Nat.le_of_ble_eq_true rfl) rfl ?_
      refine z_lload 1 (zat dd_X10_fraction 14 rfl) rfl ?_
      refine z_lstore (lv' := [(7, .long x3), (5, .long v7), (9, .long x3), (0, .ref v0), (1, .long v1), (3, .long v3)]) (zat dd_X10_fraction 15 rfl) (Nat.le_of_ble_eq_true rfl) rfl ?_
      refine z_goto (tgt := 6) (zat dd_X10_fraction 16 rfl) (by decide) ?_
      refine z_sub [3, 4, 5, 1, 0] rfl ?_
      exact ih v0 v1 v3 v7 x3 h
def f_X10_fraction (v0 : Nat) (v1 : Int64) (v3 : Int64) (h : zH) : zR :=
  f_X10_fraction_6 zF v0 v1 v3 v1 v3 h
set_option maxRecDepth 100000 in
set_option maxHeartbeats 4000000 in
theorem m_X10_fraction (l : Launch) (D : zD) (v0 : Nat) (v1 : Int64) (v3 : Int64) (h : zH) : zMet l D yX10_fraction M_X10_fraction [.ref v0, .long v1, .long v3] h (f_X10_fraction v0 v1 v3 h) := by
  refine zMet.of (by decide +kernel) ⟨rfl, rfl⟩ (Nat.le_of_ble_eq_true rfl) (fun Y hl hD => ?_)
  show Z Y M_X10_fraction 0 0 0 [(0, .ref v0), (1, .long v1), (3, .long v3)] [] h _
  rw [f_X10_fraction]
  refine z_lload_n 1 (zat dd_X10_fraction 0 rfl) rfl rfl ?_
  refine z_lstore (lv' := [(5, .long v1), (0, .ref v0), (1, .long v1), (3, .long v3)]) (zat dd_X10_fraction 1 rfl) (Nat.le_of_ble_eq_true rfl) rfl ?_
  refine z_lload_n 3 (zat dd_X10_fraction 2 rfl) rfl rfl ?_
  refine z_lstore (lv' := [(7, .long v3), (5, .long v1), (0, .ref v0), (1, .long v1), (3, .long v3)]) (zat dd_X10_fraction 3 rfl) (Nat.le_of_ble_eq_true rfl) rfl ?_
  refine z_sub [2, 3, 4, 1, 0] rfl ?_
  exact zb_X10_fraction_6 Y zF v0 v1 v3 v1 v3 h
/-! PaperDollsModel.luck(I)I -/
def L_X10_luck : List (Nat × Instr × Nat) := [(0, .iload_n 1, 1), (1, .i2l, 1), (2, .lconst 0, 1), (3, .ldc2_w 235, 3), (6, .invokestatic 48, 3), (9, .ifCond .ne 8, 3), (12, .aload_n 0, 1), (13, .invokevirtual 85, 3), (16, .ireturn, 1), (17, .iconst 0, 1), (18, .istore_n 2, 1), (19, .aload_n 0, 1), (20, .invokevirtual 106, 3), (23, .iconst 0, 1), (24, .istore_n 3, 1), (25, .iload_n 3, 1), (26, .aload_n 0, 1), (27, .getfield 7, 3), (30, .iconst 0, 1), (31, .iaload, 1), (32, .if_icmp .ge 29, 3), (35, .aload_n 0, 1), (36, .iload_n 3, 1), (37, .invokevirtual 56, 3), (40, .bipush (-101), 2), (42, .if_icmp .ne 13, 3), (45, .aload_n 0, 1), (46, .getfield 41, 3), (49, .iload_n 2, 1), (50, .iload_n 3, 1), (51, .iastore, 1), (52, .iinc 2 1, 3), (55, .iinc 3 1, 3), (58, .goto (-33), 3), (61, .iload_n 1, 1), (62, .iload_n 2, 1), (63, .if_icmp .ge 7, 3), (66, .iload_n 1, 1), (67, .goto 4, 3), (70, .iload_n 2, 1), (71, .istore_n 3, 1), (72, .iconst 1, 1), (73, .istore 4, 2), (75, .iconst 0, 1), (76, .istore 5, 2), (78, .iload 5, 2), (80, .iload_n 3, 1), (81, .if_icmp .ge 15, 3), (84, .iload 4, 2), (86, .iload_n 2, 1), (87, .imul, 1), (88, .istore 4, 2), (90, .iinc 5 1, 3), (93, .goto (-15), 3), (96, .iconst 0, 1), (97, .istore 5, 2), (99, .iconst 0, 1), (100, .istore 6, 2), (102, .iconst 0, 1), (103, .istore 7, 2), (105, .iload 7, 2), (107, .iload 4, 2), (109, .if_icmp .ge 160, 3), (112, .iload 7, 2), (114, .istore 8, 2), (116, .iconst 0, 1), (117, .istore 9, 2), (119, .iconst 1, 1), (120, .istore 10, 2), (122, .iconst 1, 1), (123, .istore 11, 2), (125, .aload_n 0, 1), (126, .invokevirtual 106, 3), (129, .iconst 0, 1), (130, .istore 12, 2), (132, .iload 12, 2), (134, .iload_n 3, 1), (135, .if_icmp .ge 84, 3), (138, .aload_n 0, 1), (139, .getfield 41, 3), (142, .iload 8, 2), (144, .iload_n 2, 1), (145, .irem, 1), (146, .iaload, 1), (147, .istore 13, 2), (149, .iload 8, 2), (151, .iload_n 2, 1), (152, .idiv, 1), (153, .istore 8, 2), (155, .iload 10, 2), (157, .ifCond .eq 17, 3), (160, .iload 9, 2), (162, .iload 13, 2), (164, .invokestatic 180, 3), (167, .ifCond .ne 7, 3), (170, .iconst 1, 1), (171, .goto 4, 3), (174, .iconst 0, 1), (175, .istore 10, 2), (177, .iload 9, 2), (179, .iconst 1, 1), (180, .iload 13, 2), (182, .ishl, 1), (183, .ior, 1), (184, .istore 9, 2), (186, .iload 11, 2), (188, .ifCond .eq 22, 3), (191, .iload 10, 2), (193, .ifCond .eq 17, 3), (196, .aload_n 0, 1), (197, .iconst 0, 1), (198, .iload 13, 2), (200, .invokevirtual 158, 3), (203, .ifCond .eq 7, 3), (206, .iconst 1, 1), (207, .goto 4, 3), (210, .iconst 0, 1), (211, .istore 11, 2), (213, .iinc 12 1, 3), (216, .goto (-84), 3), (219, .iload 6, 2), (221, .iload 10, 2), (223, .ifCond .eq 7, 3), (226, .iconst 1, 1), (227, .goto 4, 3), (230, .iconst 0, 1), (231, .iadd, 1), (232, .istore 6, 2), (234, .iload 5, 2), (236, .iload 10, 2), (238, .ifCond .eq 21, 3), (241, .iload 11, 2), (243, .ifCond .eq 16, 3), (246, .aload_n 0, 1), (247, .invokevirtual 207, 3), (250, .bipush 15, 2), (252, .if_icmp .ne 7, 3), (255, .iconst 1, 1), (256, .goto 4, 3), (259, .iconst 0, 1), (260, .iadd, 1), (261, .istore 5, 2), (263, .iinc 7 1, 3), (266, .goto (-161), 3), (269, .aload_n 0, 1), (270, .iload 5, 2), (272, .i2l, 1), (273, .iload 6, 2), (275, .i2l, 1), (276, .invokevirtual 237, 3), (279, .iconst 1, 1), (280, .ireturn, 1)]
theorem dd_X10_luck : ∀ q ∈ L_X10_luck, decode cX10_luck q.1 = .ok q.2 := by decide +kernel
abbrev M_X10_luck : zM := (cX10_luck, RX10, "luck", 14, some .int, 4, 0, 0)
theorem u_X10_luck : zCal yX10_luck (M_X10_luck) 1 := ⟨(zmem 1155 (by decide +kernel) rfl : Cond.code yX10_luck cX10_luck 14 (some .int) ∈ zTb), zmem 63 (by decide +kernel) rfl, by decide +kernel, Nat.le_of_ble_eq_true rfl⟩
theorem qi_X10_luck : Cond.instanceMethod yX10_luck ∈ zTb := zmem 1153 (by decide +kernel) rfl
theorem qs_X10_luck : Cond.selects yX10_luck.cls yX10_luck yX10_luck ∈ zTb := zmem 1154 (by decide +kernel) rfl
def f_X10_luck_260 (k105 : Nat → Int32 → Int32 → Int32 → Int32 → Int32 → Int32 → zH → zR) (v0 : Nat) (v2 : Int32) (v3 : Int32) (v4 : Int32) (v6 : Int32) (v7 : Int32) (t0 : Int32) (t1 : Int32) (h : zH) : zR :=
  zlt (t1 + t0) fun x1 =>
  k105 v0 v2 v3 v4 x1 v6 (v7 + 1) h
set_option maxRecDepth 100000 in
set_option maxHeartbeats 4000000 in
theorem zb_X10_luck_260 (Y : zY) (k105 : Nat → Int32 → Int32 → Int32 → Int32 → Int32 → Int32 → zH → zR) (hk105 : ∀ (v0 : Nat) (v2 : Int32) (v3 : Int32) (v4 : Int32) (v5 : Int32) (v6 : Int32) (v7 : Int32) (h : zH), Z Y M_X10_luck 0 0 105 [(0, .ref v0), (2, .int v2), (3, .int v3), (4, .int v4), (5, .int v5), (6, .int v6), (7, .int v7)] [] h (k105 v0 v2 v3 v4 v5 v6 v7 h)) (v0 : Nat) (v2 : Int32) (v3 : Int32) (v4 : Int32) (v6 : Int32) (v7 : Int32) (t0 : Int32) (t1 : Int32) (h : zH) : Z Y M_X10_luck 0 0 260 [(0, .ref v0), (2, .int v2), (3, .int v3), (4, .int v4), (6, .int v6), (7, .int v7)] [.int t0, .int t1] h (f_X10_luck_260 k105 v0 v2 v3 v4 v6 v7 t0 t1 h) := by
  rw [f_X10_luck_260]
  refine z_iadd (zat dd_X10_luck 140 rfl) ?_
  refine z_let (fun x1 => ?_)
  refine z_istore (lv' := [(5, .int x1), (0, .ref v0), (2, .int v2), (3, .int v3), (4, .int v4), (6, .int v6), (7, .int v7)]) (zat dd_X10_luck 141 rfl) (Nat.le_of_ble_eq_true rfl) rfl ?_
  refine z_iinc (y := v7 + 1) (lv' := [(7, .int (v7 + 1)), (5, .int x1), (0, .ref v0), (2, .int v2), (3, .int v3), (4, .int v4), (6, .int v6)]) 6 (zat dd_X10_luck 142 rfl) rfl rfl (Nat.le_of_ble_eq_true rfl) rfl ?_
  refine z_goto (tgt := 105) (zat dd_X10_luck 143 rfl) (by decide) ?_
  refine z_sub [2, 3, 4, 5, 1, 6, 0] rfl ?_
  exact hk105 v0 v2 v3 v4 x1 v6 (v7 + 1) h
def f_X10_luck_259 (k105 : Nat → Int32 → Int32 → Int32 → Int32 → Int32 → Int32 → zH → zR) (v0 : Nat) (v2 : Int32) (v3 : Int32) (v4 : Int32) (v6 : Int32) (v7 : Int32) (t0 : Int32) (h : zH) : zR :=
  f_X10_luck_260 k105 v0 v2 v3 v4 v6 v7 0 t0 h
set_option maxRecDepth 100000 in
set_option maxHeartbeats 4000000 in
theorem zb_X10_luck_259 (Y : zY) (k105 : Nat → Int32 → Int32 → Int32 → Int32 → Int32 → Int32 → zH → zR) (hk105 : ∀ (v0 : Nat) (v2 : Int32) (v3 : Int32) (v4 : Int32) (v5 : Int32) (v6 : Int32) (v7 : Int32) (h : zH), Z Y M_X10_luck 0 0 105 [(0, .ref v0), (2, .int v2), (3, .int v3), (4, .int v4), (5, .int v5), (6, .int v6), (7, .int v7)] [] h (k105 v0 v2 v3 v4 v5 v6 v7 h)) (v0 : Nat) (v2 : Int32) (v3 : Int32) (v4 : Int32) (v6 : Int32) (v7 : Int32) (t0 : Int32) (h : zH) : Z Y M_X10_luck 0 0 259 [(0, .ref v0), (2, .int v2), (3, .int v3), (4, .int v4), (6, .int v6), (7, .int v7)] [.int t0] h (f_X10_luck_259 k105 v0 v2 v3 v4 v6 v7 t0 h) := by
  rw [f_X10_luck_259]
  refine z_iconst (x := 0) (zat dd_X10_luck 139 rfl) (by decide) ?_
  exact zb_X10_luck_260 Y k105 hk105 v0 v2 v3 v4 v6 v7 0 t0 h
def f_X10_luck_231 (k105 : Nat → Int32 → Int32 → Int32 → Int32 → Int32 → Int32 → zH → zR) (v0 : Nat) (v2 : Int32) (v3 : Int32) (v4 : Int32) (v5 : Int32) (v7 : Int32) (v10 : Int32) (v11 : Int32) (t0 : Int32) (t1 : Int32) (h : zH) : zR :=
  zlt (t1 + t0) fun x1 =>
  if v10 = 0 then
  f_X10_luck_259 k105 v0 v2 v3 v4 x1 v7 v5 h
  else
  if v11 = 0 then
  f_X10_luck_259 k105 v0 v2 v3 v4 x1 v7 v5 h
  else
  zoc h v0 6 <|
  zcI (f_X10_covered v0 h) fun x2 h3 =>
  if x2 = 15 then
  f_X10_luck_260 k105 v0 v2 v3 v4 x1 v7 1 v5 h3
  else
  f_X10_luck_259 k105 v0 v2 v3 v4 x1 v7 v5 h3
set_option maxRecDepth 100000 in
set_option maxHeartbeats 4000000 in
theorem zb_X10_luck_231 (Y : zY) (k105 : Nat → Int32 → Int32 → Int32 → Int32 → Int32 → Int32 → zH → zR) (hk105 : ∀ (v0 : Nat) (v2 : Int32) (v3 : Int32) (v4 : Int32) (v5 : Int32) (v6 : Int32) (v7 : Int32) (h : zH), Z Y M_X10_luck 0 0 105 [(0, .ref v0), (2, .int v2), (3, .int v3), (4, .int v4), (5, .int v5), (6, .int v6), (7, .int v7)] [] h (k105 v0 v2 v3 v4 v5 v6 v7 h)) (v0 : Nat) (v2 : Int32) (v3 : Int32) (v4 : Int32) (v5 : Int32) (v7 : Int32) (v10 : Int32) (v11 : Int32) (t0 : Int32) (t1 : Int32) (h : zH) : Z Y M_X10_luck 0 0 231 [(0, .ref v0), (2, .int v2), (3, .int v3), (4, .int v4), (5, .int v5), (7, .int v7), (10, .int v10), (11, .int v11)] [.int t0, .int t1] h (f_X10_luck_231 k105 v0 v2 v3 v4 v5 v7 v10 v11 t0 t1 h) := by
  rw [f_X10_luck_231]
  refine z_iadd (zat dd_X10_luck 126 rfl) ?_
  refine z_let (fun x1 => ?_)
  refine z_istore (lv' := [(6, .int x1), (0, .ref v0), (2, .int v2), (3, .int v3), (4, .int v4), (5, .int v5), (7, .int v7), (10, .int v10), (11, .int v11)]) (zat dd_X10_luck 127 rfl) (Nat.le_of_ble_eq_true rfl) rfl ?_
  refine z_iload 5 (zat dd_X10_luck 128 rfl) rfl ?_
  refine z_iload 7 (zat dd_X10_luck 129 rfl) rfl ?_
  refine z_if_eq (tgt := 259) (zat dd_X10_luck 130 rfl) (by decide) ?_ ?_
  · refine z_sub [1, 2, 3, 4, 0, 6] rfl ?_
    exact zb_X10_luck_259 Y k105 hk105 v0 v2 v3 v4 x1 v7 v5 h
  · refine z_iload 8 (zat dd_X10_luck 131 rfl) rfl ?_
    refine z_if_eq (tgt := 259) (zat dd_X10_luck 132 rfl) (by decide) ?_ ?_
    · refine z_sub [1, 2, 3, 4, 0, 6] rfl ?_
      exact zb_X10_luck_259 Y k105 hk105 v0 v2 v3 v4 x1 v7 v5 h
    · refine z_aload_n 1 (zat dd_X10_luck 133 rfl) rfl rfl ?_
      refine z_callV_I0 (M2 := M_X10_covered) [] (fun l D _ _ => m_X10_covered l D v0 h) u_X10_covered ql_X10_207 qi_X10_covered qs_X10_covered (ci := 6) rfl rfl rfl (Nat.le_of_ble_eq_true rfl) (by decide) rfl rfl (zat dd_X10_luck 134 rfl) (fun x2 h3 => ?_)
      refine z_bipush (x := 15) (zat dd_X10_luck 135 rfl) (by decide) ?_
      refine z_icmp_ne (tgt := 259) (zat dd_X10_luck 136 rfl) (by decide) ?_ ?_
      · refine z_sub [1, 2, 3, 4, 0, 6] rfl ?_
        exact zb_X10_luck_259 Y k105 hk105 v0 v2 v3 v4 x1 v7 v5 h3
      · refine z_iconst (x := 1) (zat dd_X10_luck 137 rfl) (by decide) ?_
        refine z_goto (tgt := 260) (zat dd_X10_luck 138 rfl) (by decide) ?_
        refine z_sub [1, 2, 3, 4, 0, 6] rfl ?_
        exact zb_X10_luck_260 Y k105 hk105 v0 v2 v3 v4 x1 v7 1 v5 h3
def f_X10_luck_211 (k132 : Nat → Int32 → Int32 → Int32 → Int32 → Int32 → Int32 → Int32 → Int32 → Int32 → Int32 → Int32 → zH → zR) (v0 : Nat) (v2 : Int32) (v3 : Int32) (v4 : Int32) (v5 : Int32) (v6 : Int32) (v7 : Int32) (v8 : Int32) (v9 : Int32) (v10 : Int32) (v12 : Int32) (t0 : Int32) (h : zH) : zR :=
  k132 v0 v2 v3 v4 v5 v6 v7 v8 v9 v10 t0 (v12 + 1) h
set_option maxRecDepth 100000 in
set_option maxHeartbeats 4000000 in
theorem zb_X10_luck_211 (Y : zY) (k132 : Nat → Int32 → Int32 → Int32 → Int32 → Int32 → Int32 → Int32 → Int32 → Int32 → Int32 → Int32 → zH → zR) (hk132 : ∀ (v0 : Nat) (v2 : Int32) (v3 : Int32) (v4 : Int32) (v5 : Int32) (v6 : Int32) (v7 : Int32) (v8 : Int32) (v9 : Int32) (v10 : Int32) (v11 : Int32) (v12 : Int32) (h : zH), Z Y M_X10_luck 0 0 132 [(0, .ref v0), (2, .int v2), (3, .int v3), (4, .int v4), (5, .int v5), (6, .int v6), (7, .int v7), (8, .int v8), (9, .int v9), (10, .int v10), (11, .int v11), (12, .int v12)] [] h (k132 v0 v2 v3 v4 v5 v6 v7 v8 v9 v10 v11 v12 h)) (v0 : Nat) (v2 : Int32) (v3 : Int32) (v4 : Int32) (v5 : Int32) (v6 : Int32) (v7 : Int32) (v8 : Int32) (v9 : Int32) (v10 : Int32) (v12 : Int32) (t0 : Int32) (h : zH) : Z Y M_X10_luck 0 0 211 [(0, .ref v0), (2, .int v2), (3, .int v3), (4, .int v4), (5, .int v5), (6, .int v6), (7, .int v7), (8, .int v8), (9, .int v9), (10, .int v10), (12, .int v12)] [.int t0] h (f_X10_luck_211 k132 v0 v2 v3 v4 v5 v6 v7 v8 v9 v10 v12 t0 h) := by
  rw [f_X10_luck_211]
  refine z_istore (lv' := [(11, .int t0), (0, .ref v0), (2, .int v2), (3, .int v3), (4, .int v4), (5, .int v5), (6, .int v6), (7, .int v7), (8, .int v8), (9, .int v9), (10, .int v10), (12, .int v12)]) (zat dd_X10_luck 117 rfl) (Nat.le_of_ble_eq_true rfl) rfl ?_
  refine z_iinc (y := v12 + 1) (lv' := [(12, .int (v12 + 1)), (11, .int t0), (0, .ref v0), (2, .int v2), (3, .int v3), (4, .int v4), (5, .int v5), (6, .int v6), (7, .int v7), (8, .int v8), (9, .int v9), (10, .int v10)]) 11 (zat dd_X10_luck 118 rfl) rfl rfl (Nat.le_of_ble_eq_true rfl) rfl ?_
  refine z_goto (tgt := 132) (zat dd_X10_luck 119 rfl) (by decide) ?_
  refine z_sub [2, 3, 4, 5, 6, 7, 8, 9, 10, 11, 1, 0] rfl ?_
  exact hk132 v0 v2 v3 v4 v5 v6 v7 v8 v9 v10 t0 (v12 + 1) h
def f_X10_luck_210 (k132 : Nat → Int32 → Int32 → Int32 → Int32 → Int32 → Int32 → Int32 → Int32 → Int32 → Int32 → Int32 → zH → zR) (v0 : Nat) (v2 : Int32) (v3 : Int32) (v4 : Int32) (v5 : Int32) (v6 : Int32) (v7 : Int32) (v8 : Int32) (v9 : Int32) (v10 : Int32) (v12 : Int32) (h : zH) : zR :=
  f_X10_luck_211 k132 v0 v2 v3 v4 v5 v6 v7 v8 v9 v10 v12 0 h
set_option maxRecDepth 100000 in
set_option maxHeartbeats 4000000 in
theorem zb_X10_luck_210 (Y : zY) (k132 : Nat → Int32 → Int32 → Int32 → Int32 → Int32 → Int32 → Int32 → Int32 → Int32 → Int32 → Int32 → zH → zR) (hk132 : ∀ (v0 : Nat) (v2 : Int32) (v3 : Int32) (v4 : Int32) (v5 : Int32) (v6 : Int32) (v7 : Int32) (v8 : Int32) (v9 : Int32) (v10 : Int32) (v11 : Int32) (v12 : Int32) (h : zH), Z Y M_X10_luck 0 0 132 [(0, .ref v0), (2, .int v2), (3, .int v3), (4, .int v4), (5, .int v5), (6, .int v6), (7, .int v7), (8, .int v8), (9, .int v9), (10, .int v10), (11, .int v11), (12, .int v12)] [] h (k132 v0 v2 v3 v4 v5 v6 v7 v8 v9 v10 v11 v12 h)) (v0 : Nat) (v2 : Int32) (v3 : Int32) (v4 : Int32) (v5 : Int32) (v6 : Int32) (v7 : Int32) (v8 : Int32) (v9 : Int32) (v10 : Int32) (v12 : Int32) (h : zH) : Z Y M_X10_luck 0 0 210 [(0, .ref v0), (2, .int v2), (3, .int v3), (4, .int v4), (5, .int v5), (6, .int v6), (7, .int v7), (8, .int v8), (9, .int v9), (10, .int v10), (12, .int v12)] [] h (f_X10_luck_210 k132 v0 v2 v3 v4 v5 v6 v7 v8 v9 v10 v12 h) := by
  rw [f_X10_luck_210]
  refine z_iconst (x := 0) (zat dd_X10_luck 116 rfl) (by decide) ?_
  exact zb_X10_luck_211 Y k132 hk132 v0 v2 v3 v4 v5 v6 v7 v8 v9 v10 v12 0 h
def f_X10_luck_175 (k132 : Nat → Int32 → Int32 → Int32 → Int32 → Int32 → Int32 → Int32 → Int32 → Int32 → Int32 → Int32 → zH → zR) (v0 : Nat) (v2 : Int32) (v3 : Int32) (v4 : Int32) (v5 : Int32) (v6 : Int32) (v7 : Int32) (v8 : Int32) (v9 : Int32) (v11 : Int32) (v12 : Int32) (v13 : Int32) (t0 : Int32) (h : zH) : zR :=
  zlt (v9 ||| (1 <<< (v13 &&& 31))) fun x1 =>
  if v11 = 0 then
  f_X10_luck_210 k132 v0 v2 v3 v4 v5 v6 v7 v8 x1 t0 v12 h
  else
  if t0 = 0 then
  f_X10_luck_210 k132 v0 v2 v3 v4 v5 v6 v7 v8 x1 t0 v12 h
  else
  zoc h v0 6 <|
  zcI (f_X10_goMove v0 0 v13 h) fun x2 h3 =>
  if x2 = 0 then
  f_X10_luck_210 k132 v0 v2 v3 v4 v5 v6 v7 v8 x1 t0 v12 h3
  else
  f_X10_luck_211 k132 v0 v2 v3 v4 v5 v6 v7 v8 x1 t0 v12 1 h3
set_option maxRecDepth 100000 in
set_option maxHeartbeats 4000000 in
theorem zb_X10_luck_175 (Y : zY) (k132 : Nat → Int32 → Int32 → Int32 → Int32 → Int32 → Int32 → Int32 → Int32 → Int32 → Int32 → Int32 → zH → zR) (hk132 : ∀ (v0 : Nat) (v2 : Int32) (v3 : Int32) (v4 : Int32) (v5 : Int32) (v6 : Int32) (v7 : Int32) (v8 : Int32) (v9 : Int32) (v10 : Int32) (v11 : Int32) (v12 : Int32) (h : zH), Z Y M_X10_luck 0 0 132 [(0, .ref v0), (2, .int v2), (3, .int v3), (4, .int v4), (5, .int v5), (6, .int v6), (7, .int v7), (8, .int v8), (9, .int v9), (10, .int v10), (11, .int v11), (12, .int v12)] [] h (k132 v0 v2 v3 v4 v5 v6 v7 v8 v9 v10 v11 v12 h)) (v0 : Nat) (v2 : Int32) (v3 : Int32) (v4 : Int32) (v5 : Int32) (v6 : Int32) (v7 : Int32) (v8 : Int32) (v9 : Int32) (v11 : Int32) (v12 : Int32) (v13 : Int32) (t0 : Int32) (h : zH) : Z Y M_X10_luck 0 0 175 [(0, .ref v0), (2, .int v2), (3, .int v3), (4, .int v4), (5, .int v5), (6, .int v6), (7, .int v7), (8, .int v8), (9, .int v9), (11, .int v11), (12, .int v12), (13, .int v13)] [.int t0] h (f_X10_luck_175 k132 v0 v2 v3 v4 v5 v6 v7 v8 v9 v11 v12 v13 t0 h) := by
  rw [f_X10_luck_175]
  refine z_istore (lv' := [(10, .int t0), (0, .ref v0), (2, .int v2), (3, .int v3), (4, .int v4), (5, .int v5), (6, .int v6), (7, .int v7), (8, .int v8), (9, .int v9), (11, .int v11), (12, .int v12), (13, .int v13)]) (zat dd_X10_luck 98 rfl) (Nat.le_of_ble_eq_true rfl) rfl ?_
  refine z_iload 9 (zat dd_X10_luck 99 rfl) rfl ?_
  refine z_iconst (x := 1) (zat dd_X10_luck 100 rfl) (by decide) ?_
  refine z_iload 12 (zat dd_X10_luck 101 rfl) rfl ?_
  refine z_ishl (zat dd_X10_luck 102 rfl) ?_
  refine z_ior (zat dd_X10_luck 103 rfl) ?_
  refine z_let (fun x1 => ?_)
  refine z_istore (lv' := [(9, .int x1), (10, .int t0), (0, .ref v0), (2, .int v2), (3, .int v3), (4, .int v4), (5, .int v5), (6, .int v6), (7, .int v7), (8, .int v8), (11, .int v11), (12, .int v12), (13, .int v13)]) (zat dd_X10_luck 104 rfl) (Nat.le_of_ble_eq_true rfl) rfl ?_
  refine z_iload 10 (zat dd_X10_luck 105 rfl) rfl ?_
  refine z_if_eq (tgt := 210) (zat dd_X10_luck 106 rfl) (by decide) ?_ ?_
  · refine z_sub [2, 3, 4, 5, 6, 7, 8, 9, 0, 1, 11] rfl ?_
    exact zb_X10_luck_210 Y k132 hk132 v0 v2 v3 v4 v5 v6 v7 v8 x1 t0 v12 h
  · refine z_iload 1 (zat dd_X10_luck 107 rfl) rfl ?_
    refine z_if_eq (tgt := 210) (zat dd_X10_luck 108 rfl) (by decide) ?_ ?_
    · refine z_sub [2, 3, 4, 5, 6, 7, 8, 9, 0, 1, 11] rfl ?_
      exact zb_X10_luck_210 Y k132 hk132 v0 v2 v3 v4 v5 v6 v7 v8 x1 t0 v12 h
    · refine z_aload_n 2 (zat dd_X10_luck 109 rfl) rfl rfl ?_
      refine z_iconst (x := 0) (zat dd_X10_luck 110 rfl) (by decide) ?_
      refine z_iload 12 (zat dd_X10_luck 111 rfl) rfl ?_
      refine z_callV_I0 (M2 := M_X10_goMove) [.int 0, .int v13] (fun l D _ _ => m_X10_goMove l D v0 0 v13 h) u_X10_goMove ql_X10_158 qi_X10_goMove qs_X10_goMove (ci := 6) rfl rfl rfl (Nat.le_of_ble_eq_true rfl) (by decide) rfl rfl (zat dd_X10_luck 112 rfl) (fun x2 h3 => ?_)
      refine z_if_eq (tgt := 210) (zat dd_X10_luck 113 rfl) (by decide) ?_ ?_
      · refine z_sub [2, 3, 4, 5, 6, 7, 8, 9, 0, 1, 11] rfl ?_
        exact zb_X10_luck_210 Y k132 hk132 v0 v2 v3 v4 v5 v6 v7 v8 x1 t0 v12 h3
      · refine z_iconst (x := 1) (zat dd_X10_luck 114 rfl) (by decide) ?_
        refine z_goto (tgt := 211) (zat dd_X10_luck 115 rfl) (by decide) ?_
        refine z_sub [2, 3, 4, 5, 6, 7, 8, 9, 0, 1, 11] rfl ?_
        exact zb_X10_luck_211 Y k132 hk132 v0 v2 v3 v4 v5 v6 v7 v8 x1 t0 v12 1 h3
def f_X10_luck_174 (k132 : Nat → Int32 → Int32 → Int32 → Int32 → Int32 → Int32 → Int32 → Int32 → Int32 → Int32 → Int32 → zH → zR) (v0 : Nat) (v2 : Int32) (v3 : Int32) (v4 : Int32) (v5 : Int32) (v6 : Int32) (v7 : Int32) (v8 : Int32) (v9 : Int32) (v11 : Int32) (v12 : Int32) (v13 : Int32) (h : zH) : zR :=
  f_X10_luck_175 k132 v0 v2 v3 v4 v5 v6 v7 v8 v9 v11 v12 v13 0 h
set_option maxRecDepth 100000 in
set_option maxHeartbeats 4000000 in
theorem zb_X10_luck_174 (Y : zY) (k132 : Nat → Int32 → Int32 → Int32 → Int32 → Int32 → Int32 → Int32 → Int32 → Int32 → Int32 → Int32 → zH → zR) (hk132 : ∀ (v0 : Nat) (v2 : Int32) (v3 : Int32) (v4 : Int32) (v5 : Int32) (v6 : Int32) (v7 : Int32) (v8 : Int32) (v9 : Int32) (v10 : Int32) (v11 : Int32) (v12 : Int32) (h : zH), Z Y M_X10_luck 0 0 132 [(0, .ref v0), (2, .int v2), (3, .int v3), (4, .int v4), (5, .int v5), (6, .int v6), (7, .int v7), (8, .int v8), (9, .int v9), (10, .int v10), (11, .int v11), (12, .int v12)] [] h (k132 v0 v2 v3 v4 v5 v6 v7 v8 v9 v10 v11 v12 h)) (v0 : Nat) (v2 : Int32) (v3 : Int32) (v4 : Int32) (v5 : Int32) (v6 : Int32) (v7 : Int32) (v8 : Int32) (v9 : Int32) (v11 : Int32) (v12 : Int32) (v13 : Int32) (h : zH) : Z Y M_X10_luck 0 0 174 [(0, .ref v0), (2, .int v2), (3, .int v3), (4, .int v4), (5, .int v5), (6, .int v6), (7, .int v7), (8, .int v8), (9, .int v9), (11, .int v11), (12, .int v12), (13, .int v13)] [] h (f_X10_luck_174 k132 v0 v2 v3 v4 v5 v6 v7 v8 v9 v11 v12 v13 h) := by
  rw [f_X10_luck_174]
  refine z_iconst (x := 0) (zat dd_X10_luck 97 rfl) (by decide) ?_
  exact zb_X10_luck_175 Y k132 hk132 v0 v2 v3 v4 v5 v6 v7 v8 v9 v11 v12 v13 0 h
def f_X10_luck_132 (k105 : Nat → Int32 → Int32 → Int32 → Int32 → Int32 → Int32 → zH → zR) : Nat → Nat → Int32 → Int32 → Int32 → Int32 → Int32 → Int32 → Int32 → Int32 → Int32 → Int32 → Int32 → zH → zR
  | 0, _, _, _, _, _, _, _, _, _, _, _, _, _ => none
  | n + 1, v0, v2, v3, v4, v5, v6, v7, v8, v9, v10, v11, v12, h =>
  if v3 ≤ v12 then
  if v10 = 0 then
  f_X10_luck_231 k105 v0 v2 v3 v4 v5 v7 v10 v11 0 v6 h
  else
  f_X10_luck_231 k105 v0 v2 v3 v4 v5 v7 v10 v11 1 v6 h
  else
  zgR h v0 6 18 fun a1 =>
  zdv v2 <|
  zaI h a1 0 (v8 - v8 / v2 * v2) fun x2 =>
  zdv v2 <|
  zlt (v8 / v2) fun x3 =>
  if v10 = 0 then
  f_X10_luck_174 (f_X10_luck_132 k105 n) v0 v2 v3 v4 v5 v6 v7 x3 v9 v11 v12 x2 h
  else
  zcI (f_X10_has v9 x2 h) fun x4 h5 =>
  if x4 = 0 then
  f_X10_luck_175 (f_X10_luck_132 k105 n) v0 v2 v3 v4 v5 v6 v7 x3 v9 v11 v12 x2 1 h5
  else
  f_X10_luck_174 (f_X10_luck_132 k105 n) v0 v2 v3 v4 v5 v6 v7 x3 v9 v11 v12 x2 h5
set_option maxRecDepth 100000 in
set_option maxHeartbeats 4000000 in
theorem zb_X10_luck_132 (Y : zY) (k105 : Nat → Int32 → Int32 → Int32 → Int32 → Int32 → Int32 → zH → zR) (hk105 : ∀ (v0 : Nat) (v2 : Int32) (v3 : Int32) (v4 : Int32) (v5 : Int32) (v6 : Int32) (v7 : Int32) (h : zH), Z Y M_X10_luck 0 0 105 [(0, .ref v0), (2, .int v2), (3, .int v3), (4, .int v4), (5, .int v5), (6, .int v6), (7, .int v7)] [] h (k105 v0 v2 v3 v4 v5 v6 v7 h)) : ∀ (n : Nat) (v0 : Nat) (v2 : Int32) (v3 : Int32) (v4 : Int32) (v5 : Int32) (v6 : Int32) (v7 : Int32) (v8 : Int32) (v9 : Int32) (v10 : Int32) (v11 : Int32) (v12 : Int32) (h : zH), Z Y M_X10_luck 0 0 132 [(0, .ref v0), (2, .int v2), (3, .int v3), (4, .int v4), (5, .int v5), (6, .int v6), (7, .int v7), (8, .int v8), (9, .int v9), (10, .int v10), (11, .int v11), (12, .int v12)] [] h (f_X10_luck_132 k105 n v0 v2 v3 v4 v5 v6 v7 v8 v9 v10 v11 v12 h) := by
  intro n
  induction n with
  | zero =>
    intro v0 v2 v3 v4 v5 v6 v7 v8 v9 v10 v11 v12 h
    rw [f_X10_luck_132]
    exact z_none
  | succ n ih =>
    intro v0 v2 v3 v4 v5 v6 v7 v8 v9 v10 v11 v12 h
    rw [f_X10_luck_132]
    refine z_iload 11 (zat dd_X10_luck 75 rfl) rfl ?_
    refine z_iload_n 2 (zat dd_X10_luck 76 rfl) rfl rfl ?_
    refine z_icmp_ge (tgt := 219) (zat dd_X10_luck 77 rfl) (by decide) ?_ ?_
    · refine z_iload 5 (zat dd_X10_luck 120 rfl) rfl ?_
      refine z_iload 9 (zat dd_X10_luck 121 rfl) rfl ?_
      refine z_if_eq (tgt := 230) (zat dd_X10_luck 122 rfl) (by decide) ?_ ?_
      · refine z_iconst (x := 0) (zat dd_X10_luck 125 rfl) (by decide) ?_
        refine z_sub [0, 1, 2, 3, 4, 6, 9, 10] rfl ?_
        exact zb_X10_luck_231 Y k105 hk105 v0 v2 v3 v4 v5 v7 v10 v11 0 v6 h
      · refine z_iconst (x := 1) (zat dd_X10_luck 123 rfl) (by decide) ?_
        refine z_goto (tgt := 231) (zat dd_X10_luck 124 rfl) (by decide) ?_
        refine z_sub [0, 1, 2, 3, 4, 6, 9, 10] rfl ?_
        exact zb_X10_luck_231 Y k105 hk105 v0 v2 v3 v4 v5 v7 v10 v11 1 v6 h
    · refine z_aload_n 0 (zat dd_X10_luck 78 rfl) rfl rfl ?_
      refine z_getR fl_X10_41 (zat dd_X10_luck 79 rfl) (fun a1 => ?_)
      refine z_iload 7 (zat dd_X10_luck 80 rfl) rfl ?_
      refine z_iload_n 1 (zat dd_X10_luck 81 rfl) rfl rfl ?_
      refine z_irem (zat dd_X10_luck 82 rfl) ?_
      refine z_iald (zat dd_X10_luck 83 rfl) (fun x2 => ?_)
      refine z_istore (lv' := [(13, .int x2), (0, .ref v0), (2, .int v2), (3, .int v3), (4, .int v4), (5, .int v5), (6, .int v6), (7, .int v7), (8, .int v8), (9, .int v9), (10, .int v10), (11, .int v11), (12, .int v12)]) (zat dd_X10_luck 84 rfl) (Nat.le_of_ble_eq_true rfl) rfl ?_
      refine z_iload 8 (zat dd_X10_luck 85 rfl) rfl ?_
      refine z_iload_n 2 (zat dd_X10_luck 86 rfl) rfl rfl ?_
      refine z_idiv (zat dd_X10_luck 87 rfl) ?_
      refine z_let (fun x3 => ?_)
      refine z_istore (lv' := [(8, .int x3), (13, .int x2), (0, .ref v0), (2, .int v2), (3, .int v3), (4, .int v4), (5, .int v5), (6, .int v6), (7, .int v7), (9, .int v9), (10, .int v10), (11, .int v11), (12, .int v12)]) (zat dd_X10_luck 88 rfl) (Nat.le_of_ble_eq_true rfl) rfl ?_
      refine z_iload 10 (zat dd_X10_luck 89 rfl) rfl ?_
      refine z_if_eq (tgt := 174) (zat dd_X10_luck 90 rfl) (by decide) ?_ ?_
      · refine z_sub [2, 3, 4, 5, 6, 7, 8, 0, 9, 11, 12, 1] rfl ?_
        exact zb_X10_luck_174 Y (f_X10_luck_132 k105 n) ih v0 v2 v3 v4 v5 v6 v7 x3 v9 v11 v12 x2 h
      · refine z_iload 9 (zat dd_X10_luck 91 rfl) rfl ?_
        refine z_iload 1 (zat dd_X10_luck 92 rfl) rfl ?_
        refine z_callS_I0 (M2 := M_X10_has) [.int v9, .int x2] (fun l D _ _ => m_X10_has l D v9 x2 h) u_X10_has ql_X10_180 qi_X10_has rfl rfl (Nat.le_of_ble_eq_true rfl) (by decide) rfl rfl (zat dd_X10_luck 93 rfl) (fun x4 h5 => ?_)
        refine z_if_ne (tgt := 174) (zat dd_X10_luck 94 rfl) (by decide) ?_ ?_
        · refine z_sub [2, 3, 4, 5, 6, 7, 8, 0, 9, 11, 12, 1] rfl ?_
          exact zb_X10_luck_174 Y (f_X10_luck_132 k105 n) ih v0 v2 v3 v4 v5 v6 v7 x3 v9 v11 v12 x2 h5
        · refine z_iconst (x := 1) (zat dd_X10_luck 95 rfl) (by decide) ?_
          refine z_goto (tgt := 175) (zat dd_X10_luck 96 rfl) (by decide) ?_
          refine z_sub [2, 3, 4, 5, 6, 7, 8, 0, 9, 11, 12, 1] rfl ?_
          exact zb_X10_luck_175 Y (f_X10_luck_132 k105 n) ih v0 v2 v3 v4 v5 v6 v7 x3 v9 v11 v12 x2 1 h5
def f_X10_luck_105 : Nat → Nat → Int32 → Int32 → Int32 → Int32 → Int32 → Int32 → zH → zR
  | 0, _, _, _, _, _, _, _, _ => none
  | n + 1, v0, v2, v3, v4, v5, v6, v7, h =>
  if v4 ≤ v7 then
  zoc h v0 6 <|
  zcV (f_X10_fraction v0 ((v5 : Int32).toInt64) ((v6 : Int32).toInt64) h) fun h1 =>
  zrI 1 h1
  else
  zoc h v0 6 <|
  zcV (f_X10_aside v0 h) fun h2 =>
  f_X10_luck_132 (f_X10_luck_105 n) zF v0 v2 v3 v4 v5 v6 v7 v7 0 1 1 0 h2
set_option maxRecDepth 100000 in
set_option maxHeartbeats 4000000 in
theorem zb_X10_luck_105 (Y : zY) : ∀ (n : Nat) (v0 : Nat) (v2 : Int32) (v3 : Int32) (v4 : Int32) (v5 : Int32) (v6 : Int32) (v7 : Int32) (h : zH), Z Y M_X10_luck 0 0 105 [(0, .ref v0), (2, .int v2), (3, .int v3), (4, .int v4), (5, .int v5), (6, .int v6), (7, .int v7)] [] h (f_X10_luck_105 n v0 v2 v3 v4 v5 v6 v7 h) := by
  intro n
  induction n with
  | zero =>
    intro v0 v2 v3 v4 v5 v6 v7 h
    rw [f_X10_luck_105]
    exact z_none
  | succ n ih =>
    intro v0 v2 v3 v4 v5 v6 v7 h
    rw [f_X10_luck_105]
    refine z_iload 6 (zat dd_X10_luck 60 rfl) rfl ?_
    refine z_iload 3 (zat dd_X10_luck 61 rfl) rfl ?_
    refine z_icmp_ge (tgt := 269) (zat dd_X10_luck 62 rfl) (by decide) ?_ ?_
    · refine z_aload_n 0 (zat dd_X10_luck 144 rfl) rfl rfl ?_
      refine z_iload 4 (zat dd_X10_luck 145 rfl) rfl ?_
      refine z_i2l (zat dd_X10_luck 146 rfl) ?_
      refine z_iload 5 (zat dd_X10_luck 147 rfl) rfl ?_
      refine z_i2l (zat dd_X10_luck 148 rfl) ?_
      refine z_callV_V0 (M2 := M_X10_fraction) [.long ((v5 : Int32).toInt64), .long ((v6 : Int32).toInt64)] (fun l D _ _ => m_X10_fraction l D v0 ((v5 : Int32).toInt64) ((v6 : Int32).toInt64) h) u_X10_fraction ql_X10_237 qi_X10_fraction qs_X10_fraction (ci := 6) rfl rfl rfl (Nat.le_of_ble_eq_true rfl) (by decide) rfl rfl (zat dd_X10_luck 149 rfl) (fun h1 => ?_)
      refine z_iconst (x := 1) (zat dd_X10_luck 150 rfl) (by decide) ?_
      exact z_iret rfl (zat dd_X10_luck 151 rfl)
    · refine z_iload 6 (zat dd_X10_luck 63 rfl) rfl ?_
      refine z_istore (lv' := [(8, .int v7), (0, .ref v0), (2, .int v2), (3, .int v3), (4, .int v4), (5, .int v5), (6, .int v6), (7, .int v7)]) (zat dd_X10_luck 64 rfl) (Nat.le_of_ble_eq_true rfl) rfl ?_
      refine z_iconst (x := 0) (zat dd_X10_luck 65 rfl) (by decide) ?_
      refine z_istore (lv' := [(9, .int 0), (8, .int v7), (0, .ref v0), (2, .int v2), (3, .int v3), (4, .int v4), (5, .int v5), (6, .int v6), (7, .int v7)]) (zat dd_X10_luck 66 rfl) (Nat.le_of_ble_eq_true rfl) rfl ?_
      refine z_iconst (x := 1) (zat dd_X10_luck 67 rfl) (by decide) ?_
      refine z_istore (lv' := [(10, .int 1), (9, .int 0), (8, .int v7), (0, .ref v0), (2, .int v2), (3, .int v3), (4, .int v4), (5, .int v5), (6, .int v6), (7, .int v7)]) (zat dd_X10_luck 68 rfl) (Nat.le_of_ble_eq_true rfl) rfl ?_
      refine z_iconst (x := 1) (zat dd_X10_luck 69 rfl) (by decide) ?_
      refine z_istore (lv' := [(11, .int 1), (10, .int 1), (9, .int 0), (8, .int v7), (0, .ref v0), (2, .int v2), (3, .int v3), (4, .int v4), (5, .int v5), (6, .int v6), (7, .int v7)]) (zat dd_X10_luck 70 rfl) (Nat.le_of_ble_eq_true rfl) rfl ?_
      refine z_aload_n 4 (zat dd_X10_luck 71 rfl) rfl rfl ?_
      refine z_callV_V0 (M2 := M_X10_aside) [] (fun l D _ _ => m_X10_aside l D v0 h) u_X10_aside ql_X10_106 qi_X10_aside qs_X10_aside (ci := 6) rfl rfl rfl (Nat.le_of_ble_eq_true rfl) (by decide) rfl rfl (zat dd_X10_luck 72 rfl) (fun h2 => ?_)
      refine z_iconst (x := 0) (zat dd_X10_luck 73 rfl) (by decide) ?_
      refine z_istore (lv' := [(12, .int 0), (11, .int 1), (10, .int 1), (9, .int 0), (8, .int v7), (0, .ref v0), (2, .int v2), (3, .int v3), (4, .int v4), (5, .int v5), (6, .int v6), (7, .int v7)]) (zat dd_X10_luck 74 rfl) (Nat.le_of_ble_eq_true rfl) rfl ?_
      refine z_sub [5, 6, 7, 8, 9, 10, 11, 4, 3, 2, 1, 0] rfl ?_
      exact zb_X10_luck_132 Y (f_X10_luck_105 n) ih zF v0 v2 v3 v4 v5 v6 v7 v7 0 1 1 0 h2
def f_X10_luck_78 : Nat → Nat → Int32 → Int32 → Int32 → Int32 → zH → zR
  | 0, _, _, _, _, _, _ => none
  | n + 1, v0, v2, v3, v4, v5, h =>
  if v3 ≤ v5 then
  f_X10_luck_105 zF v0 v2 v3 v4 0 0 0 h
  else
  zlt (v4 * v2) fun x1 =>
  f_X10_luck_78 n v0 v2 v3 x1 (v5 + 1) h
set_option maxRecDepth 100000 in
set_option maxHeartbeats 4000000 in
theorem zb_X10_luck_78 (Y : zY) : ∀ (n : Nat) (v0 : Nat) (v2 : Int32) (v3 : Int32) (v4 : Int32) (v5 : Int32) (h : zH), Z Y M_X10_luck 0 0 78 [(0, .ref v0), (2, .int v2), (3, .int v3), (4, .int v4), (5, .int v5)] [] h (f_X10_luck_78 n v0 v2 v3 v4 v5 h) := by
  intro n
  induction n with
  | zero =>
    intro v0 v2 v3 v4 v5 h
    rw [f_X10_luck_78]
    exact z_none
  | succ n ih =>
    intro v0 v2 v3 v4 v5 h
    rw [f_X10_luck_78]
    refine z_iload 4 (zat dd_X10_luck 45 rfl) rfl ?_
    refine z_iload_n 2 (zat dd_X10_luck 46 rfl) rfl rfl ?_
    refine z_icmp_ge (tgt := 96) (zat dd_X10_luck 47 rfl) (by decide) ?_ ?_
    · refine z_iconst (x := 0) (zat dd_X10_luck 54 rfl) (by decide) ?_
      refine z_istore (lv' := [(5, .int 0), (0, .ref v0), (2, .int v2), (3, .int v3), (4, .int v4)]) (zat dd_X10_luck 55 rfl) (Nat.le_of_ble_eq_true rfl) rfl ?_
      refine z_iconst (x := 0) (zat dd_X10_luck 56 rfl) (by decide) ?_
      refine z_istore (lv' := [(6, .int 0), (5, .int 0), (0, .ref v0), (2, .int v2), (3, .int v3), (4, .int v4)]) (zat dd_X10_luck 57 rfl) (Nat.le_of_ble_eq_true rfl) rfl ?_
      refine z_iconst (x := 0) (zat dd_X10_luck 58 rfl) (by decide) ?_
      refine z_istore (lv' := [(7, .int 0), (6, .int 0), (5, .int 0), (0, .ref v0), (2, .int v2), (3, .int v3), (4, .int v4)]) (zat dd_X10_luck 59 rfl) (Nat.le_of_ble_eq_true rfl) rfl ?_
      refine z_sub [3, 4, 5, 6, 2, 1, 0] rfl ?_
      exact zb_X10_luck_105 Y zF v0 v2 v3 v4 0 0 0 h
    · refine z_iload 3 (zat dd_X10_luck 48 rfl) rfl ?_
      refine z_iload_n 1 (zat dd_X10_luck 49 rfl) rfl rfl ?_
      refine z_imul (zat dd_X10_luck 50 rfl) ?_
      refine z_let (fun x1 => ?_)
      refine z_istore (lv' := [(4, .int x1), (0, .ref v0), (2, .int v2), (3, .int v3), (5, .int v5)]) (zat dd_X10_luck 51 rfl) (Nat.le_of_ble_eq_true rfl) rfl ?_
      refine z_iinc (y := v5 + 1) (lv' := [(5, .int (v5 + 1)), (4, .int x1), (0, .ref v0), (2, .int v2), (3, .int v3)]) 4 (zat dd_X10_luck 52 rfl) rfl rfl (Nat.le_of_ble_eq_true rfl) rfl ?_
      refine z_goto (tgt := 78) (zat dd_X10_luck 53 rfl) (by decide) ?_
      refine z_sub [2, 3, 4, 1, 0] rfl ?_
      exact ih v0 v2 v3 x1 (v5 + 1) h
def f_X10_luck_71 (v0 : Nat) (v2 : Int32) (t0 : Int32) (h : zH) : zR :=
  f_X10_luck_78 zF v0 v2 t0 1 0 h
set_option maxRecDepth 100000 in
set_option maxHeartbeats 4000000 in
theorem zb_X10_luck_71 (Y : zY) (v0 : Nat) (v2 : Int32) (t0 : Int32) (h : zH) : Z Y M_X10_luck 0 0 71 [(0, .ref v0), (2, .int v2)] [.int t0] h (f_X10_luck_71 v0 v2 t0 h) := by
  rw [f_X10_luck_71]
  refine z_istore_n (lv' := [(3, .int t0), (0, .ref v0), (2, .int v2)]) (zat dd_X10_luck 40 rfl) rfl (Nat.le_of_ble_eq_true rfl) rfl ?_
  refine z_iconst (x := 1) (zat dd_X10_luck 41 rfl) (by decide) ?_
  refine z_istore (lv' := [(4, .int 1), (3, .int t0), (0, .ref v0), (2, .int v2)]) (zat dd_X10_luck 42 rfl) (Nat.le_of_ble_eq_true rfl) rfl ?_
  refine z_iconst (x := 0) (zat dd_X10_luck 43 rfl) (by decide) ?_
  refine z_istore (lv' := [(5, .int 0), (4, .int 1), (3, .int t0), (0, .ref v0), (2, .int v2)]) (zat dd_X10_luck 44 rfl) (Nat.le_of_ble_eq_true rfl) rfl ?_
  refine z_sub [3, 4, 2, 1, 0] rfl ?_
  exact zb_X10_luck_78 Y zF v0 v2 t0 1 0 h
def f_X10_luck_55 (k25 : Nat → Int32 → Int32 → Int32 → zH → zR) (v0 : Nat) (v1 : Int32) (v2 : Int32) (v3 : Int32) (h : zH) : zR :=
  k25 v0 v1 v2 (v3 + 1) h
set_option maxRecDepth 100000 in
set_option maxHeartbeats 4000000 in
theorem zb_X10_luck_55 (Y : zY) (k25 : Nat → Int32 → Int32 → Int32 → zH → zR) (hk25 : ∀ (v0 : Nat) (v1 : Int32) (v2 : Int32) (v3 : Int32) (h : zH), Z Y M_X10_luck 0 0 25 [(0, .ref v0), (1, .int v1), (2, .int v2), (3, .int v3)] [] h (k25 v0 v1 v2 v3 h)) (v0 : Nat) (v1 : Int32) (v2 : Int32) (v3 : Int32) (h : zH) : Z Y M_X10_luck 0 0 55 [(0, .ref v0), (1, .int v1), (2, .int v2), (3, .int v3)] [] h (f_X10_luck_55 k25 v0 v1 v2 v3 h) := by
  rw [f_X10_luck_55]
  refine z_iinc (y := v3 + 1) (lv' := [(3, .int (v3 + 1)), (0, .ref v0), (1, .int v1), (2, .int v2)]) 3 (zat dd_X10_luck 32 rfl) rfl rfl (Nat.le_of_ble_eq_true rfl) rfl ?_
  refine z_goto (tgt := 25) (zat dd_X10_luck 33 rfl) (by decide) ?_
  refine z_sub [1, 2, 3, 0] rfl ?_
  exact hk25 v0 v1 v2 (v3 + 1) h
def f_X10_luck_25 : Nat → Nat → Int32 → Int32 → Int32 → zH → zR
  | 0, _, _, _, _, _ => none
  | n + 1, v0, v1, v2, v3, h =>
  zgR h v0 6 0 fun a1 =>
  zaI h a1 0 0 fun x2 =>
  if x2 ≤ v3 then
  if v2 ≤ v1 then
  f_X10_luck_71 v0 v2 v2 h
  else
  f_X10_luck_71 v0 v2 v1 h
  else
  zoc h v0 6 <|
  zcI (f_X10_placeOf v0 v3 h) fun x3 h4 =>
  if x3 = (-101) then
  zgR h4 v0 6 18 fun a5 =>
  zsI h4 a5 0 v2 v3 fun h6 =>
  f_X10_luck_55 (f_X10_luck_25 n) v0 v1 (v2 + 1) v3 h6
  else
  f_X10_luck_55 (f_X10_luck_25 n) v0 v1 v2 v3 h4
set_option maxRecDepth 100000 in
set_option maxHeartbeats 4000000 in
theorem zb_X10_luck_25 (Y : zY) : ∀ (n : Nat) (v0 : Nat) (v1 : Int32) (v2 : Int32) (v3 : Int32) (h : zH), Z Y M_X10_luck 0 0 25 [(0, .ref v0), (1, .int v1), (2, .int v2), (3, .int v3)] [] h (f_X10_luck_25 n v0 v1 v2 v3 h) := by
  intro n
  induction n with
  | zero =>
    intro v0 v1 v2 v3 h
    rw [f_X10_luck_25]
    exact z_none
  | succ n ih =>
    intro v0 v1 v2 v3 h
    rw [f_X10_luck_25]
    refine z_iload_n 3 (zat dd_X10_luck 15 rfl) rfl rfl ?_
    refine z_aload_n 0 (zat dd_X10_luck 16 rfl) rfl rfl ?_
    refine z_getR fl_X10_7 (zat dd_X10_luck 17 rfl) (fun a1 => ?_)
    refine z_iconst (x := 0) (zat dd_X10_luck 18 rfl) (by decide) ?_
    refine z_iald (zat dd_X10_luck 19 rfl) (fun x2 => ?_)
    refine z_icmp_ge (tgt := 61) (zat dd_X10_luck 20 rfl) (by decide) ?_ ?_
    · refine z_iload_n 1 (zat dd_X10_luck 34 rfl) rfl rfl ?_
      refine z_iload_n 2 (zat dd_X10_luck 35 rfl) rfl rfl ?_
      refine z_icmp_ge (tgt := 70) (zat dd_X10_luck 36 rfl) (by decide) ?_ ?_
      · refine z_iload_n 2 (zat dd_X10_luck 39 rfl) rfl rfl ?_
        refine z_sub [0, 2] rfl ?_
        exact zb_X10_luck_71 Y v0 v2 v2 h
      · refine z_iload_n 1 (zat dd_X10_luck 37 rfl) rfl rfl ?_
        refine z_goto (tgt := 71) (zat dd_X10_luck 38 rfl) (by decide) ?_
        refine z_sub [0, 2] rfl ?_
        exact zb_X10_luck_71 Y v0 v2 v1 h
    · refine z_aload_n 0 (zat dd_X10_luck 21 rfl) rfl rfl ?_
      refine z_iload_n 3 (zat dd_X10_luck 22 rfl) rfl rfl ?_
      refine z_callV_I0 (M2 := M_X10_placeOf) [.int v3] (fun l D _ _ => m_X10_placeOf l D v0 v3 h) u_X10_placeOf ql_X10_56 qi_X10_placeOf qs_X10_placeOf (ci := 6) rfl rfl rfl (Nat.le_of_ble_eq_true rfl) (by decide) rfl rfl (zat dd_X10_luck 23 rfl) (fun x3 h4 => ?_)
      refine z_bipush (x := (-101)) (zat dd_X10_luck 24 rfl) (by decide) ?_
      refine z_icmp_ne (tgt := 55) (zat dd_X10_luck 25 rfl) (by decide) ?_ ?_
      · exact zb_X10_luck_55 Y (f_X10_luck_25 n) ih v0 v1 v2 v3 h4
      · refine z_aload_n 0 (zat dd_X10_luck 26 rfl) rfl rfl ?_
        refine z_getR fl_X10_41 (zat dd_X10_luck 27 rfl) (fun a5 => ?_)
        refine z_iload_n 2 (zat dd_X10_luck 28 rfl) rfl rfl ?_
        refine z_iload_n 3 (zat dd_X10_luck 29 rfl) rfl rfl ?_
        refine z_iast (zat dd_X10_luck 30 rfl) (fun h6 => ?_)
        refine z_iinc (y := v2 + 1) (lv' := [(2, .int (v2 + 1)), (0, .ref v0), (1, .int v1), (3, .int v3)]) 2 (zat dd_X10_luck 31 rfl) rfl rfl (Nat.le_of_ble_eq_true rfl) rfl ?_
        refine z_sub [1, 2, 0, 3] rfl ?_
        exact zb_X10_luck_55 Y (f_X10_luck_25 n) ih v0 v1 (v2 + 1) v3 h6
def f_X10_luck (v0 : Nat) (v1 : Int32) (h : zH) : zR :=
  zcI (f_X10_in ((v1 : Int32).toInt64) 0 4 h) fun x1 h2 =>
  if x1 = 0 then
  zoc h2 v0 6 <|
  zcI (f_X10_bad v0 h2) fun x4 h5 =>
  zrI x4 h5
  else
  zoc h2 v0 6 <|
  zcV (f_X10_aside v0 h2) fun h3 =>
  f_X10_luck_25 zF v0 v1 0 0 h3
set_option maxRecDepth 100000 in
set_option maxHeartbeats 4000000 in
theorem m_X10_luck (l : Launch) (D : zD) (v0 : Nat) (v1 : Int32) (h : zH) : zMet l D yX10_luck M_X10_luck [.ref v0, .int v1] h (f_X10_luck v0 v1 h) := by
  refine zMet.of (by decide +kernel) ⟨rfl, rfl⟩ (Nat.le_of_ble_eq_true rfl) (fun Y hl hD => ?_)
  show Z Y M_X10_luck 0 0 0 [(0, .ref v0), (1, .int v1)] [] h _
  rw [f_X10_luck]
  refine z_iload_n 1 (zat dd_X10_luck 0 rfl) rfl rfl ?_
  refine z_i2l (zat dd_X10_luck 1 rfl) ?_
  refine z_lconst (x := 0) (zat dd_X10_luck 2 rfl) (by decide) ?_
  refine z_ldc2 (x := 4) qk_X10_235 (zat dd_X10_luck 3 rfl) ?_
  refine z_callS_I0 (M2 := M_X10_in) [.long ((v1 : Int32).toInt64), .long 0, .long 4] (fun l D _ _ => m_X10_in l D ((v1 : Int32).toInt64) 0 4 h) u_X10_in ql_X10_48 qi_X10_in rfl rfl (Nat.le_of_ble_eq_true rfl) (by decide) rfl rfl (zat dd_X10_luck 4 rfl) (fun x1 h2 => ?_)
  refine z_if_ne (tgt := 17) (zat dd_X10_luck 5 rfl) (by decide) ?_ ?_
  · refine z_iconst (x := 0) (zat dd_X10_luck 9 rfl) (by decide) ?_
    refine z_istore_n (lv' := [(2, .int 0), (0, .ref v0), (1, .int v1)]) (zat dd_X10_luck 10 rfl) rfl (Nat.le_of_ble_eq_true rfl) rfl ?_
    refine z_aload_n 1 (zat dd_X10_luck 11 rfl) rfl rfl ?_
    refine z_callV_V0 (M2 := M_X10_aside) [] (fun l D _ _ => m_X10_aside l D v0 h2) u_X10_aside ql_X10_106 qi_X10_aside qs_X10_aside (ci := 6) rfl rfl rfl (Nat.le_of_ble_eq_true rfl) (by decide) rfl rfl (zat dd_X10_luck 12 rfl) (fun h3 => ?_)
    refine z_iconst (x := 0) (zat dd_X10_luck 13 rfl) (by decide) ?_
    refine z_istore_n (lv' := [(3, .int 0), (2, .int 0), (0, .ref v0), (1, .int v1)]) (zat dd_X10_luck 14 rfl) rfl (Nat.le_of_ble_eq_true rfl) rfl ?_
    refine z_sub [2, 3, 1, 0] rfl ?_
    exact zb_X10_luck_25 Y zF v0 v1 0 0 h3
  · refine z_aload_n 0 (zat dd_X10_luck 6 rfl) rfl rfl ?_
    refine z_callV_I0 (M2 := M_X10_bad) [] (fun l D _ _ => m_X10_bad l D v0 h2) u_X10_bad ql_X10_85 qi_X10_bad qs_X10_bad (ci := 6) rfl rfl rfl (Nat.le_of_ble_eq_true rfl) (by decide) rfl rfl (zat dd_X10_luck 7 rfl) (fun x4 h5 => ?_)
    exact z_iret rfl (zat dd_X10_luck 8 rfl)
/-! PaperDollsModel.evenings(II)I -/
def L_X10_evenings : List (Nat × Instr × Nat) := [(0, .iload_n 1, 1), (1, .i2l, 1), (2, .lconst 0, 1), (3, .ldc2_w 241, 3), (6, .invokestatic 48, 3), (9, .ifCond .eq 15, 3), (12, .iload_n 2, 1), (13, .i2l, 1), (14, .lconst 0, 1), (15, .ldc2_w 243, 3), (18, .invokestatic 48, 3), (21, .ifCond .ne 8, 3), (24, .aload_n 0, 1), (25, .invokevirtual 85, 3), (28, .ireturn, 1), (29, .iload_n 1, 1), (30, .i2l, 1), (31, .lstore_n 3, 1), (32, .iconst 0, 1), (33, .istore 5, 2), (35, .aload_n 0, 1), (36, .invokevirtual 106, 3), (39, .iconst 0, 1), (40, .istore 6, 2), (42, .iload 6, 2), (44, .iload_n 2, 1), (45, .if_icmp .ge 91, 3), (48, .lload_n 3, 1), (49, .ldc2_w 245, 3), (52, .lmul, 1), (53, .ldc2_w 247, 3), (56, .ladd, 1), (57, .ldc2_w 249, 3), (60, .lrem, 1), (61, .lstore_n 3, 1), (62, .lload_n 3, 1), (63, .ldc2_w 251, 3), (66, .ldiv, 1), (67, .ldc2_w 253, 3), (70, .lrem, 1), (71, .l2i, 1), (72, .istore 7, 2), (74, .aload_n 0, 1), (75, .iload 7, 2), (77, .invokevirtual 165, 3), (80, .ifCond .eq 31, 3), (83, .aload_n 0, 1), (84, .iconst 0, 1), (85, .iload 7, 2), (87, .invokevirtual 158, 3), (90, .ifCond .ne 21, 3), (93, .aload_n 0, 1), (94, .iconst 1, 1), (95, .iload 7, 2), (97, .invokevirtual 158, 3), (100, .ifCond .ne 11, 3), (103, .aload_n 0, 1), (104, .iconst 2, 1), (105, .iload 7, 2), (107, .invokevirtual 158, 3), (110, .pop, 1), (111, .iload 5, 2), (113, .aload_n 0, 1), (114, .invokevirtual 207, 3), (117, .bipush 15, 2), (119, .if_icmp .ne 7, 3), (122, .iconst 1, 1), (123, .goto 4, 3), (126, .iconst 0, 1), (127, .iadd, 1), (128, .istore 5, 2), (130, .iinc 6 1, 3), (133, .goto (-91), 3), (136, .iload 5, 2), (138, .ireturn, 1)]
theorem dd_X10_evenings : ∀ q ∈ L_X10_evenings, decode cX10_evenings q.1 = .ok q.2 := by decide +kernel
abbrev M_X10_evenings : zM := (cX10_evenings, RX10, "evenings", 8, some .int, 4, 0, 0)
theorem u_X10_evenings : zCal yX10_evenings (M_X10_evenings) 2 := ⟨(zmem 1164 (by decide +kernel) rfl : Cond.code yX10_evenings cX10_evenings 8 (some .int) ∈ zTb), zmem 63 (by decide +kernel) rfl, by decide +kernel, Nat.le_of_ble_eq_true rfl⟩
theorem qi_X10_evenings : Cond.instanceMethod yX10_evenings ∈ zTb := zmem 1162 (by decide +kernel) rfl
theorem qs_X10_evenings : Cond.selects yX10_evenings.cls yX10_evenings yX10_evenings ∈ zTb := zmem 1163 (by decide +kernel) rfl
def f_X10_evenings_127 (k42 : Nat → Int32 → Int64 → Int32 → Int32 → zH → zR) (v0 : Nat) (v2 : Int32) (v3 : Int64) (v6 : Int32) (t0 : Int32) (t1 : Int32) (h : zH) : zR :=
  zlt (t1 + t0) fun x1 =>
  k42 v0 v2 v3 x1 (v6 + 1) h
set_option maxRecDepth 100000 in
set_option maxHeartbeats 4000000 in
theorem zb_X10_evenings_127 (Y : zY) (k42 : Nat → Int32 → Int64 → Int32 → Int32 → zH → zR) (hk42 : ∀ (v0 : Nat) (v2 : Int32) (v3 : Int64) (v5 : Int32) (v6 : Int32) (h : zH), Z Y M_X10_evenings 0 0 42 [(0, .ref v0), (2, .int v2), (3, .long v3), (5, .int v5), (6, .int v6)] [] h (k42 v0 v2 v3 v5 v6 h)) (v0 : Nat) (v2 : Int32) (v3 : Int64) (v6 : Int32) (t0 : Int32) (t1 : Int32) (h : zH) : Z Y M_X10_evenings 0 0 127 [(0, .ref v0), (2, .int v2), (3, .long v3), (6, .int v6)] [.int t0, .int t1] h (f_X10_evenings_127 k42 v0 v2 v3 v6 t0 t1 h) := by
  rw [f_X10_evenings_127]
  refine z_iadd (zat dd_X10_evenings 69 rfl) ?_
  refine z_let (fun x1 => ?_)
  refine z_istore (lv' := [(5, .int x1), (0, .ref v0), (2, .int v2), (3, .long v3), (6, .int v6)]) (zat dd_X10_evenings 70 rfl) (Nat.le_of_ble_eq_true rfl) rfl ?_
  refine z_iinc (y := v6 + 1) (lv' := [(6, .int (v6 + 1)), (5, .int x1), (0, .ref v0), (2, .int v2), (3, .long v3)]) 4 (zat dd_X10_evenings 71 rfl) rfl rfl (Nat.le_of_ble_eq_true rfl) rfl ?_
  refine z_goto (tgt := 42) (zat dd_X10_evenings 72 rfl) (by decide) ?_
  refine z_sub [2, 3, 4, 1, 0] rfl ?_
  exact hk42 v0 v2 v3 x1 (v6 + 1) h
def f_X10_evenings_111 (k42 : Nat → Int32 → Int64 → Int32 → Int32 → zH → zR) (v0 : Nat) (v2 : Int32) (v3 : Int64) (v5 : Int32) (v6 : Int32) (h : zH) : zR :=
  zoc h v0 6 <|
  zcI (f_X10_covered v0 h) fun x1 h2 =>
  if x1 = 15 then
  f_X10_evenings_127 k42 v0 v2 v3 v6 1 v5 h2
  else
  f_X10_evenings_127 k42 v0 v2 v3 v6 0 v5 h2
set_option maxRecDepth 100000 in
set_option maxHeartbeats 4000000 in
theorem zb_X10_evenings_111 (Y : zY) (k42 : Nat → Int32 → Int64 → Int32 → Int32 → zH → zR) (hk42 : ∀ (v0 : Nat) (v2 : Int32) (v3 : Int64) (v5 : Int32) (v6 : Int32) (h : zH), Z Y M_X10_evenings 0 0 42 [(0, .ref v0), (2, .int v2), (3, .long v3), (5, .int v5), (6, .int v6)] [] h (k42 v0 v2 v3 v5 v6 h)) (v0 : Nat) (v2 : Int32) (v3 : Int64) (v5 : Int32) (v6 : Int32) (h : zH) : Z Y M_X10_evenings 0 0 111 [(0, .ref v0), (2, .int v2), (3, .long v3), (5, .int v5), (6, .int v6)] [] h (f_X10_evenings_111 k42 v0 v2 v3 v5 v6 h) := by
  rw [f_X10_evenings_111]
  refine z_iload 3 (zat dd_X10_evenings 61 rfl) rfl ?_
  refine z_aload_n 0 (zat dd_X10_evenings 62 rfl) rfl rfl ?_
  refine z_callV_I0 (M2 := M_X10_covered) [] (fun l D _ _ => m_X10_covered l D v0 h) u_X10_covered ql_X10_207 qi_X10_covered qs_X10_covered (ci := 6) rfl rfl rfl (Nat.le_of_ble_eq_true rfl) (by decide) rfl rfl (zat dd_X10_evenings 63 rfl) (fun x1 h2 => ?_)
  refine z_bipush (x := 15) (zat dd_X10_evenings 64 rfl) (by decide) ?_
  refine z_icmp_ne (tgt := 126) (zat dd_X10_evenings 65 rfl) (by decide) ?_ ?_
  · refine z_iconst (x := 0) (zat dd_X10_evenings 68 rfl) (by decide) ?_
    refine z_sub [0, 1, 2, 4] rfl ?_
    exact zb_X10_evenings_127 Y k42 hk42 v0 v2 v3 v6 0 v5 h2
  · refine z_iconst (x := 1) (zat dd_X10_evenings 66 rfl) (by decide) ?_
    refine z_goto (tgt := 127) (zat dd_X10_evenings 67 rfl) (by decide) ?_
    refine z_sub [0, 1, 2, 4] rfl ?_
    exact zb_X10_evenings_127 Y k42 hk42 v0 v2 v3 v6 1 v5 h2
def f_X10_evenings_42 : Nat → Nat → Int32 → Int64 → Int32 → Int32 → zH → zR
  | 0, _, _, _, _, _, _ => none
  | n + 1, v0, v2, v3, v5, v6, h =>
  if v2 ≤ v6 then
  zrI v5 h
  else
  zdvJ 2147483648 <|
  zlt (((v3 * 1103515245) + 12345) - ((v3 * 1103515245) + 12345) / 2147483648 * 2147483648) fun x1 =>
  zdvJ 65536 <|
  zdvJ 8 <|
  zlt (((x1 / 65536) - (x1 / 65536) / 8 * 8 : Int64).toInt32) fun x2 =>
  zoc h v0 6 <|
  zcI (f_X10_isPiece v0 x2 h) fun x3 h4 =>
  if x3 = 0 then
  f_X10_evenings_111 (f_X10_evenings_42 n) v0 v2 x1 v5 v6 h4
  else
  zoc h4 v0 6 <|
  zcI (f_X10_goMove v0 0 x2 h4) fun x5 h6 =>
  if x5 = 0 then
  zoc h6 v0 6 <|
  zcI (f_X10_goMove v0 1 x2 h6) fun x7 h8 =>
  if x7 = 0 then
  zoc h8 v0 6 <|
  zcI (f_X10_goMove v0 2 x2 h8) fun x9 h10 =>
  f_X10_evenings_111 (f_X10_evenings_42 n) v0 v2 x1 v5 v6 h10
  else
  f_X10_evenings_111 (f_X10_evenings_42 n) v0 v2 x1 v5 v6 h8
  else
  f_X10_evenings_111 (f_X10_evenings_42 n) v0 v2 x1 v5 v6 h6
set_option maxRecDepth 100000 in
set_option maxHeartbeats 4000000 in
theorem zb_X10_evenings_42 (Y : zY) : ∀ (n : Nat) (v0 : Nat) (v2 : Int32) (v3 : Int64) (v5 : Int32) (v6 : Int32) (h : zH), Z Y M_X10_evenings 0 0 42 [(0, .ref v0), (2, .int v2), (3, .long v3), (5, .int v5), (6, .int v6)] [] h (f_X10_evenings_42 n v0 v2 v3 v5 v6 h) := by
  intro n
  induction n with
  | zero =>
    intro v0 v2 v3 v5 v6 h
    rw [f_X10_evenings_42]
    exact z_none
  | succ n ih =>
    intro v0 v2 v3 v5 v6 h
    rw [f_X10_evenings_42]
    refine z_iload 4 (zat dd_X10_evenings 24 rfl) rfl ?_
    refine z_iload_n 1 (zat dd_X10_evenings 25 rfl) rfl rfl ?_
    refine z_icmp_ge (tgt := 136) (zat dd_X10_evenings 26 rfl) (by decide) ?_ ?_
    · refine z_iload 3 (zat dd_X10_evenings 73 rfl) rfl ?_
      exact z_iret rfl (zat dd_X10_evenings 74 rfl)
    · refine z_lload_n 2 (zat dd_X10_evenings 27 rfl) rfl rfl ?_
      refine z_ldc2 (x := 1103515245) qk_X10_245 (zat dd_X10_evenings 28 rfl) ?_
      refine z_lmul (zat dd_X10_evenings 29 rfl) ?_
      refine z_ldc2 (x := 12345) qk_X10_247 (zat dd_X10_evenings 30 rfl) ?_
      refine z_ladd (zat dd_X10_evenings 31 rfl) ?_
      refine z_ldc2 (x := 2147483648) qk_X10_249 (zat dd_X10_evenings 32 rfl) ?_
      refine z_lrem (zat dd_X10_evenings 33 rfl) ?_
      refine z_letJ (fun x1 => ?_)
      refine z_lstore_n (lv' := [(3, .long x1), (0, .ref v0), (2, .int v2), (5, .int v5), (6, .int v6)]) (zat dd_X10_evenings 34 rfl) rfl (Nat.le_of_ble_eq_true rfl) rfl ?_
      refine z_lload_n 0 (zat dd_X10_evenings 35 rfl) rfl rfl ?_
      refine z_ldc2 (x := 65536) qk_X10_251 (zat dd_X10_evenings 36 rfl) ?_
      refine z_ldiv (zat dd_X10_evenings 37 rfl) ?_
      refine z_ldc2 (x := 8) qk_X10_253 (zat dd_X10_evenings 38 rfl) ?_
      refine z_lrem (zat dd_X10_evenings 39 rfl) ?_
      refine z_l2i (zat dd_X10_evenings 40 rfl) ?_
      refine z_let (fun x2 => ?_)
      refine z_istore (lv' := [(7, .int x2), (3, .long x1), (0, .ref v0), (2, .int v2), (5, .int v5), (6, .int v6)]) (zat dd_X10_evenings 41 rfl) (Nat.le_of_ble_eq_true rfl) rfl ?_
      refine z_aload_n 2 (zat dd_X10_evenings 42 rfl) rfl rfl ?_
      refine z_iload 0 (zat dd_X10_evenings 43 rfl) rfl ?_
      refine z_callV_I0 (M2 := M_X10_isPiece) [.int x2] (fun l D _ _ => m_X10_isPiece l D v0 x2 h) u_X10_isPiece ql_X10_165 qi_X10_isPiece qs_X10_isPiece (ci := 6) rfl rfl rfl (Nat.le_of_ble_eq_true rfl) (by decide) rfl rfl (zat dd_X10_evenings 44 rfl) (fun x3 h4 => ?_)
      refine z_if_eq (tgt := 111) (zat dd_X10_evenings 45 rfl) (by decide) ?_ ?_
      · refine z_sub [2, 3, 1, 4, 5] rfl ?_
        exact zb_X10_evenings_111 Y (f_X10_evenings_42 n) ih v0 v2 x1 v5 v6 h4
      · refine z_aload_n 2 (zat dd_X10_evenings 46 rfl) rfl rfl ?_
        refine z_iconst (x := 0) (zat dd_X10_evenings 47 rfl) (by decide) ?_
        refine z_iload 0 (zat dd_X10_evenings 48 rfl) rfl ?_
        refine z_callV_I0 (M2 := M_X10_goMove) [.int 0, .int x2] (fun l D _ _ => m_X10_goMove l D v0 0 x2 h4) u_X10_goMove ql_X10_158 qi_X10_goMove qs_X10_goMove (ci := 6) rfl rfl rfl (Nat.le_of_ble_eq_true rfl) (by decide) rfl rfl (zat dd_X10_evenings 49 rfl) (fun x5 h6 => ?_)
        refine z_if_ne (tgt := 111) (zat dd_X10_evenings 50 rfl) (by decide) ?_ ?_
        · refine z_sub [2, 3, 1, 4, 5] rfl ?_
          exact zb_X10_evenings_111 Y (f_X10_evenings_42 n) ih v0 v2 x1 v5 v6 h6
        · refine z_aload_n 2 (zat dd_X10_evenings 51 rfl) rfl rfl ?_
          refine z_iconst (x := 1) (zat dd_X10_evenings 52 rfl) (by decide) ?_
          refine z_iload 0 (zat dd_X10_evenings 53 rfl) rfl ?_
          refine z_callV_I0 (M2 := M_X10_goMove) [.int 1, .int x2] (fun l D _ _ => m_X10_goMove l D v0 1 x2 h6) u_X10_goMove ql_X10_158 qi_X10_goMove qs_X10_goMove (ci := 6) rfl rfl rfl (Nat.le_of_ble_eq_true rfl) (by decide) rfl rfl (zat dd_X10_evenings 54 rfl) (fun x7 h8 => ?_)
          refine z_if_ne (tgt := 111) (zat dd_X10_evenings 55 rfl) (by decide) ?_ ?_
          · refine z_sub [2, 3, 1, 4, 5] rfl ?_
            exact zb_X10_evenings_111 Y (f_X10_evenings_42 n) ih v0 v2 x1 v5 v6 h8
          · refine z_aload_n 2 (zat dd_X10_evenings 56 rfl) rfl rfl ?_
            refine z_iconst (x := 2) (zat dd_X10_evenings 57 rfl) (by decide) ?_
            refine z_iload 0 (zat dd_X10_evenings 58 rfl) rfl ?_
            refine z_callV_I0 (M2 := M_X10_goMove) [.int 2, .int x2] (fun l D _ _ => m_X10_goMove l D v0 2 x2 h8) u_X10_goMove ql_X10_158 qi_X10_goMove qs_X10_goMove (ci := 6) rfl rfl rfl (Nat.le_of_ble_eq_true rfl) (by decide) rfl rfl (zat dd_X10_evenings 59 rfl) (fun x9 h10 => ?_)
            refine z_pop (zat dd_X10_evenings 60 rfl) rfl ?_
            refine z_sub [2, 3, 1, 4, 5] rfl ?_
            exact zb_X10_evenings_111 Y (f_X10_evenings_42 n) ih v0 v2 x1 v5 v6 h10
def f_X10_evenings_24 (v0 : Nat) (h : zH) : zR :=
  zoc h v0 6 <|
  zcI (f_X10_bad v0 h) fun x1 h2 =>
  zrI x1 h2
set_option maxRecDepth 100000 in
set_option maxHeartbeats 4000000 in
theorem zb_X10_evenings_24 (Y : zY) (v0 : Nat) (h : zH) : Z Y M_X10_evenings 0 0 24 [(0, .ref v0)] [] h (f_X10_evenings_24 v0 h) := by
  rw [f_X10_evenings_24]
  refine z_aload_n 0 (zat dd_X10_evenings 12 rfl) rfl rfl ?_
  refine z_callV_I0 (M2 := M_X10_bad) [] (fun l D _ _ => m_X10_bad l D v0 h) u_X10_bad ql_X10_85 qi_X10_bad qs_X10_bad (ci := 6) rfl rfl rfl (Nat.le_of_ble_eq_true rfl) (by decide) rfl rfl (zat dd_X10_evenings 13 rfl) (fun x1 h2 => ?_)
  exact z_iret rfl (zat dd_X10_evenings 14 rfl)
def f_X10_evenings (v0 : Nat) (v1 : Int32) (v2 : Int32) (h : zH) : zR :=
  zcI (f_X10_in ((v1 : Int32).toInt64) 0 999999 h) fun x1 h2 =>
  if x1 = 0 then
  f_X10_evenings_24 v0 h2
  else
  zcI (f_X10_in ((v2 : Int32).toInt64) 0 60 h2) fun x3 h4 =>
  if x3 = 0 then
  f_X10_evenings_24 v0 h4
  else
  zlt ((v1 : Int32).toInt64) fun x5 =>
  zoc h4 v0 6 <|
  zcV (f_X10_aside v0 h4) fun h6 =>
  f_X10_evenings_42 zF v0 v2 x5 0 0 h6
set_option maxRecDepth 100000 in
set_option maxHeartbeats 4000000 in
theorem m_X10_evenings (l : Launch) (D : zD) (v0 : Nat) (v1 : Int32) (v2 : Int32) (h : zH) : zMet l D yX10_evenings M_X10_evenings [.ref v0, .int v1, .int v2] h (f_X10_evenings v0 v1 v2 h) := by
  refine zMet.of (by decide +kernel) ⟨rfl, rfl⟩ (Nat.le_of_ble_eq_true rfl) (fun Y hl hD => ?_)
  show Z Y M_X10_evenings 0 0 0 [(0, .ref v0), (1, .int v1), (2, .int v2)] [] h _
  rw [f_X10_evenings]
  refine z_iload_n 1 (zat dd_X10_evenings 0 rfl) rfl rfl ?_
  refine z_i2l (zat dd_X10_evenings 1 rfl) ?_
  refine z_lconst (x := 0) (zat dd_X10_evenings 2 rfl) (by decide) ?_
  refine z_ldc2 (x := 999999) qk_X10_241 (zat dd_X10_evenings 3 rfl) ?_
  refine z_callS_I0 (M2 := M_X10_in) [.long ((v1 : Int32).toInt64), .long 0, .long 999999] (fun l D _ _ => m_X10_in l D ((v1 : Int32).toInt64) 0 999999 h) u_X10_in ql_X10_48 qi_X10_in rfl rfl (Nat.le_of_ble_eq_true rfl) (by decide) rfl rfl (zat dd_X10_evenings 4 rfl) (fun x1 h2 => ?_)
  refine z_if_eq (tgt := 24) (zat dd_X10_evenings 5 rfl) (by decide) ?_ ?_
  · refine z_sub [0] rfl ?_
    exact zb_X10_evenings_24 Y v0 h2
  · refine z_iload_n 2 (zat dd_X10_evenings 6 rfl) rfl rfl ?_
    refine z_i2l (zat dd_X10_evenings 7 rfl) ?_
    refine z_lconst (x := 0) (zat dd_X10_evenings 8 rfl) (by decide) ?_
    refine z_ldc2 (x := 60) qk_X10_243 (zat dd_X10_evenings 9 rfl) ?_
    refine z_callS_I0 (M2 := M_X10_in) [.long ((v2 : Int32).toInt64), .long 0, .long 60] (fun l D _ _ => m_X10_in l D ((v2 : Int32).toInt64) 0 60 h2) u_X10_in ql_X10_48 qi_X10_in rfl rfl (Nat.le_of_ble_eq_true rfl) (by decide) rfl rfl (zat dd_X10_evenings 10 rfl) (fun x3 h4 => ?_)
    refine z_if_ne (tgt := 29) (zat dd_X10_evenings 11 rfl) (by decide) ?_ ?_
    · refine z_iload_n 1 (zat dd_X10_evenings 15 rfl) rfl rfl ?_
      refine z_i2l (zat dd_X10_evenings 16 rfl) ?_
      refine z_letJ (fun x5 => ?_)
      refine z_lstore_n (lv' := [(3, .long x5), (0, .ref v0), (1, .int v1), (2, .int v2)]) (zat dd_X10_evenings 17 rfl) rfl (Nat.le_of_ble_eq_true rfl) rfl ?_
      refine z_iconst (x := 0) (zat dd_X10_evenings 18 rfl) (by decide) ?_
      refine z_istore (lv' := [(5, .int 0), (3, .long x5), (0, .ref v0), (1, .int v1), (2, .int v2)]) (zat dd_X10_evenings 19 rfl) (Nat.le_of_ble_eq_true rfl) rfl ?_
      refine z_aload_n 2 (zat dd_X10_evenings 20 rfl) rfl rfl ?_
      refine z_callV_V0 (M2 := M_X10_aside) [] (fun l D _ _ => m_X10_aside l D v0 h4) u_X10_aside ql_X10_106 qi_X10_aside qs_X10_aside (ci := 6) rfl rfl rfl (Nat.le_of_ble_eq_true rfl) (by decide) rfl rfl (zat dd_X10_evenings 21 rfl) (fun h6 => ?_)
      refine z_iconst (x := 0) (zat dd_X10_evenings 22 rfl) (by decide) ?_
      refine z_istore (lv' := [(6, .int 0), (5, .int 0), (3, .long x5), (0, .ref v0), (1, .int v1), (2, .int v2)]) (zat dd_X10_evenings 23 rfl) (Nat.le_of_ble_eq_true rfl) rfl ?_
      refine z_sub [3, 5, 2, 1, 0] rfl ?_
      exact zb_X10_evenings_42 Y zF v0 v2 x5 0 0 h6
    · refine z_sub [0] rfl ?_
      exact zb_X10_evenings_24 Y v0 h4
/-! PaperDollsModel.part(I)J -/
def L_X10_part : List (Nat × Instr × Nat) := [(0, .iload_n 1, 1), (1, .ifCond .ne 10, 3), (4, .aload_n 0, 1), (5, .getfield 232, 3), (8, .goto 20, 3), (11, .iload_n 1, 1), (12, .iconst 1, 1), (13, .if_icmp .ne 10, 3), (16, .aload_n 0, 1), (17, .getfield 31, 3), (20, .goto 8, 3), (23, .aload_n 0, 1), (24, .invokevirtual 85, 3), (27, .i2l, 1), (28, .lreturn, 1)]
theorem dd_X10_part : ∀ q ∈ L_X10_part, decode cX10_part q.1 = .ok q.2 := by decide +kernel
abbrev M_X10_part : zM := (cX10_part, RX10, "part", 2, some .long, 1, 0, 0)
theorem u_X10_part : zCal yX10_part (M_X10_part) 1 := ⟨(zmem 1175 (by decide +kernel) rfl : Cond.code yX10_part cX10_part 2 (some .long) ∈ zTb), zmem 63 (by decide +kernel) rfl, by decide +kernel, Nat.le_of_ble_eq_true rfl⟩
theorem qi_X10_part : Cond.instanceMethod yX10_part ∈ zTb := zmem 1173 (by decide +kernel) rfl
theorem qs_X10_part : Cond.selects yX10_part.cls yX10_part yX10_part ∈ zTb := zmem 1174 (by decide +kernel) rfl
def f_X10_part_28 (t0 : Int64) (h : zH) : zR :=
  zrJ t0 h
set_option maxRecDepth 100000 in
set_option maxHeartbeats 4000000 in
theorem zb_X10_part_28 (Y : zY) (t0 : Int64) (h : zH) : Z Y M_X10_part 0 0 28 [] [.long t0] h (f_X10_part_28 t0 h) := by
  rw [f_X10_part_28]
  exact z_lret rfl (zat dd_X10_part 14 rfl)
def f_X10_part (v0 : Nat) (v1 : Int32) (h : zH) : zR :=
  if v1 = 0 then
  zgJ h v0 6 10 fun x4 =>
  f_X10_part_28 x4 h
  else
  if v1 = 1 then
  zgJ h v0 6 11 fun x3 =>
  f_X10_part_28 x3 h
  else
  zoc h v0 6 <|
  zcI (f_X10_bad v0 h) fun x1 h2 =>
  f_X10_part_28 ((x1 : Int32).toInt64) h2
set_option maxRecDepth 100000 in
set_option maxHeartbeats 4000000 in
theorem m_X10_part (l : Launch) (D : zD) (v0 : Nat) (v1 : Int32) (h : zH) : zMet l D yX10_part M_X10_part [.ref v0, .int v1] h (f_X10_part v0 v1 h) := by
  refine zMet.of (by decide +kernel) ⟨rfl, rfl⟩ (Nat.le_of_ble_eq_true rfl) (fun Y hl hD => ?_)
  show Z Y M_X10_part 0 0 0 [(0, .ref v0), (1, .int v1)] [] h _
  rw [f_X10_part]
  refine z_iload_n 1 (zat dd_X10_part 0 rfl) rfl rfl ?_
  refine z_if_ne (tgt := 11) (zat dd_X10_part 1 rfl) (by decide) ?_ ?_
  · refine z_iload_n 1 (zat dd_X10_part 5 rfl) rfl rfl ?_
    refine z_iconst (x := 1) (zat dd_X10_part 6 rfl) (by decide) ?_
    refine z_icmp_ne (tgt := 23) (zat dd_X10_part 7 rfl) (by decide) ?_ ?_
    · refine z_aload_n 0 (zat dd_X10_part 11 rfl) rfl rfl ?_
      refine z_callV_I0 (M2 := M_X10_bad) [] (fun l D _ _ => m_X10_bad l D v0 h) u_X10_bad ql_X10_85 qi_X10_bad qs_X10_bad (ci := 6) rfl rfl rfl (Nat.le_of_ble_eq_true rfl) (by decide) rfl rfl (zat dd_X10_part 12 rfl) (fun x1 h2 => ?_)
      refine z_i2l (zat dd_X10_part 13 rfl) ?_
      refine z_sub [] rfl ?_
      exact zb_X10_part_28 Y ((x1 : Int32).toInt64) h2
    · refine z_aload_n 0 (zat dd_X10_part 8 rfl) rfl rfl ?_
      refine z_getJ fl_X10_31 (zat dd_X10_part 9 rfl) (fun x3 => ?_)
      refine z_goto (tgt := 28) (zat dd_X10_part 10 rfl) (by decide) ?_
      refine z_sub [] rfl ?_
      exact zb_X10_part_28 Y x3 h
  · refine z_aload_n 0 (zat dd_X10_part 2 rfl) rfl rfl ?_
    refine z_getJ fl_X10_232 (zat dd_X10_part 3 rfl) (fun x4 => ?_)
    refine z_goto (tgt := 28) (zat dd_X10_part 4 rfl) (by decide) ?_
    refine z_sub [] rfl ?_
    exact zb_X10_part_28 Y x4 h
/-! PaperDollsModel.image(I)I -/
def L_X10_image : List (Nat × Instr × Nat) := [(0, .iload_n 1, 1), (1, .i2l, 1), (2, .lconst 0, 1), (3, .lconst 1, 1), (4, .invokestatic 48, 3), (7, .ifCond .ne 8, 3), (10, .aload_n 0, 1), (11, .invokevirtual 85, 3), (14, .ireturn, 1), (15, .iconst 0, 1), (16, .istore_n 2, 1), (17, .iload_n 2, 1), (18, .bipush 88, 2), (20, .if_icmp .ge 26, 3), (23, .aload_n 0, 1), (24, .getfield 19, 3), (27, .bipush 88, 2), (29, .iload_n 1, 1), (30, .imul, 1), (31, .iload_n 2, 1), (32, .iadd, 1), (33, .aload_n 0, 1), (34, .getfield 7, 3), (37, .iload_n 2, 1), (38, .iaload, 1), (39, .iastore, 1), (40, .iinc 2 1, 3), (43, .goto (-26), 3), (46, .iconst 0, 1), (47, .istore_n 2, 1), (48, .iload_n 2, 1), (49, .sipush 144, 3), (52, .if_icmp .ge 27, 3), (55, .aload_n 0, 1), (56, .getfield 22, 3), (59, .sipush 144, 3), (62, .iload_n 1, 1), (63, .imul, 1), (64, .iload_n 2, 1), (65, .iadd, 1), (66, .aload_n 0, 1), (67, .getfield 16, 3), (70, .iload_n 2, 1), (71, .iaload, 1), (72, .iastore, 1), (73, .iinc 2 1, 3), (76, .goto (-28), 3), (79, .aload_n 0, 1), (80, .getfield 25, 3), (83, .iload_n 1, 1), (84, .aload_n 0, 1), (85, .getfield 95, 3), (88, .iastore, 1), (89, .aload_n 0, 1), (90, .dup, 1), (91, .getfield 255, 3), (94, .iconst 1, 1), (95, .iload_n 1, 1), (96, .ishl, 1), (97, .ior, 1), (98, .putfield 255, 3), (101, .iconst 1, 1), (102, .ireturn, 1)]
theorem dd_X10_image : ∀ q ∈ L_X10_image, decode cX10_image q.1 = .ok q.2 := by decide +kernel
abbrev M_X10_image : zM := (cX10_image, RX10, "image", 3, some .int, 1, 0, 0)
theorem u_X10_image : zCal yX10_image (M_X10_image) 1 := ⟨(zmem 1179 (by decide +kernel) rfl : Cond.code yX10_image cX10_image 3 (some .int) ∈ zTb), zmem 63 (by decide +kernel) rfl, by decide +kernel, Nat.le_of_ble_eq_true rfl⟩
theorem qi_X10_image : Cond.instanceMethod yX10_image ∈ zTb := zmem 1177 (by decide +kernel) rfl
theorem qs_X10_image : Cond.selects yX10_image.cls yX10_image yX10_image ∈ zTb := zmem 1178 (by decide +kernel) rfl
def f_X10_image_48 : Nat → Nat → Int32 → Int32 → zH → zR
  | 0, _, _, _, _ => none
  | n + 1, v0, v1, v2, h =>
  if 144 ≤ v2 then
  zgR h v0 6 6 fun a1 =>
  zgI h v0 6 3 fun x2 =>
  zsI h a1 0 v1 x2 fun h3 =>
  zgI h3 v0 6 7 fun x4 =>
  zpV h3 v0 6 7 (.int (x4 ||| (1 <<< (v1 &&& 31)))) fun h5 =>
  zrI 1 h5
  else
  zgR h v0 6 5 fun a6 =>
  zgR h v0 6 2 fun a7 =>
  zaI h a7 0 v2 fun x8 =>
  zsI h a6 0 ((144 * v1) + v2) x8 fun h9 =>
  f_X10_image_48 n v0 v1 (v2 + 1) h9
set_option maxRecDepth 100000 in
set_option maxHeartbeats 4000000 in
theorem zb_X10_image_48 (Y : zY) : ∀ (n : Nat) (v0 : Nat) (v1 : Int32) (v2 : Int32) (h : zH), Z Y M_X10_image 0 0 48 [(0, .ref v0), (1, .int v1), (2, .int v2)] [] h (f_X10_image_48 n v0 v1 v2 h) := by
  intro n
  induction n with
  | zero =>
    intro v0 v1 v2 h
    rw [f_X10_image_48]
    exact z_none
  | succ n ih =>
    intro v0 v1 v2 h
    rw [f_X10_image_48]
    refine z_iload_n 2 (zat dd_X10_image 30 rfl) rfl rfl ?_
    refine z_sipush (x := 144) (zat dd_X10_image 31 rfl) (by decide) ?_
    refine z_icmp_ge (tgt := 79) (zat dd_X10_image 32 rfl) (by decide) ?_ ?_
    · refine z_aload_n 0 (zat dd_X10_image 47 rfl) rfl rfl ?_
      refine z_getR fl_X10_25 (zat dd_X10_image 48 rfl) (fun a1 => ?_)
      refine z_iload_n 1 (zat dd_X10_image 49 rfl) rfl rfl ?_
      refine z_aload_n 0 (zat dd_X10_image 50 rfl) rfl rfl ?_
      refine z_getI fl_X10_95 (zat dd_X10_image 51 rfl) (fun x2 => ?_)
      refine z_iast (zat dd_X10_image 52 rfl) (fun h3 => ?_)
      refine z_aload_n 0 (zat dd_X10_image 53 rfl) rfl rfl ?_
      refine z_dup (zat dd_X10_image 54 rfl) rfl ?_
      refine z_getI fl_X10_255 (zat dd_X10_image 55 rfl) (fun x4 => ?_)
      refine z_iconst (x := 1) (zat dd_X10_image 56 rfl) (by decide) ?_
      refine z_iload_n 1 (zat dd_X10_image 57 rfl) rfl rfl ?_
      refine z_ishl (zat dd_X10_image 58 rfl) ?_
      refine z_ior (zat dd_X10_image 59 rfl) ?_
      refine z_put fl_X10_255 rfl rfl (zat dd_X10_image 60 rfl) (fun h5 => ?_)
      refine z_iconst (x := 1) (zat dd_X10_image 61 rfl) (by decide) ?_
      exact z_iret rfl (zat dd_X10_image 62 rfl)
    · refine z_aload_n 0 (zat dd_X10_image 33 rfl) rfl rfl ?_
      refine z_getR fl_X10_22 (zat dd_X10_image 34 rfl) (fun a6 => ?_)
      refine z_sipush (x := 144) (zat dd_X10_image 35 rfl) (by decide) ?_
      refine z_iload_n 1 (zat dd_X10_image 36 rfl) rfl rfl ?_
      refine z_imul (zat dd_X10_image 37 rfl) ?_
      refine z_iload_n 2 (zat dd_X10_image 38 rfl) rfl rfl ?_
      refine z_iadd (zat dd_X10_image 39 rfl) ?_
      refine z_aload_n 0 (zat dd_X10_image 40 rfl) rfl rfl ?_
      refine z_getR fl_X10_16 (zat dd_X10_image 41 rfl) (fun a7 => ?_)
      refine z_iload_n 2 (zat dd_X10_image 42 rfl) rfl rfl ?_
      refine z_iald (zat dd_X10_image 43 rfl) (fun x8 => ?_)
      refine z_iast (zat dd_X10_image 44 rfl) (fun h9 => ?_)
      refine z_iinc (y := v2 + 1) (lv' := [(2, .int (v2 + 1)), (0, .ref v0), (1, .int v1)]) 2 (zat dd_X10_image 45 rfl) rfl rfl (Nat.le_of_ble_eq_true rfl) rfl ?_
      refine z_goto (tgt := 48) (zat dd_X10_image 46 rfl) (by decide) ?_
      refine z_sub [1, 2, 0] rfl ?_
      exact ih v0 v1 (v2 + 1) h9
def f_X10_image_17 : Nat → Nat → Int32 → Int32 → zH → zR
  | 0, _, _, _, _ => none
  | n + 1, v0, v1, v2, h =>
  if 88 ≤ v2 then
  f_X10_image_48 zF v0 v1 0 h
  else
  zgR h v0 6 4 fun a1 =>
  zgR h v0 6 0 fun a2 =>
  zaI h a2 0 v2 fun x3 =>
  zsI h a1 0 ((88 * v1) + v2) x3 fun h4 =>
  f_X10_image_17 n v0 v1 (v2 + 1) h4
set_option maxRecDepth 100000 in
set_option maxHeartbeats 4000000 in
theorem zb_X10_image_17 (Y : zY) : ∀ (n : Nat) (v0 : Nat) (v1 : Int32) (v2 : Int32) (h : zH), Z Y M_X10_image 0 0 17 [(0, .ref v0), (1, .int v1), (2, .int v2)] [] h (f_X10_image_17 n v0 v1 v2 h) := by
  intro n
  induction n with
  | zero =>
    intro v0 v1 v2 h
    rw [f_X10_image_17]
    exact z_none
  | succ n ih =>
    intro v0 v1 v2 h
    rw [f_X10_image_17]
    refine z_iload_n 2 (zat dd_X10_image 11 rfl) rfl rfl ?_
    refine z_bipush (x := 88) (zat dd_X10_image 12 rfl) (by decide) ?_
    refine z_icmp_ge (tgt := 46) (zat dd_X10_image 13 rfl) (by decide) ?_ ?_
    · refine z_iconst (x := 0) (zat dd_X10_image 28 rfl) (by decide) ?_
      refine z_istore_n (lv' := [(2, .int 0), (0, .ref v0), (1, .int v1)]) (zat dd_X10_image 29 rfl) rfl (Nat.le_of_ble_eq_true rfl) rfl ?_
      refine z_sub [1, 2, 0] rfl ?_
      exact zb_X10_image_48 Y zF v0 v1 0 h
    · refine z_aload_n 0 (zat dd_X10_image 14 rfl) rfl rfl ?_
      refine z_getR fl_X10_19 (zat dd_X10_image 15 rfl) (fun a1 => ?_)
      refine z_bipush (x := 88) (zat dd_X10_image 16 rfl) (by decide) ?_
      refine z_iload_n 1 (zat dd_X10_image 17 rfl) rfl rfl ?_
      refine z_imul (zat dd_X10_image 18 rfl) ?_
      refine z_iload_n 2 (zat dd_X10_image 19 rfl) rfl rfl ?_
      refine z_iadd (zat dd_X10_image 20 rfl) ?_
      refine z_aload_n 0 (zat dd_X10_image 21 rfl) rfl rfl ?_
      refine z_getR fl_X10_7 (zat dd_X10_image 22 rfl) (fun a2 => ?_)
      refine z_iload_n 2 (zat dd_X10_image 23 rfl) rfl rfl ?_
      refine z_iald (zat dd_X10_image 24 rfl) (fun x3 => ?_)
      refine z_iast (zat dd_X10_image 25 rfl) (fun h4 => ?_)
      refine z_iinc (y := v2 + 1) (lv' := [(2, .int (v2 + 1)), (0, .ref v0), (1, .int v1)]) 2 (zat dd_X10_image 26 rfl) rfl rfl (Nat.le_of_ble_eq_true rfl) rfl ?_
      refine z_goto (tgt := 17) (zat dd_X10_image 27 rfl) (by decide) ?_
      refine z_sub [1, 2, 0] rfl ?_
      exact ih v0 v1 (v2 + 1) h4
def f_X10_image (v0 : Nat) (v1 : Int32) (h : zH) : zR :=
  zcI (f_X10_in ((v1 : Int32).toInt64) 0 1 h) fun x1 h2 =>
  if x1 = 0 then
  zoc h2 v0 6 <|
  zcI (f_X10_bad v0 h2) fun x3 h4 =>
  zrI x3 h4
  else
  f_X10_image_17 zF v0 v1 0 h2
set_option maxRecDepth 100000 in
set_option maxHeartbeats 4000000 in
theorem m_X10_image (l : Launch) (D : zD) (v0 : Nat) (v1 : Int32) (h : zH) : zMet l D yX10_image M_X10_image [.ref v0, .int v1] h (f_X10_image v0 v1 h) := by
  refine zMet.of (by decide +kernel) ⟨rfl, rfl⟩ (Nat.le_of_ble_eq_true rfl) (fun Y hl hD => ?_)
  show Z Y M_X10_image 0 0 0 [(0, .ref v0), (1, .int v1)] [] h _
  rw [f_X10_image]
  refine z_iload_n 1 (zat dd_X10_image 0 rfl) rfl rfl ?_
  refine z_i2l (zat dd_X10_image 1 rfl) ?_
  refine z_lconst (x := 0) (zat dd_X10_image 2 rfl) (by decide) ?_
  refine z_lconst (x := 1) (zat dd_X10_image 3 rfl) (by decide) ?_
  refine z_callS_I0 (M2 := M_X10_in) [.long ((v1 : Int32).toInt64), .long 0, .long 1] (fun l D _ _ => m_X10_in l D ((v1 : Int32).toInt64) 0 1 h) u_X10_in ql_X10_48 qi_X10_in rfl rfl (Nat.le_of_ble_eq_true rfl) (by decide) rfl rfl (zat dd_X10_image 4 rfl) (fun x1 h2 => ?_)
  refine z_if_ne (tgt := 15) (zat dd_X10_image 5 rfl) (by decide) ?_ ?_
  · refine z_iconst (x := 0) (zat dd_X10_image 9 rfl) (by decide) ?_
    refine z_istore_n (lv' := [(2, .int 0), (0, .ref v0), (1, .int v1)]) (zat dd_X10_image 10 rfl) rfl (Nat.le_of_ble_eq_true rfl) rfl ?_
    refine z_sub [1, 2, 0] rfl ?_
    exact zb_X10_image_17 Y zF v0 v1 0 h2
  · refine z_aload_n 0 (zat dd_X10_image 6 rfl) rfl rfl ?_
    refine z_callV_I0 (M2 := M_X10_bad) [] (fun l D _ _ => m_X10_bad l D v0 h2) u_X10_bad ql_X10_85 qi_X10_bad qs_X10_bad (ci := 6) rfl rfl rfl (Nat.le_of_ble_eq_true rfl) (by decide) rfl rfl (zat dd_X10_image 7 rfl) (fun x3 h4 => ?_)
    exact z_iret rfl (zat dd_X10_image 8 rfl)
/-! PaperDollsModel.from(I)I -/
def L_X10_from : List (Nat × Instr × Nat) := [(0, .iload_n 1, 1), (1, .i2l, 1), (2, .lconst 0, 1), (3, .lconst 1, 1), (4, .invokestatic 48, 3), (7, .ifCond .ne 8, 3), (10, .aload_n 0, 1), (11, .invokevirtual 85, 3), (14, .ireturn, 1), (15, .aload_n 0, 1), (16, .getfield 255, 3), (19, .iload_n 1, 1), (20, .invokestatic 180, 3), (23, .ifCond .ne 8, 3), (26, .aload_n 0, 1), (27, .invokevirtual 168, 3), (30, .ireturn, 1), (31, .iconst 0, 1), (32, .istore_n 2, 1), (33, .iload_n 2, 1), (34, .bipush 88, 2), (36, .if_icmp .ge 26, 3), (39, .aload_n 0, 1), (40, .getfield 7, 3), (43, .iload_n 2, 1), (44, .aload_n 0, 1), (45, .getfield 19, 3), (48, .bipush 88, 2), (50, .iload_n 1, 1), (51, .imul, 1), (52, .iload_n 2, 1), (53, .iadd, 1), (54, .iaload, 1), (55, .iastore, 1), (56, .iinc 2 1, 3), (59, .goto (-26), 3), (62, .iconst 0, 1), (63, .istore_n 2, 1), (64, .iload_n 2, 1), (65, .sipush 144, 3), (68, .if_icmp .ge 27, 3), (71, .aload_n 0, 1), (72, .getfield 16, 3), (75, .iload_n 2, 1), (76, .aload_n 0, 1), (77, .getfield 22, 3), (80, .sipush 144, 3), (83, .iload_n 1, 1), (84, .imul, 1), (85, .iload_n 2, 1), (86, .iadd, 1), (87, .iaload, 1), (88, .iastore, 1), (89, .iinc 2 1, 3), (92, .goto (-28), 3), (95, .aload_n 0, 1), (96, .aload_n 0, 1), (97, .getfield 25, 3), (100, .iload_n 1, 1), (101, .iaload, 1), (102, .putfield 95, 3), (105, .iconst 1, 1), (106, .ireturn, 1)]
theorem dd_X10_from : ∀ q ∈ L_X10_from, decode cX10_from q.1 = .ok q.2 := by decide +kernel
abbrev M_X10_from : zM := (cX10_from, RX10, "from", 3, some .int, 1, 0, 0)
theorem u_X10_from : zCal yX10_from (M_X10_from) 1 := ⟨(zmem 1183 (by decide +kernel) rfl : Cond.code yX10_from cX10_from 3 (some .int) ∈ zTb), zmem 63 (by decide +kernel) rfl, by decide +kernel, Nat.le_of_ble_eq_true rfl⟩
theorem qi_X10_from : Cond.instanceMethod yX10_from ∈ zTb := zmem 1181 (by decide +kernel) rfl
theorem qs_X10_from : Cond.selects yX10_from.cls yX10_from yX10_from ∈ zTb := zmem 1182 (by decide +kernel) rfl
def f_X10_from_64 : Nat → Nat → Int32 → Int32 → zH → zR
  | 0, _, _, _, _ => none
  | n + 1, v0, v1, v2, h =>
  if 144 ≤ v2 then
  zgR h v0 6 6 fun a1 =>
  zaI h a1 0 v1 fun x2 =>
  zpV h v0 6 3 (.int x2) fun h3 =>
  zrI 1 h3
  else
  zgR h v0 6 2 fun a4 =>
  zgR h v0 6 5 fun a5 =>
  zaI h a5 0 ((144 * v1) + v2) fun x6 =>
  zsI h a4 0 v2 x6 fun h7 =>
  f_X10_from_64 n v0 v1 (v2 + 1) h7
set_option maxRecDepth 100000 in
set_option maxHeartbeats 4000000 in
theorem zb_X10_from_64 (Y : zY) : ∀ (n : Nat) (v0 : Nat) (v1 : Int32) (v2 : Int32) (h : zH), Z Y M_X10_from 0 0 64 [(0, .ref v0), (1, .int v1), (2, .int v2)] [] h (f_X10_from_64 n v0 v1 v2 h) := by
  intro n
  induction n with
  | zero =>
    intro v0 v1 v2 h
    rw [f_X10_from_64]
    exact z_none
  | succ n ih =>
    intro v0 v1 v2 h
    rw [f_X10_from_64]
    refine z_iload_n 2 (zat dd_X10_from 38 rfl) rfl rfl ?_
    refine z_sipush (x := 144) (zat dd_X10_from 39 rfl) (by decide) ?_
    refine z_icmp_ge (tgt := 95) (zat dd_X10_from 40 rfl) (by decide) ?_ ?_
    · refine z_aload_n 0 (zat dd_X10_from 55 rfl) rfl rfl ?_
      refine z_aload_n 0 (zat dd_X10_from 56 rfl) rfl rfl ?_
      refine z_getR fl_X10_25 (zat dd_X10_from 57 rfl) (fun a1 => ?_)
      refine z_iload_n 1 (zat dd_X10_from 58 rfl) rfl rfl ?_
      refine z_iald (zat dd_X10_from 59 rfl) (fun x2 => ?_)
      refine z_put fl_X10_95 rfl rfl (zat dd_X10_from 60 rfl) (fun h3 => ?_)
      refine z_iconst (x := 1) (zat dd_X10_from 61 rfl) (by decide) ?_
      exact z_iret rfl (zat dd_X10_from 62 rfl)
    · refine z_aload_n 0 (zat dd_X10_from 41 rfl) rfl rfl ?_
      refine z_getR fl_X10_16 (zat dd_X10_from 42 rfl) (fun a4 => ?_)
      refine z_iload_n 2 (zat dd_X10_from 43 rfl) rfl rfl ?_
      refine z_aload_n 0 (zat dd_X10_from 44 rfl) rfl rfl ?_
      refine z_getR fl_X10_22 (zat dd_X10_from 45 rfl) (fun a5 => ?_)
      refine z_sipush (x := 144) (zat dd_X10_from 46 rfl) (by decide) ?_
      refine z_iload_n 1 (zat dd_X10_from 47 rfl) rfl rfl ?_
      refine z_imul (zat dd_X10_from 48 rfl) ?_
      refine z_iload_n 2 (zat dd_X10_from 49 rfl) rfl rfl ?_
      refine z_iadd (zat dd_X10_from 50 rfl) ?_
      refine z_iald (zat dd_X10_from 51 rfl) (fun x6 => ?_)
      refine z_iast (zat dd_X10_from 52 rfl) (fun h7 => ?_)
      refine z_iinc (y := v2 + 1) (lv' := [(2, .int (v2 + 1)), (0, .ref v0), (1, .int v1)]) 2 (zat dd_X10_from 53 rfl) rfl rfl (Nat.le_of_ble_eq_true rfl) rfl ?_
      refine z_goto (tgt := 64) (zat dd_X10_from 54 rfl) (by decide) ?_
      refine z_sub [1, 2, 0] rfl ?_
      exact ih v0 v1 (v2 + 1) h7
def f_X10_from_33 : Nat → Nat → Int32 → Int32 → zH → zR
  | 0, _, _, _, _ => none
  | n + 1, v0, v1, v2, h =>
  if 88 ≤ v2 then
  f_X10_from_64 zF v0 v1 0 h
  else
  zgR h v0 6 0 fun a1 =>
  zgR h v0 6 4 fun a2 =>
  zaI h a2 0 ((88 * v1) + v2) fun x3 =>
  zsI h a1 0 v2 x3 fun h4 =>
  f_X10_from_33 n v0 v1 (v2 + 1) h4
set_option maxRecDepth 100000 in
set_option maxHeartbeats 4000000 in
theorem zb_X10_from_33 (Y : zY) : ∀ (n : Nat) (v0 : Nat) (v1 : Int32) (v2 : Int32) (h : zH), Z Y M_X10_from 0 0 33 [(0, .ref v0), (1, .int v1), (2, .int v2)] [] h (f_X10_from_33 n v0 v1 v2 h) := by
  intro n
  induction n with
  | zero =>
    intro v0 v1 v2 h
    rw [f_X10_from_33]
    exact z_none
  | succ n ih =>
    intro v0 v1 v2 h
    rw [f_X10_from_33]
    refine z_iload_n 2 (zat dd_X10_from 19 rfl) rfl rfl ?_
    refine z_bipush (x := 88) (zat dd_X10_from 20 rfl) (by decide) ?_
    refine z_icmp_ge (tgt := 62) (zat dd_X10_from 21 rfl) (by decide) ?_ ?_
    · refine z_iconst (x := 0) (zat dd_X10_from 36 rfl) (by decide) ?_
      refine z_istore_n (lv' := [(2, .int 0), (0, .ref v0), (1, .int v1)]) (zat dd_X10_from 37 rfl) rfl (Nat.le_of_ble_eq_true rfl) rfl ?_
      refine z_sub [1, 2, 0] rfl ?_
      exact zb_X10_from_64 Y zF v0 v1 0 h
    · refine z_aload_n 0 (zat dd_X10_from 22 rfl) rfl rfl ?_
      refine z_getR fl_X10_7 (zat dd_X10_from 23 rfl) (fun a1 => ?_)
      refine z_iload_n 2 (zat dd_X10_from 24 rfl) rfl rfl ?_
      refine z_aload_n 0 (zat dd_X10_from 25 rfl) rfl rfl ?_
      refine z_getR fl_X10_19 (zat dd_X10_from 26 rfl) (fun a2 => ?_)
      refine z_bipush (x := 88) (zat dd_X10_from 27 rfl) (by decide) ?_
      refine z_iload_n 1 (zat dd_X10_from 28 rfl) rfl rfl ?_
      refine z_imul (zat dd_X10_from 29 rfl) ?_
      refine z_iload_n 2 (zat dd_X10_from 30 rfl) rfl rfl ?_
      refine z_iadd (zat dd_X10_from 31 rfl) ?_
      refine z_iald (zat dd_X10_from 32 rfl) (fun x3 => ?_)
      refine z_iast (zat dd_X10_from 33 rfl) (fun h4 => ?_)
      refine z_iinc (y := v2 + 1) (lv' := [(2, .int (v2 + 1)), (0, .ref v0), (1, .int v1)]) 2 (zat dd_X10_from 34 rfl) rfl rfl (Nat.le_of_ble_eq_true rfl) rfl ?_
      refine z_goto (tgt := 33) (zat dd_X10_from 35 rfl) (by decide) ?_
      refine z_sub [1, 2, 0] rfl ?_
      exact ih v0 v1 (v2 + 1) h4
def f_X10_from (v0 : Nat) (v1 : Int32) (h : zH) : zR :=
  zcI (f_X10_in ((v1 : Int32).toInt64) 0 1 h) fun x1 h2 =>
  if x1 = 0 then
  zoc h2 v0 6 <|
  zcI (f_X10_bad v0 h2) fun x8 h9 =>
  zrI x8 h9
  else
  zgI h2 v0 6 7 fun x3 =>
  zcI (f_X10_has x3 v1 h2) fun x4 h5 =>
  if x4 = 0 then
  zoc h5 v0 6 <|
  zcI (f_X10_no v0 h5) fun x6 h7 =>
  zrI x6 h7
  else
  f_X10_from_33 zF v0 v1 0 h5
set_option maxRecDepth 100000 in
set_option maxHeartbeats 4000000 in
theorem m_X10_from (l : Launch) (D : zD) (v0 : Nat) (v1 : Int32) (h : zH) : zMet l D yX10_from M_X10_from [.ref v0, .int v1] h (f_X10_from v0 v1 h) := by
  refine zMet.of (by decide +kernel) ⟨rfl, rfl⟩ (Nat.le_of_ble_eq_true rfl) (fun Y hl hD => ?_)
  show Z Y M_X10_from 0 0 0 [(0, .ref v0), (1, .int v1)] [] h _
  rw [f_X10_from]
  refine z_iload_n 1 (zat dd_X10_from 0 rfl) rfl rfl ?_
  refine z_i2l (zat dd_X10_from 1 rfl) ?_
  refine z_lconst (x := 0) (zat dd_X10_from 2 rfl) (by decide) ?_
  refine z_lconst (x := 1) (zat dd_X10_from 3 rfl) (by decide) ?_
  refine z_callS_I0 (M2 := M_X10_in) [.long ((v1 : Int32).toInt64), .long 0, .long 1] (fun l D _ _ => m_X10_in l D ((v1 : Int32).toInt64) 0 1 h) u_X10_in ql_X10_48 qi_X10_in rfl rfl (Nat.le_of_ble_eq_true rfl) (by decide) rfl rfl (zat dd_X10_from 4 rfl) (fun x1 h2 => ?_)
  refine z_if_ne (tgt := 15) (zat dd_X10_from 5 rfl) (by decide) ?_ ?_
  · refine z_aload_n 0 (zat dd_X10_from 9 rfl) rfl rfl ?_
    refine z_getI fl_X10_255 (zat dd_X10_from 10 rfl) (fun x3 => ?_)
    refine z_iload_n 1 (zat dd_X10_from 11 rfl) rfl rfl ?_
    refine z_callS_I0 (M2 := M_X10_has) [.int x3, .int v1] (fun l D _ _ => m_X10_has l D x3 v1 h2) u_X10_has ql_X10_180 qi_X10_has rfl rfl (Nat.le_of_ble_eq_true rfl) (by decide) rfl rfl (zat dd_X10_from 12 rfl) (fun x4 h5 => ?_)
    refine z_if_ne (tgt := 31) (zat dd_X10_from 13 rfl) (by decide) ?_ ?_
    · refine z_iconst (x := 0) (zat dd_X10_from 17 rfl) (by decide) ?_
      refine z_istore_n (lv' := [(2, .int 0), (0, .ref v0), (1, .int v1)]) (zat dd_X10_from 18 rfl) rfl (Nat.le_of_ble_eq_true rfl) rfl ?_
      refine z_sub [1, 2, 0] rfl ?_
      exact zb_X10_from_33 Y zF v0 v1 0 h5
    · refine z_aload_n 0 (zat dd_X10_from 14 rfl) rfl rfl ?_
      refine z_callV_I0 (M2 := M_X10_no) [] (fun l D _ _ => m_X10_no l D v0 h5) u_X10_no ql_X10_168 qi_X10_no qs_X10_no (ci := 6) rfl rfl rfl (Nat.le_of_ble_eq_true rfl) (by decide) rfl rfl (zat dd_X10_from 15 rfl) (fun x6 h7 => ?_)
      exact z_iret rfl (zat dd_X10_from 16 rfl)
  · refine z_aload_n 0 (zat dd_X10_from 6 rfl) rfl rfl ?_
    refine z_callV_I0 (M2 := M_X10_bad) [] (fun l D _ _ => m_X10_bad l D v0 h2) u_X10_bad ql_X10_85 qi_X10_bad qs_X10_bad (ci := 6) rfl rfl rfl (Nat.le_of_ble_eq_true rfl) (by decide) rfl rfl (zat dd_X10_from 7 rfl) (fun x8 h9 => ?_)
    exact z_iret rfl (zat dd_X10_from 8 rfl)
/-! PaperDollsModel.status(I)I -/
def L_X10_status : List (Nat × Instr × Nat) := [(0, .iload_n 1, 1), (1, .i2l, 1), (2, .lconst 0, 1), (3, .ldc2_w 258, 3), (6, .invokestatic 48, 3), (9, .ifCond .ne 10, 3), (12, .aload_n 0, 1), (13, .invokevirtual 85, 3), (16, .pop, 1), (17, .iconst (-1), 1), (18, .ireturn, 1), (19, .aload_n 0, 1), (20, .getfield 35, 3), (23, .iload_n 1, 1), (24, .iaload, 1), (25, .ireturn, 1)]
theorem dd_X10_status : ∀ q ∈ L_X10_status, decode cX10_status q.1 = .ok q.2 := by decide +kernel
abbrev M_X10_status : zM := (cX10_status, RX10, "status", 2, some .int, 1, 0, 0)
theorem u_X10_status : zCal yX10_status (M_X10_status) 1 := ⟨(zmem 1187 (by decide +kernel) rfl : Cond.code yX10_status cX10_status 2 (some .int) ∈ zTb), zmem 63 (by decide +kernel) rfl, by decide +kernel, Nat.le_of_ble_eq_true rfl⟩
theorem qi_X10_status : Cond.instanceMethod yX10_status ∈ zTb := zmem 1185 (by decide +kernel) rfl
theorem qs_X10_status : Cond.selects yX10_status.cls yX10_status yX10_status ∈ zTb := zmem 1186 (by decide +kernel) rfl
def f_X10_status (v0 : Nat) (v1 : Int32) (h : zH) : zR :=
  zcI (f_X10_in ((v1 : Int32).toInt64) 0 2 h) fun x1 h2 =>
  if x1 = 0 then
  zoc h2 v0 6 <|
  zcI (f_X10_bad v0 h2) fun x5 h6 =>
  zrI (-1) h6
  else
  zgR h2 v0 6 12 fun a3 =>
  zaI h2 a3 0 v1 fun x4 =>
  zrI x4 h2
set_option maxRecDepth 100000 in
set_option maxHeartbeats 4000000 in
theorem m_X10_status (l : Launch) (D : zD) (v0 : Nat) (v1 : Int32) (h : zH) : zMet l D yX10_status M_X10_status [.ref v0, .int v1] h (f_X10_status v0 v1 h) := by
  refine zMet.of (by decide +kernel) ⟨rfl, rfl⟩ (Nat.le_of_ble_eq_true rfl) (fun Y hl hD => ?_)
  show Z Y M_X10_status 0 0 0 [(0, .ref v0), (1, .int v1)] [] h _
  rw [f_X10_status]
  refine z_iload_n 1 (zat dd_X10_status 0 rfl) rfl rfl ?_
  refine z_i2l (zat dd_X10_status 1 rfl) ?_
  refine z_lconst (x := 0) (zat dd_X10_status 2 rfl) (by decide) ?_
  refine z_ldc2 (x := 2) qk_X10_258 (zat dd_X10_status 3 rfl) ?_
  refine z_callS_I0 (M2 := M_X10_in) [.long ((v1 : Int32).toInt64), .long 0, .long 2] (fun l D _ _ => m_X10_in l D ((v1 : Int32).toInt64) 0 2 h) u_X10_in ql_X10_48 qi_X10_in rfl rfl (Nat.le_of_ble_eq_true rfl) (by decide) rfl rfl (zat dd_X10_status 4 rfl) (fun x1 h2 => ?_)
  refine z_if_ne (tgt := 19) (zat dd_X10_status 5 rfl) (by decide) ?_ ?_
  · refine z_aload_n 0 (zat dd_X10_status 11 rfl) rfl rfl ?_
    refine z_getR fl_X10_35 (zat dd_X10_status 12 rfl) (fun a3 => ?_)
    refine z_iload_n 1 (zat dd_X10_status 13 rfl) rfl rfl ?_
    refine z_iald (zat dd_X10_status 14 rfl) (fun x4 => ?_)
    exact z_iret rfl (zat dd_X10_status 15 rfl)
  · refine z_aload_n 0 (zat dd_X10_status 6 rfl) rfl rfl ?_
    refine z_callV_I0 (M2 := M_X10_bad) [] (fun l D _ _ => m_X10_bad l D v0 h2) u_X10_bad ql_X10_85 qi_X10_bad qs_X10_bad (ci := 6) rfl rfl rfl (Nat.le_of_ble_eq_true rfl) (by decide) rfl rfl (zat dd_X10_status 7 rfl) (fun x5 h6 => ?_)
    refine z_pop (zat dd_X10_status 8 rfl) rfl ?_
    refine z_iconst (x := (-1)) (zat dd_X10_status 9 rfl) (by decide) ?_
    exact z_iret rfl (zat dd_X10_status 10 rfl)
/-! PaperDollsModel.wornAll()I -/
def L_X10_wornAll : List (Nat × Instr × Nat) := [(0, .iconst 0, 1), (1, .istore_n 1, 1), (2, .iconst 0, 1), (3, .istore_n 2, 1), (4, .iload_n 2, 1), (5, .aload_n 0, 1), (6, .getfield 7, 3), (9, .iconst 0, 1), (10, .iaload, 1), (11, .if_icmp .ge 21, 3), (14, .iload_n 1, 1), (15, .aload_n 0, 1), (16, .getfield 7, 3), (19, .bipush 36, 2), (21, .iload_n 2, 1), (22, .iadd, 1), (23, .iaload, 1), (24, .iadd, 1), (25, .istore_n 1, 1), (26, .iinc 2 1, 3), (29, .goto (-25), 3), (32, .iload_n 1, 1), (33, .ireturn, 1)]
theorem dd_X10_wornAll : ∀ q ∈ L_X10_wornAll, decode cX10_wornAll q.1 = .ok q.2 := by decide +kernel
abbrev M_X10_wornAll : zM := (cX10_wornAll, RX10, "wornAll", 3, some .int, 0, 0, 0)
theorem u_X10_wornAll : zCal yX10_wornAll (M_X10_wornAll) 0 := ⟨(zmem 1201 (by decide +kernel) rfl : Cond.code yX10_wornAll cX10_wornAll 3 (some .int) ∈ zTb), zmem 63 (by decide +kernel) rfl, by decide +kernel, Nat.le_of_ble_eq_true rfl⟩
theorem qi_X10_wornAll : Cond.instanceMethod yX10_wornAll ∈ zTb := zmem 1200 (by decide +kernel) rfl
theorem qs_X10_wornAll : Cond.selects yX10_wornAll.cls yX10_wornAll yX10_wornAll ∈ zTb := zmem 55 (by decide +kernel) rfl
def f_X10_wornAll_4 : Nat → Nat → Int32 → Int32 → zH → zR
  | 0, _, _, _, _ => none
  | n + 1, v0, v1, v2, h =>
  zgR h v0 6 0 fun a1 =>
  zaI h a1 0 0 fun x2 =>
  if x2 ≤ v2 then
  zrI v1 h
  else
  zgR h v0 6 0 fun a3 =>
  zaI h a3 0 (36 + v2) fun x4 =>
  zlt (v1 + x4) fun x5 =>
  f_X10_wornAll_4 n v0 x5 (v2 + 1) h
set_option maxRecDepth 100000 in
set_option maxHeartbeats 4000000 in
theorem zb_X10_wornAll_4 (Y : zY) : ∀ (n : Nat) (v0 : Nat) (v1 : Int32) (v2 : Int32) (h : zH), Z Y M_X10_wornAll 0 0 4 [(0, .ref v0), (1, .int v1), (2, .int v2)] [] h (f_X10_wornAll_4 n v0 v1 v2 h) := by
  intro n
  induction n with
  | zero =>
    intro v0 v1 v2 h
    rw [f_X10_wornAll_4]
    exact z_none
  | succ n ih =>
    intro v0 v1 v2 h
    rw [f_X10_wornAll_4]
    refine z_iload_n 2 (zat dd_X10_wornAll 4 rfl) rfl rfl ?_
    refine z_aload_n 0 (zat dd_X10_wornAll 5 rfl) rfl rfl ?_
    refine z_getR fl_X10_7 (zat dd_X10_wornAll 6 rfl) (fun a1 => ?_)
    refine z_iconst (x := 0) (zat dd_X10_wornAll 7 rfl) (by decide) ?_
    refine z_iald (zat dd_X10_wornAll 8 rfl) (fun x2 => ?_)
    refine z_icmp_ge (tgt := 32) (zat dd_X10_wornAll 9 rfl) (by decide) ?_ ?_
    · refine z_iload_n 1 (zat dd_X10_wornAll 21 rfl) rfl rfl ?_
      exact z_iret rfl (zat dd_X10_wornAll 22 rfl)
    · refine z_iload_n 1 (zat dd_X10_wornAll 10 rfl) rfl rfl ?_
      refine z_aload_n 0 (zat dd_X10_wornAll 11 rfl) rfl rfl ?_
      refine z_getR fl_X10_7 (zat dd_X10_wornAll 12 rfl) (fun a3 => ?_)
      refine z_bipush (x := 36) (zat dd_X10_wornAll 13 rfl) (by decide) ?_
      refine z_iload_n 2 (zat dd_X10_wornAll 14 rfl) rfl rfl ?_
      refine z_iadd (zat dd_X10_wornAll 15 rfl) ?_
      refine z_iald (zat dd_X10_wornAll 16 rfl) (fun x4 => ?_)
      refine z_iadd (zat dd_X10_wornAll 17 rfl) ?_
      refine z_let (fun x5 => ?_)
      refine z_istore_n (lv' := [(1, .int x5), (0, .ref v0), (2, .int v2)]) (zat dd_X10_wornAll 18 rfl) rfl (Nat.le_of_ble_eq_true rfl) rfl ?_
      refine z_iinc (y := v2 + 1) (lv' := [(2, .int (v2 + 1)), (1, .int x5), (0, .ref v0)]) 2 (zat dd_X10_wornAll 19 rfl) rfl rfl (Nat.le_of_ble_eq_true rfl) rfl ?_
      refine z_goto (tgt := 4) (zat dd_X10_wornAll 20 rfl) (by decide) ?_
      refine z_sub [2, 1, 0] rfl ?_
      exact ih v0 x5 (v2 + 1) h
def f_X10_wornAll (v0 : Nat) (h : zH) : zR :=
  f_X10_wornAll_4 zF v0 0 0 h
set_option maxRecDepth 100000 in
set_option maxHeartbeats 4000000 in
theorem m_X10_wornAll (l : Launch) (D : zD) (v0 : Nat) (h : zH) : zMet l D yX10_wornAll M_X10_wornAll [.ref v0] h (f_X10_wornAll v0 h) := by
  refine zMet.of (by decide +kernel) ⟨rfl, rfl⟩ (Nat.le_of_ble_eq_true rfl) (fun Y hl hD => ?_)
  show Z Y M_X10_wornAll 0 0 0 [(0, .ref v0)] [] h _
  rw [f_X10_wornAll]
  refine z_iconst (x := 0) (zat dd_X10_wornAll 0 rfl) (by decide) ?_
  refine z_istore_n (lv' := [(1, .int 0), (0, .ref v0)]) (zat dd_X10_wornAll 1 rfl) rfl (Nat.le_of_ble_eq_true rfl) rfl ?_
  refine z_iconst (x := 0) (zat dd_X10_wornAll 2 rfl) (by decide) ?_
  refine z_istore_n (lv' := [(2, .int 0), (1, .int 0), (0, .ref v0)]) (zat dd_X10_wornAll 3 rfl) rfl (Nat.le_of_ble_eq_true rfl) rfl ?_
  refine z_sub [2, 1, 0] rfl ?_
  exact zb_X10_wornAll_4 Y zF v0 0 0 h
/-! PaperDollsModel.countOf(I)I -/
def L_X10_countOf : List (Nat × Instr × Nat) := [(0, .aload_n 0, 1), (1, .invokevirtual 106, 3), (4, .iload_n 1, 1), (5, .tableswitch 129 0 9 #[55, 62, 69, 76, 81, 96, 101, 108, 116, 124], 55), (60, .aload_n 0, 1), (61, .getfield 7, 3), (64, .iconst 0, 1), (65, .iaload, 1), (66, .ireturn, 1), (67, .aload_n 0, 1), (68, .getfield 7, 3), (71, .iconst 3, 1), (72, .iaload, 1), (73, .ireturn, 1), (74, .aload_n 0, 1), (75, .getfield 7, 3), (78, .iconst 2, 1), (79, .iaload, 1), (80, .ireturn, 1), (81, .aload_n 0, 1), (82, .invokevirtual 207, 3), (85, .ireturn, 1), (86, .aload_n 0, 1), (87, .invokevirtual 207, 3), (90, .bipush 15, 2), (92, .if_icmp .ne 7, 3), (95, .iconst 1, 1), (96, .goto 4, 3), (99, .iconst 0, 1), (100, .ireturn, 1), (101, .aload_n 0, 1), (102, .invokevirtual 260, 3), (105, .ireturn, 1), (106, .aload_n 0, 1), (107, .getfield 7, 3), (110, .iconst 1, 1), (111, .iaload, 1), (112, .ireturn, 1), (113, .aload_n 0, 1), (114, .getfield 7, 3), (117, .bipush 44, 2), (119, .iaload, 1), (120, .ireturn, 1), (121, .aload_n 0, 1), (122, .getfield 7, 3), (125, .bipush 63, 2), (127, .iaload, 1), (128, .ireturn, 1), (129, .aload_n 0, 1), (130, .getfield 95, 3), (133, .ireturn, 1), (134, .aload_n 0, 1), (135, .getfield 115, 3), (138, .ireturn, 1)]
theorem dd_X10_countOf : ∀ q ∈ L_X10_countOf, decode cX10_countOf q.1 = .ok q.2 := by decide +kernel
abbrev M_X10_countOf : zM := (cX10_countOf, RX10, "countOf", 2, some .int, 2, 0, 0)
theorem u_X10_countOf : zCal yX10_countOf (M_X10_countOf) 1 := ⟨(zmem 1197 (by decide +kernel) rfl : Cond.code yX10_countOf cX10_countOf 2 (some .int) ∈ zTb), zmem 63 (by decide +kernel) rfl, by decide +kernel, Nat.le_of_ble_eq_true rfl⟩
theorem qi_X10_countOf : Cond.instanceMethod yX10_countOf ∈ zTb := zmem 1196 (by decide +kernel) rfl
theorem qs_X10_countOf : Cond.selects yX10_countOf.cls yX10_countOf yX10_countOf ∈ zTb := zmem 54 (by decide +kernel) rfl
def f_X10_countOf_100 (t0 : Int32) (h : zH) : zR :=
  zrI t0 h
set_option maxRecDepth 100000 in
set_option maxHeartbeats 4000000 in
theorem zb_X10_countOf_100 (Y : zY) (t0 : Int32) (h : zH) : Z Y M_X10_countOf 0 0 100 [] [.int t0] h (f_X10_countOf_100 t0 h) := by
  rw [f_X10_countOf_100]
  exact z_iret rfl (zat dd_X10_countOf 29 rfl)
def f_X10_countOf (v0 : Nat) (v1 : Int32) (h : zH) : zR :=
  zoc h v0 6 <|
  zcV (f_X10_aside v0 h) fun h1 =>
  if v1 = 0 then
  zgR h1 v0 6 0 fun a2 =>
  zaI h1 a2 0 0 fun x3 =>
  zrI x3 h1
  else
  if v1 = 1 then
  zgR h1 v0 6 0 fun a4 =>
  zaI h1 a4 0 3 fun x5 =>
  zrI x5 h1
  else
  if v1 = 2 then
  zgR h1 v0 6 0 fun a6 =>
  zaI h1 a6 0 2 fun x7 =>
  zrI x7 h1
  else
  if v1 = 3 then
  zoc h1 v0 6 <|
  zcI (f_X10_covered v0 h1) fun x8 h9 =>
  zrI x8 h9
  else
  if v1 = 4 then
  zoc h1 v0 6 <|
  zcI (f_X10_covered v0 h1) fun x10 h11 =>
  if x10 = 15 then
  f_X10_countOf_100 1 h11
  else
  f_X10_countOf_100 0 h11
  else
  if v1 = 5 then
  zoc h1 v0 6 <|
  zcI (f_X10_wornAll v0 h1) fun x12 h13 =>
  zrI x12 h13
  else
  if v1 = 6 then
  zgR h1 v0 6 0 fun a14 =>
  zaI h1 a14 0 1 fun x15 =>
  zrI x15 h1
  else
  if v1 = 7 then
  zgR h1 v0 6 0 fun a16 =>
  zaI h1 a16 0 44 fun x17 =>
  zrI x17 h1
  else
  if v1 = 8 then
  zgR h1 v0 6 0 fun a18 =>
  zaI h1 a18 0 63 fun x19 =>
  zrI x19 h1
  else
  if v1 = 9 then
  zgI h1 v0 6 3 fun x20 =>
  zrI x20 h1
  else
  zgI h1 v0 6 8 fun x21 =>
  zrI x21 h1
set_option maxRecDepth 100000 in
set_option maxHeartbeats 4000000 in
theorem m_X10_countOf (l : Launch) (D : zD) (v0 : Nat) (v1 : Int32) (h : zH) : zMet l D yX10_countOf M_X10_countOf [.ref v0, .int v1] h (f_X10_countOf v0 v1 h) := by
  refine zMet.of (by decide +kernel) ⟨rfl, rfl⟩ (Nat.le_of_ble_eq_true rfl) (fun Y hl hD => ?_)
  show Z Y M_X10_countOf 0 0 0 [(0, .ref v0), (1, .int v1)] [] h _
  rw [f_X10_countOf]
  refine z_aload_n 0 (zat dd_X10_countOf 0 rfl) rfl rfl ?_
  refine z_callV_V0 (M2 := M_X10_aside) [] (fun l D _ _ => m_X10_aside l D v0 h) u_X10_aside ql_X10_106 qi_X10_aside qs_X10_aside (ci := 6) rfl rfl rfl (Nat.le_of_ble_eq_true rfl) (by decide) rfl rfl (zat dd_X10_countOf 1 rfl) (fun h1 => ?_)
  refine z_iload_n 1 (zat dd_X10_countOf 2 rfl) rfl rfl ?_
  refine z_ite (fun c0 => ?_) (fun c0 => ?_)
  · refine z_tabIn (tgt := 60) 0 c0 (zat dd_X10_countOf 3 rfl) (by decide) (by decide) rfl (by decide) ?_
    refine z_aload_n 0 (zat dd_X10_countOf 4 rfl) rfl rfl ?_
    refine z_getR fl_X10_7 (zat dd_X10_countOf 5 rfl) (fun a2 => ?_)
    refine z_iconst (x := 0) (zat dd_X10_countOf 6 rfl) (by decide) ?_
    refine z_iald (zat dd_X10_countOf 7 rfl) (fun x3 => ?_)
    exact z_iret rfl (zat dd_X10_countOf 8 rfl)
  refine z_ite (fun c1 => ?_) (fun c1 => ?_)
  · refine z_tabIn (tgt := 67) 1 c1 (zat dd_X10_countOf 3 rfl) (by decide) (by decide) rfl (by decide) ?_
    refine z_aload_n 0 (zat dd_X10_countOf 9 rfl) rfl rfl ?_
    refine z_getR fl_X10_7 (zat dd_X10_countOf 10 rfl) (fun a4 => ?_)
    refine z_iconst (x := 3) (zat dd_X10_countOf 11 rfl) (by decide) ?_
    refine z_iald (zat dd_X10_countOf 12 rfl) (fun x5 => ?_)
    exact z_iret rfl (zat dd_X10_countOf 13 rfl)
  refine z_ite (fun c2 => ?_) (fun c2 => ?_)
  · refine z_tabIn (tgt := 74) 2 c2 (zat dd_X10_countOf 3 rfl) (by decide) (by decide) rfl (by decide) ?_
    refine z_aload_n 0 (zat dd_X10_countOf 14 rfl) rfl rfl ?_
    refine z_getR fl_X10_7 (zat dd_X10_countOf 15 rfl) (fun a6 => ?_)
    refine z_iconst (x := 2) (zat dd_X10_countOf 16 rfl) (by decide) ?_
    refine z_iald (zat dd_X10_countOf 17 rfl) (fun x7 => ?_)
    exact z_iret rfl (zat dd_X10_countOf 18 rfl)
  refine z_ite (fun c3 => ?_) (fun c3 => ?_)
  · refine z_tabIn (tgt := 81) 3 c3 (zat dd_X10_countOf 3 rfl) (by decide) (by decide) rfl (by decide) ?_
    refine z_aload_n 0 (zat dd_X10_countOf 19 rfl) rfl rfl ?_
    refine z_callV_I0 (M2 := M_X10_covered) [] (fun l D _ _ => m_X10_covered l D v0 h1) u_X10_covered ql_X10_207 qi_X10_covered qs_X10_covered (ci := 6) rfl rfl rfl (Nat.le_of_ble_eq_true rfl) (by decide) rfl rfl (zat dd_X10_countOf 20 rfl) (fun x8 h9 => ?_)
    exact z_iret rfl (zat dd_X10_countOf 21 rfl)
  refine z_ite (fun c4 => ?_) (fun c4 => ?_)
  · refine z_tabIn (tgt := 86) 4 c4 (zat dd_X10_countOf 3 rfl) (by decide) (by decide) rfl (by decide) ?_
    refine z_aload_n 0 (zat dd_X10_countOf 22 rfl) rfl rfl ?_
    refine z_callV_I0 (M2 := M_X10_covered) [] (fun l D _ _ => m_X10_covered l D v0 h1) u_X10_covered ql_X10_207 qi_X10_covered qs_X10_covered (ci := 6) rfl rfl rfl (Nat.le_of_ble_eq_true rfl) (by decide) rfl rfl (zat dd_X10_countOf 23 rfl) (fun x10 h11 => ?_)
    refine z_bipush (x := 15) (zat dd_X10_countOf 24 rfl) (by decide) ?_
    refine z_icmp_ne (tgt := 99) (zat dd_X10_countOf 25 rfl) (by decide) ?_ ?_
    · refine z_iconst (x := 0) (zat dd_X10_countOf 28 rfl) (by decide) ?_
      refine z_sub [] rfl ?_
      exact zb_X10_countOf_100 Y 0 h11
    · refine z_iconst (x := 1) (zat dd_X10_countOf 26 rfl) (by decide) ?_
      refine z_goto (tgt := 100) (zat dd_X10_countOf 27 rfl) (by decide) ?_
      refine z_sub [] rfl ?_
      exact zb_X10_countOf_100 Y 1 h11
  refine z_ite (fun c5 => ?_) (fun c5 => ?_)
  · refine z_tabIn (tgt := 101) 5 c5 (zat dd_X10_countOf 3 rfl) (by decide) (by decide) rfl (by decide) ?_
    refine z_aload_n 0 (zat dd_X10_countOf 30 rfl) rfl rfl ?_
    refine z_callV_I0 (M2 := M_X10_wornAll) [] (fun l D _ _ => m_X10_wornAll l D v0 h1) u_X10_wornAll ql_X10_260 qi_X10_wornAll qs_X10_wornAll (ci := 6) rfl rfl rfl (Nat.le_of_ble_eq_true rfl) (by decide) rfl rfl (zat dd_X10_countOf 31 rfl) (fun x12 h13 => ?_)
    exact z_iret rfl (zat dd_X10_countOf 32 rfl)
  refine z_ite (fun c6 => ?_) (fun c6 => ?_)
  · refine z_tabIn (tgt := 106) 6 c6 (zat dd_X10_countOf 3 rfl) (by decide) (by decide) rfl (by decide) ?_
    refine z_aload_n 0 (zat dd_X10_countOf 33 rfl) rfl rfl ?_
    refine z_getR fl_X10_7 (zat dd_X10_countOf 34 rfl) (fun a14 => ?_)
    refine z_iconst (x := 1) (zat dd_X10_countOf 35 rfl) (by decide) ?_
    refine z_iald (zat dd_X10_countOf 36 rfl) (fun x15 => ?_)
    exact z_iret rfl (zat dd_X10_countOf 37 rfl)
  refine z_ite (fun c7 => ?_) (fun c7 => ?_)
  · refine z_tabIn (tgt := 113) 7 c7 (zat dd_X10_countOf 3 rfl) (by decide) (by decide) rfl (by decide) ?_
    refine z_aload_n 0 (zat dd_X10_countOf 38 rfl) rfl rfl ?_
    refine z_getR fl_X10_7 (zat dd_X10_countOf 39 rfl) (fun a16 => ?_)
    refine z_bipush (x := 44) (zat dd_X10_countOf 40 rfl) (by decide) ?_
    refine z_iald (zat dd_X10_countOf 41 rfl) (fun x17 => ?_)
    exact z_iret rfl (zat dd_X10_countOf 42 rfl)
  refine z_ite (fun c8 => ?_) (fun c8 => ?_)
  · refine z_tabIn (tgt := 121) 8 c8 (zat dd_X10_countOf 3 rfl) (by decide) (by decide) rfl (by decide) ?_
    refine z_aload_n 0 (zat dd_X10_countOf 43 rfl) rfl rfl ?_
    refine z_getR fl_X10_7 (zat dd_X10_countOf 44 rfl) (fun a18 => ?_)
    refine z_bipush (x := 63) (zat dd_X10_countOf 45 rfl) (by decide) ?_
    refine z_iald (zat dd_X10_countOf 46 rfl) (fun x19 => ?_)
    exact z_iret rfl (zat dd_X10_countOf 47 rfl)
  refine z_ite (fun c9 => ?_) (fun c9 => ?_)
  · refine z_tabIn (tgt := 129) 9 c9 (zat dd_X10_countOf 3 rfl) (by decide) (by decide) rfl (by decide) ?_
    refine z_aload_n 0 (zat dd_X10_countOf 48 rfl) rfl rfl ?_
    refine z_getI fl_X10_95 (zat dd_X10_countOf 49 rfl) (fun x20 => ?_)
    exact z_iret rfl (zat dd_X10_countOf 50 rfl)
  refine z_tabOut (tgt := 134) (zat dd_X10_countOf 3 rfl) (by have g0 := lv_neT (a := 0) c0 rfl; have g1 := lv_neT (a := 1) c1 rfl; have g2 := lv_neT (a := 2) c2 rfl; have g3 := lv_neT (a := 3) c3 rfl; have g4 := lv_neT (a := 4) c4 rfl; have g5 := lv_neT (a := 5) c5 rfl; have g6 := lv_neT (a := 6) c6 rfl; have g7 := lv_neT (a := 7) c7 rfl; have g8 := lv_neT (a := 8) c8 rfl; have g9 := lv_neT (a := 9) c9 rfl; omega) (by decide) ?_
  refine z_aload_n 0 (zat dd_X10_countOf 51 rfl) rfl rfl ?_
  refine z_getI fl_X10_115 (zat dd_X10_countOf 52 rfl) (fun x21 => ?_)
  exact z_iret rfl (zat dd_X10_countOf 53 rfl)
/-! PaperDollsModel.count(I)I -/
def L_X10_count : List (Nat × Instr × Nat) := [(0, .iload_n 1, 1), (1, .i2l, 1), (2, .lconst 0, 1), (3, .ldc2_w 263, 3), (6, .invokestatic 48, 3), (9, .ifCond .eq 11, 3), (12, .aload_n 0, 1), (13, .iload_n 1, 1), (14, .invokevirtual 265, 3), (17, .goto 7, 3), (20, .aload_n 0, 1), (21, .invokevirtual 85, 3), (24, .ireturn, 1)]
theorem dd_X10_count : ∀ q ∈ L_X10_count, decode cX10_count q.1 = .ok q.2 := by decide +kernel
abbrev M_X10_count : zM := (cX10_count, RX10, "count", 2, some .int, 3, 0, 0)
theorem u_X10_count : zCal yX10_count (M_X10_count) 1 := ⟨(zmem 1192 (by decide +kernel) rfl : Cond.code yX10_count cX10_count 2 (some .int) ∈ zTb), zmem 63 (by decide +kernel) rfl, by decide +kernel, Nat.le_of_ble_eq_true rfl⟩
theorem qi_X10_count : Cond.instanceMethod yX10_count ∈ zTb := zmem 1190 (by decide +kernel) rfl
theorem qs_X10_count : Cond.selects yX10_count.cls yX10_count yX10_count ∈ zTb := zmem 1191 (by decide +kernel) rfl
def f_X10_count_24 (t0 : Int32) (h : zH) : zR :=
  zrI t0 h
set_option maxRecDepth 100000 in
set_option maxHeartbeats 4000000 in
theorem zb_X10_count_24 (Y : zY) (t0 : Int32) (h : zH) : Z Y M_X10_count 0 0 24 [] [.int t0] h (f_X10_count_24 t0 h) := by
  rw [f_X10_count_24]
  exact z_iret rfl (zat dd_X10_count 12 rfl)
def f_X10_count (v0 : Nat) (v1 : Int32) (h : zH) : zR :=
  zcI (f_X10_in ((v1 : Int32).toInt64) 0 10 h) fun x1 h2 =>
  if x1 = 0 then
  zoc h2 v0 6 <|
  zcI (f_X10_bad v0 h2) fun x3 h4 =>
  f_X10_count_24 x3 h4
  else
  zoc h2 v0 6 <|
  zcI (f_X10_countOf v0 v1 h2) fun x5 h6 =>
  f_X10_count_24 x5 h6
set_option maxRecDepth 100000 in
set_option maxHeartbeats 4000000 in
theorem m_X10_count (l : Launch) (D : zD) (v0 : Nat) (v1 : Int32) (h : zH) : zMet l D yX10_count M_X10_count [.ref v0, .int v1] h (f_X10_count v0 v1 h) := by
  refine zMet.of (by decide +kernel) ⟨rfl, rfl⟩ (Nat.le_of_ble_eq_true rfl) (fun Y hl hD => ?_)
  show Z Y M_X10_count 0 0 0 [(0, .ref v0), (1, .int v1)] [] h _
  rw [f_X10_count]
  refine z_iload_n 1 (zat dd_X10_count 0 rfl) rfl rfl ?_
  refine z_i2l (zat dd_X10_count 1 rfl) ?_
  refine z_lconst (x := 0) (zat dd_X10_count 2 rfl) (by decide) ?_
  refine z_ldc2 (x := 10) qk_X10_263 (zat dd_X10_count 3 rfl) ?_
  refine z_callS_I0 (M2 := M_X10_in) [.long ((v1 : Int32).toInt64), .long 0, .long 10] (fun l D _ _ => m_X10_in l D ((v1 : Int32).toInt64) 0 10 h) u_X10_in ql_X10_48 qi_X10_in rfl rfl (Nat.le_of_ble_eq_true rfl) (by decide) rfl rfl (zat dd_X10_count 4 rfl) (fun x1 h2 => ?_)
  refine z_if_eq (tgt := 20) (zat dd_X10_count 5 rfl) (by decide) ?_ ?_
  · refine z_aload_n 0 (zat dd_X10_count 10 rfl) rfl rfl ?_
    refine z_callV_I0 (M2 := M_X10_bad) [] (fun l D _ _ => m_X10_bad l D v0 h2) u_X10_bad ql_X10_85 qi_X10_bad qs_X10_bad (ci := 6) rfl rfl rfl (Nat.le_of_ble_eq_true rfl) (by decide) rfl rfl (zat dd_X10_count 11 rfl) (fun x3 h4 => ?_)
    refine z_sub [] rfl ?_
    exact zb_X10_count_24 Y x3 h4
  · refine z_aload_n 0 (zat dd_X10_count 6 rfl) rfl rfl ?_
    refine z_iload_n 1 (zat dd_X10_count 7 rfl) rfl rfl ?_
    refine z_callV_I0 (M2 := M_X10_countOf) [.int v1] (fun l D _ _ => m_X10_countOf l D v0 v1 h2) u_X10_countOf ql_X10_265 qi_X10_countOf qs_X10_countOf (ci := 6) rfl rfl rfl (Nat.le_of_ble_eq_true rfl) (by decide) rfl rfl (zat dd_X10_count 8 rfl) (fun x5 h6 => ?_)
    refine z_goto (tgt := 24) (zat dd_X10_count 9 rfl) (by decide) ?_
    refine z_sub [] rfl ?_
    exact zb_X10_count_24 Y x5 h6
/-! PaperDollsModel.digest()J -/
def L_X10_digest : List (Nat × Instr × Nat) := [(0, .ldc2_w 268, 3), (3, .lstore_n 1, 1), (4, .iconst 0, 1), (5, .istore_n 3, 1), (6, .iload_n 3, 1), (7, .bipush 11, 2), (9, .if_icmp .ge 22, 3), (12, .ldc2_w 270, 3), (15, .lload_n 1, 1), (16, .lmul, 1), (17, .aload_n 0, 1), (18, .iload_n 3, 1), (19, .invokevirtual 265, 3), (22, .i2l, 1), (23, .ladd, 1), (24, .lstore_n 1, 1), (25, .iinc 3 1, 3), (28, .goto (-22), 3), (31, .iconst 0, 1), (32, .istore_n 3, 1), (33, .iload_n 3, 1), (34, .aload_n 0, 1), (35, .getfield 7, 3), (38, .iconst 0, 1), (39, .iaload, 1), (40, .if_icmp .ge 77, 3), (43, .ldc2_w 270, 3), (46, .lload_n 1, 1), (47, .lmul, 1), (48, .aload_n 0, 1), (49, .getfield 7, 3), (52, .bipush 12, 2), (54, .iload_n 3, 1), (55, .iadd, 1), (56, .iaload, 1), (57, .i2l, 1), (58, .ladd, 1), (59, .lstore_n 1, 1), (60, .ldc2_w 270, 3), (63, .lload_n 1, 1), (64, .lmul, 1), (65, .aload_n 0, 1), (66, .getfield 7, 3), (69, .bipush 20, 2), (71, .iload_n 3, 1), (72, .iadd, 1), (73, .iaload, 1), (74, .i2l, 1), (75, .ladd, 1), (76, .lstore_n 1, 1), (77, .ldc2_w 270, 3), (80, .lload_n 1, 1), (81, .lmul, 1), (82, .aload_n 0, 1), (83, .getfield 7, 3), (86, .bipush 28, 2), (88, .iload_n 3, 1), (89, .iadd, 1), (90, .iaload, 1), (91, .i2l, 1), (92, .ladd, 1), (93, .lstore_n 1, 1), (94, .ldc2_w 270, 3), (97, .lload_n 1, 1), (98, .lmul, 1), (99, .aload_n 0, 1), (100, .getfield 7, 3), (103, .bipush 36, 2), (105, .iload_n 3, 1), (106, .iadd, 1), (107, .iaload, 1), (108, .i2l, 1), (109, .ladd, 1), (110, .lstore_n 1, 1), (111, .iinc 3 1, 3), (114, .goto (-81), 3), (117, .iconst 0, 1), (118, .istore_n 3, 1), (119, .iload_n 3, 1), (120, .aload_n 0, 1), (121, .getfield 7, 3), (124, .iconst 3, 1), (125, .iaload, 1), (126, .if_icmp .ge 25, 3), (129, .ldc2_w 270, 3), (132, .lload_n 1, 1), (133, .lmul, 1), (134, .aload_n 0, 1), (135, .getfield 7, 3), (138, .iconst 4, 1), (139, .iload_n 3, 1), (140, .iadd, 1), (141, .iaload, 1), (142, .i2l, 1), (143, .ladd, 1), (144, .lstore_n 1, 1), (145, .iinc 3 1, 3), (148, .goto (-29), 3), (151, .iconst 0, 1), (152, .istore_n 3, 1), (153, .iload_n 3, 1), (154, .iconst 3, 1), (155, .aload_n 0, 1), (156, .getfield 7, 3), (159, .bipush 44, 2), (161, .iaload, 1), (162, .imul, 1), (163, .if_icmp .ge 26, 3), (166, .ldc2_w 270, 3), (169, .lload_n 1, 1), (170, .lmul, 1), (171, .aload_n 0, 1), (172, .getfield 7, 3), (175, .bipush 45, 2), (177, .iload_n 3, 1), (178, .iadd, 1), (179, .iaload, 1), (180, .i2l, 1), (181, .ladd, 1), (182, .lstore_n 1, 1), (183, .iinc 3 1, 3), (186, .goto (-33), 3), (189, .iconst 0, 1), (190, .istore_n 3, 1), (191, .iload_n 3, 1), (192, .iconst 4, 1), (193, .aload_n 0, 1), (194, .getfield 7, 3), (197, .bipush 63, 2), (199, .iaload, 1), (200, .imul, 1), (201, .if_icmp .ge 26, 3), (204, .ldc2_w 270, 3), (207, .lload_n 1, 1), (208, .lmul, 1), (209, .aload_n 0, 1), (210, .getfield 7, 3), (213, .bipush 64, 2), (215, .iload_n 3, 1), (216, .iadd, 1), (217, .iaload, 1), (218, .i2l, 1), (219, .ladd, 1), (220, .lstore_n 1, 1), (221, .iinc 3 1, 3), (224, .goto (-33), 3), (227, .ldc2_w 270, 3), (230, .ldc2_w 270, 3), (233, .lload_n 1, 1), (234, .lmul, 1), (235, .aload_n 0, 1), (236, .getfield 232, 3), (239, .ladd, 1), (240, .lmul, 1), (241, .aload_n 0, 1), (242, .getfield 31, 3), (245, .ladd, 1), (246, .lreturn, 1)]
theorem dd_X10_digest : ∀ q ∈ L_X10_digest, decode cX10_digest q.1 = .ok q.2 := by decide +kernel
abbrev M_X10_digest : zM := (cX10_digest, RX10, "digest", 4, some .long, 3, 0, 0)
theorem u_X10_digest : zCal yX10_digest (M_X10_digest) 0 := ⟨(zmem 1205 (by decide +kernel) rfl : Cond.code yX10_digest cX10_digest 4 (some .long) ∈ zTb), zmem 63 (by decide +kernel) rfl, by decide +kernel, Nat.le_of_ble_eq_true rfl⟩
theorem qi_X10_digest : Cond.instanceMethod yX10_digest ∈ zTb := zmem 1203 (by decide +kernel) rfl
theorem qs_X10_digest : Cond.selects yX10_digest.cls yX10_digest yX10_digest ∈ zTb := zmem 1204 (by decide +kernel) rfl
def f_X10_digest_191 : Nat → Nat → Int64 → Int32 → zH → zR
  | 0, _, _, _, _ => none
  | n + 1, v0, v1, v3, h =>
  zgR h v0 6 0 fun a1 =>
  zaI h a1 0 63 fun x2 =>
  if (4 * x2) ≤ v3 then
  zgJ h v0 6 10 fun x3 =>
  zgJ h v0 6 11 fun x4 =>
  zrJ ((31 * ((31 * v1) + x3)) + x4) h
  else
  zgR h v0 6 0 fun a5 =>
  zaI h a5 0 (64 + v3) fun x6 =>
  zlt ((31 * v1) + ((x6 : Int32).toInt64)) fun x7 =>
  f_X10_digest_191 n v0 x7 (v3 + 1) h
set_option maxRecDepth 100000 in
set_option maxHeartbeats 4000000 in
theorem zb_X10_digest_191 (Y : zY) : ∀ (n : Nat) (v0 : Nat) (v1 : Int64) (v3 : Int32) (h : zH), Z Y M_X10_digest 0 0 191 [(0, .ref v0), (1, .long v1), (3, .int v3)] [] h (f_X10_digest_191 n v0 v1 v3 h) := by
  intro n
  induction n with
  | zero =>
    intro v0 v1 v3 h
    rw [f_X10_digest_191]
    exact z_none
  | succ n ih =>
    intro v0 v1 v3 h
    rw [f_X10_digest_191]
    refine z_iload_n 2 (zat dd_X10_digest 124 rfl) rfl rfl ?_
    refine z_iconst (x := 4) (zat dd_X10_digest 125 rfl) (by decide) ?_
    refine z_aload_n 0 (zat dd_X10_digest 126 rfl) rfl rfl ?_
    refine z_getR fl_X10_7 (zat dd_X10_digest 127 rfl) (fun a1 => ?_)
    refine z_bipush (x := 63) (zat dd_X10_digest 128 rfl) (by decide) ?_
    refine z_iald (zat dd_X10_digest 129 rfl) (fun x2 => ?_)
    refine z_imul (zat dd_X10_digest 130 rfl) ?_
    refine z_icmp_ge (tgt := 227) (zat dd_X10_digest 131 rfl) (by decide) ?_ ?_
    · refine z_ldc2 (x := 31) qk_X10_270 (zat dd_X10_digest 146 rfl) ?_
      refine z_ldc2 (x := 31) qk_X10_270 (zat dd_X10_digest 147 rfl) ?_
      refine z_lload_n 1 (zat dd_X10_digest 148 rfl) rfl rfl ?_
      refine z_lmul (zat dd_X10_digest 149 rfl) ?_
      refine z_aload_n 0 (zat dd_X10_digest 150 rfl) rfl rfl ?_
      refine z_getJ fl_X10_232 (zat dd_X10_digest 151 rfl) (fun x3 => ?_)
      refine z_ladd (zat dd_X10_digest 152 rfl) ?_
      refine z_lmul (zat dd_X10_digest 153 rfl) ?_
      refine z_aload_n 0 (zat dd_X10_digest 154 rfl) rfl rfl ?_
      refine z_getJ fl_X10_31 (zat dd_X10_digest 155 rfl) (fun x4 => ?_)
      refine z_ladd (zat dd_X10_digest 156 rfl) ?_
      exact z_lret rfl (zat dd_X10_digest 157 rfl)
    · refine z_ldc2 (x := 31) qk_X10_270 (zat dd_X10_digest 132 rfl) ?_
      refine z_lload_n 1 (zat dd_X10_digest 133 rfl) rfl rfl ?_
      refine z_lmul (zat dd_X10_digest 134 rfl) ?_
      refine z_aload_n 0 (zat dd_X10_digest 135 rfl) rfl rfl ?_
      refine z_getR fl_X10_7 (zat dd_X10_digest 136 rfl) (fun a5 => ?_)
      refine z_bipush (x := 64) (zat dd_X10_digest 137 rfl) (by decide) ?_
      refine z_iload_n 2 (zat dd_X10_digest 138 rfl) rfl rfl ?_
      refine z_iadd (zat dd_X10_digest 139 rfl) ?_
      refine z_iald (zat dd_X10_digest 140 rfl) (fun x6 => ?_)
      refine z_i2l (zat dd_X10_digest 141 rfl) ?_
      refine z_ladd (zat dd_X10_digest 142 rfl) ?_
      refine z_letJ (fun x7 => ?_)
      refine z_lstore_n (lv' := [(1, .long x7), (0, .ref v0), (3, .int v3)]) (zat dd_X10_digest 143 rfl) rfl (Nat.le_of_ble_eq_true rfl) rfl ?_
      refine z_iinc (y := v3 + 1) (lv' := [(3, .int (v3 + 1)), (1, .long x7), (0, .ref v0)]) 2 (zat dd_X10_digest 144 rfl) rfl rfl (Nat.le_of_ble_eq_true rfl) rfl ?_
      refine z_goto (tgt := 191) (zat dd_X10_digest 145 rfl) (by decide) ?_
      refine z_sub [2, 1, 0] rfl ?_
      exact ih v0 x7 (v3 + 1) h
def f_X10_digest_153 : Nat → Nat → Int64 → Int32 → zH → zR
  | 0, _, _, _, _ => none
  | n + 1, v0, v1, v3, h =>
  zgR h v0 6 0 fun a1 =>
  zaI h a1 0 44 fun x2 =>
  if (3 * x2) ≤ v3 then
  f_X10_digest_191 zF v0 v1 0 h
  else
  zgR h v0 6 0 fun a3 =>
  zaI h a3 0 (45 + v3) fun x4 =>
  zlt ((31 * v1) + ((x4 : Int32).toInt64)) fun x5 =>
  f_X10_digest_153 n v0 x5 (v3 + 1) h
set_option maxRecDepth 100000 in
set_option maxHeartbeats 4000000 in
theorem zb_X10_digest_153 (Y : zY) : ∀ (n : Nat) (v0 : Nat) (v1 : Int64) (v3 : Int32) (h : zH), Z Y M_X10_digest 0 0 153 [(0, .ref v0), (1, .long v1), (3, .int v3)] [] h (f_X10_digest_153 n v0 v1 v3 h) := by
  intro n
  induction n with
  | zero =>
    intro v0 v1 v3 h
    rw [f_X10_digest_153]
    exact z_none
  | succ n ih =>
    intro v0 v1 v3 h
    rw [f_X10_digest_153]
    refine z_iload_n 2 (zat dd_X10_digest 100 rfl) rfl rfl ?_
    refine z_iconst (x := 3) (zat dd_X10_digest 101 rfl) (by decide) ?_
    refine z_aload_n 0 (zat dd_X10_digest 102 rfl) rfl rfl ?_
    refine z_getR fl_X10_7 (zat dd_X10_digest 103 rfl) (fun a1 => ?_)
    refine z_bipush (x := 44) (zat dd_X10_digest 104 rfl) (by decide) ?_
    refine z_iald (zat dd_X10_digest 105 rfl) (fun x2 => ?_)
    refine z_imul (zat dd_X10_digest 106 rfl) ?_
    refine z_icmp_ge (tgt := 189) (zat dd_X10_digest 107 rfl) (by decide) ?_ ?_
    · refine z_iconst (x := 0) (zat dd_X10_digest 122 rfl) (by decide) ?_
      refine z_istore_n (lv' := [(3, .int 0), (0, .ref v0), (1, .long v1)]) (zat dd_X10_digest 123 rfl) rfl (Nat.le_of_ble_eq_true rfl) rfl ?_
      refine z_sub [1, 2, 0] rfl ?_
      exact zb_X10_digest_191 Y zF v0 v1 0 h
    · refine z_ldc2 (x := 31) qk_X10_270 (zat dd_X10_digest 108 rfl) ?_
      refine z_lload_n 1 (zat dd_X10_digest 109 rfl) rfl rfl ?_
      refine z_lmul (zat dd_X10_digest 110 rfl) ?_
      refine z_aload_n 0 (zat dd_X10_digest 111 rfl) rfl rfl ?_
      refine z_getR fl_X10_7 (zat dd_X10_digest 112 rfl) (fun a3 => ?_)
      refine z_bipush (x := 45) (zat dd_X10_digest 113 rfl) (by decide) ?_
      refine z_iload_n 2 (zat dd_X10_digest 114 rfl) rfl rfl ?_
      refine z_iadd (zat dd_X10_digest 115 rfl) ?_
      refine z_iald (zat dd_X10_digest 116 rfl) (fun x4 => ?_)
      refine z_i2l (zat dd_X10_digest 117 rfl) ?_
      refine z_ladd (zat dd_X10_digest 118 rfl) ?_
      refine z_letJ (fun x5 => ?_)
      refine z_lstore_n (lv' := [(1, .long x5), (0, .ref v0), (3, .int v3)]) (zat dd_X10_digest 119 rfl) rfl (Nat.le_of_ble_eq_true rfl) rfl ?_
      refine z_iinc (y := v3 + 1) (lv' := [(3, .int (v3 + 1)), (1, .long x5), (0, .ref v0)]) 2 (zat dd_X10_digest 120 rfl) rfl rfl (Nat.le_of_ble_eq_true rfl) rfl ?_
      refine z_goto (tgt := 153) (zat dd_X10_digest 121 rfl) (by decide) ?_
      refine z_sub [2, 1, 0] rfl ?_
      exact ih v0 x5 (v3 + 1) h
def f_X10_digest_119 : Nat → Nat → Int64 → Int32 → zH → zR
  | 0, _, _, _, _ => none
  | n + 1, v0, v1, v3, h =>
  zgR h v0 6 0 fun a1 =>
  zaI h a1 0 3 fun x2 =>
  if x2 ≤ v3 then
  f_X10_digest_153 zF v0 v1 0 h
  else
  zgR h v0 6 0 fun a3 =>
  zaI h a3 0 (4 + v3) fun x4 =>
  zlt ((31 * v1) + ((x4 : Int32).toInt64)) fun x5 =>
  f_X10_digest_119 n v0 x5 (v3 + 1) h
set_option maxRecDepth 100000 in
set_option maxHeartbeats 4000000 in
theorem zb_X10_digest_119 (Y : zY) : ∀ (n : Nat) (v0 : Nat) (v1 : Int64) (v3 : Int32) (h : zH), Z Y M_X10_digest 0 0 119 [(0, .ref v0), (1, .long v1), (3, .int v3)] [] h (f_X10_digest_119 n v0 v1 v3 h) := by
  intro n
  induction n with
  | zero =>
    intro v0 v1 v3 h
    rw [f_X10_digest_119]
    exact z_none
  | succ n ih =>
    intro v0 v1 v3 h
    rw [f_X10_digest_119]
    refine z_iload_n 2 (zat dd_X10_digest 78 rfl) rfl rfl ?_
    refine z_aload_n 0 (zat dd_X10_digest 79 rfl) rfl rfl ?_
    refine z_getR fl_X10_7 (zat dd_X10_digest 80 rfl) (fun a1 => ?_)
    refine z_iconst (x := 3) (zat dd_X10_digest 81 rfl) (by decide) ?_
    refine z_iald (zat dd_X10_digest 82 rfl) (fun x2 => ?_)
    refine z_icmp_ge (tgt := 151) (zat dd_X10_digest 83 rfl) (by decide) ?_ ?_
    · refine z_iconst (x := 0) (zat dd_X10_digest 98 rfl) (by decide) ?_
      refine z_istore_n (lv' := [(3, .int 0), (0, .ref v0), (1, .long v1)]) (zat dd_X10_digest 99 rfl) rfl (Nat.le_of_ble_eq_true rfl) rfl ?_
      refine z_sub [1, 2, 0] rfl ?_
      exact zb_X10_digest_153 Y zF v0 v1 0 h
    · refine z_ldc2 (x := 31) qk_X10_270 (zat dd_X10_digest 84 rfl) ?_
      refine z_lload_n 1 (zat dd_X10_digest 85 rfl) rfl rfl ?_
      refine z_lmul (zat dd_X10_digest 86 rfl) ?_
      refine z_aload_n 0 (zat dd_X10_digest 87 rfl) rfl rfl ?_
      refine z_getR fl_X10_7 (zat dd_X10_digest 88 rfl) (fun a3 => ?_)
      refine z_iconst (x := 4) (zat dd_X10_digest 89 rfl) (by decide) ?_
      refine z_iload_n 2 (zat dd_X10_digest 90 rfl) rfl rfl ?_
      refine z_iadd (zat dd_X10_digest 91 rfl) ?_
      refine z_iald (zat dd_X10_digest 92 rfl) (fun x4 => ?_)
      refine z_i2l (zat dd_X10_digest 93 rfl) ?_
      refine z_ladd (zat dd_X10_digest 94 rfl) ?_
      refine z_letJ (fun x5 => ?_)
      refine z_lstore_n (lv' := [(1, .long x5), (0, .ref v0), (3, .int v3)]) (zat dd_X10_digest 95 rfl) rfl (Nat.le_of_ble_eq_true rfl) rfl ?_
      refine z_iinc (y := v3 + 1) (lv' := [(3, .int (v3 + 1)), (1, .long x5), (0, .ref v0)]) 2 (zat dd_X10_digest 96 rfl) rfl rfl (Nat.le_of_ble_eq_true rfl) rfl ?_
      refine z_goto (tgt := 119) (zat dd_X10_digest 97 rfl) (by decide) ?_
      refine z_sub [2, 1, 0] rfl ?_
      exact ih v0 x5 (v3 + 1) h
def f_X10_digest_33 : Nat → Nat → Int64 → Int32 → zH → zR
  | 0, _, _, _, _ => none
  | n + 1, v0, v1, v3, h =>
  zgR h v0 6 0 fun a1 =>
  zaI h a1 0 0 fun x2 =>
  if x2 ≤ v3 then
  f_X10_digest_119 zF v0 v1 0 h
  else
  zgR h v0 6 0 fun a3 =>
  zaI h a3 0 (12 + v3) fun x4 =>
  zlt ((31 * v1) + ((x4 : Int32).toInt64)) fun x5 =>
  zgR h v0 6 0 fun a6 =>
  zaI h a6 0 (20 + v3) fun x7 =>
  zlt ((31 * x5) + ((x7 : Int32).toInt64)) fun x8 =>
  zgR h v0 6 0 fun a9 =>
  zaI h a9 0 (28 + v3) fun x10 =>
  zlt ((31 * x8) + ((x10 : Int32).toInt64)) fun x11 =>
  zgR h v0 6 0 fun a12 =>
  zaI h a12 0 (36 + v3) fun x13 =>
  zlt ((31 * x11) + ((x13 : Int32).toInt64)) fun x14 =>
  f_X10_digest_33 n v0 x14 (v3 + 1) h
set_option maxRecDepth 100000 in
set_option maxHeartbeats 4000000 in
theorem zb_X10_digest_33 (Y : zY) : ∀ (n : Nat) (v0 : Nat) (v1 : Int64) (v3 : Int32) (h : zH), Z Y M_X10_digest 0 0 33 [(0, .ref v0), (1, .long v1), (3, .int v3)] [] h (f_X10_digest_33 n v0 v1 v3 h) := by
  intro n
  induction n with
  | zero =>
    intro v0 v1 v3 h
    rw [f_X10_digest_33]
    exact z_none
  | succ n ih =>
    intro v0 v1 v3 h
    rw [f_X10_digest_33]
    refine z_iload_n 2 (zat dd_X10_digest 20 rfl) rfl rfl ?_
    refine z_aload_n 0 (zat dd_X10_digest 21 rfl) rfl rfl ?_
    refine z_getR fl_X10_7 (zat dd_X10_digest 22 rfl) (fun a1 => ?_)
    refine z_iconst (x := 0) (zat dd_X10_digest 23 rfl) (by decide) ?_
    refine z_iald (zat dd_X10_digest 24 rfl) (fun x2 => ?_)
    refine z_icmp_ge (tgt := 117) (zat dd_X10_digest 25 rfl) (by decide) ?_ ?_
    · refine z_iconst (x := 0) (zat dd_X10_digest 76 rfl) (by decide) ?_
      refine z_istore_n (lv' := [(3, .int 0), (0, .ref v0), (1, .long v1)]) (zat dd_X10_digest 77 rfl) rfl (Nat.le_of_ble_eq_true rfl) rfl ?_
      refine z_sub [1, 2, 0] rfl ?_
      exact zb_X10_digest_119 Y zF v0 v1 0 h
    · refine z_ldc2 (x := 31) qk_X10_270 (zat dd_X10_digest 26 rfl) ?_
      refine z_lload_n 1 (zat dd_X10_digest 27 rfl) rfl rfl ?_
      refine z_lmul (zat dd_X10_digest 28 rfl) ?_
      refine z_aload_n 0 (zat dd_X10_digest 29 rfl) rfl rfl ?_
      refine z_getR fl_X10_7 (zat dd_X10_digest 30 rfl) (fun a3 => ?_)
      refine z_bipush (x := 12) (zat dd_X10_digest 31 rfl) (by decide) ?_
      refine z_iload_n 2 (zat dd_X10_digest 32 rfl) rfl rfl ?_
      refine z_iadd (zat dd_X10_digest 33 rfl) ?_
      refine z_iald (zat dd_X10_digest 34 rfl) (fun x4 => ?_)
      refine z_i2l (zat dd_X10_digest 35 rfl) ?_
      refine z_ladd (zat dd_X10_digest 36 rfl) ?_
      refine z_letJ (fun x5 => ?_)
      refine z_lstore_n (lv' := [(1, .long x5), (0, .ref v0), (3, .int v3)]) (zat dd_X10_digest 37 rfl) rfl (Nat.le_of_ble_eq_true rfl) rfl ?_
      refine z_ldc2 (x := 31) qk_X10_270 (zat dd_X10_digest 38 rfl) ?_
      refine z_lload_n 0 (zat dd_X10_digest 39 rfl) rfl rfl ?_
      refine z_lmul (zat dd_X10_digest 40 rfl) ?_
      refine z_aload_n 1 (zat dd_X10_digest 41 rfl) rfl rfl ?_
      refine z_getR fl_X10_7 (zat dd_X10_digest 42 rfl) (fun a6 => ?_)
      refine z_bipush (x := 20) (zat dd_X10_digest 43 rfl) (by decide) ?_
      refine z_iload_n 2 (zat dd_X10_digest 44 rfl) rfl rfl ?_
      refine z_iadd (zat dd_X10_digest 45 rfl) ?_
      refine z_iald (zat dd_X10_digest 46 rfl) (fun x7 => ?_)
      refine z_i2l (zat dd_X10_digest 47 rfl) ?_
      refine z_ladd (zat dd_X10_digest 48 rfl) ?_
      refine z_letJ (fun x8 => ?_)
      refine z_lstore_n (lv' := [(1, .long x8), (0, .ref v0), (3, .int v3)]) (zat dd_X10_digest 49 rfl) rfl (Nat.le_of_ble_eq_true rfl) rfl ?_
      refine z_ldc2 (x := 31) qk_X10_270 (zat dd_X10_digest 50 rfl) ?_
      refine z_lload_n 0 (zat dd_X10_digest 51 rfl) rfl rfl ?_
      refine z_lmul (zat dd_X10_digest 52 rfl) ?_
      refine z_aload_n 1 (zat dd_X10_digest 53 rfl) rfl rfl ?_
      refine z_getR fl_X10_7 (zat dd_X10_digest 54 rfl) (fun a9 => ?_)
      refine z_bipush (x := 28) (zat dd_X10_digest 55 rfl) (by decide) ?_
      refine z_iload_n 2 (zat dd_X10_digest 56 rfl) rfl rfl ?_
      refine z_iadd (zat dd_X10_digest 57 rfl) ?_
      refine z_iald (zat dd_X10_digest 58 rfl) (fun x10 => ?_)
      refine z_i2l (zat dd_X10_digest 59 rfl) ?_
      refine z_ladd (zat dd_X10_digest 60 rfl) ?_
      refine z_letJ (fun x11 => ?_)
      refine z_lstore_n (lv' := [(1, .long x11), (0, .ref v0), (3, .int v3)]) (zat dd_X10_digest 61 rfl) rfl (Nat.le_of_ble_eq_true rfl) rfl ?_
      refine z_ldc2 (x := 31) qk_X10_270 (zat dd_X10_digest 62 rfl) ?_
      refine z_lload_n 0 (zat dd_X10_digest 63 rfl) rfl rfl ?_
      refine z_lmul (zat dd_X10_digest 64 rfl) ?_
      refine z_aload_n 1 (zat dd_X10_digest 65 rfl) rfl rfl ?_
      refine z_getR fl_X10_7 (zat dd_X10_digest 66 rfl) (fun a12 => ?_)
      refine z_bipush (x := 36) (zat dd_X10_digest 67 rfl) (by decide) ?_
      refine z_iload_n 2 (zat dd_X10_digest 68 rfl) rfl rfl ?_
      refine z_iadd (zat dd_X10_digest 69 rfl) ?_
      refine z_iald (zat dd_X10_digest 70 rfl) (fun x13 => ?_)
      refine z_i2l (zat dd_X10_digest 71 rfl) ?_
      refine z_ladd (zat dd_X10_digest 72 rfl) ?_
      refine z_letJ (fun x14 => ?_)
      refine z_lstore_n (lv' := [(1, .long x14), (0, .ref v0), (3, .int v3)]) (zat dd_X10_digest 73 rfl) rfl (Nat.le_of_ble_eq_true rfl) rfl ?_
      refine z_iinc (y := v3 + 1) (lv' := [(3, .int (v3 + 1)), (1, .long x14), (0, .ref v0)]) 2 (zat dd_X10_digest 74 rfl) rfl rfl (Nat.le_of_ble_eq_true rfl) rfl ?_
      refine z_goto (tgt := 33) (zat dd_X10_digest 75 rfl) (by decide) ?_
      refine z_sub [2, 1, 0] rfl ?_
      exact ih v0 x14 (v3 + 1) h
def f_X10_digest_6 : Nat → Nat → Int64 → Int32 → zH → zR
  | 0, _, _, _, _ => none
  | n + 1, v0, v1, v3, h =>
  if 11 ≤ v3 then
  f_X10_digest_33 zF v0 v1 0 h
  else
  zoc h v0 6 <|
  zcI (f_X10_countOf v0 v3 h) fun x1 h2 =>
  zlt ((31 * v1) + ((x1 : Int32).toInt64)) fun x3 =>
  f_X10_digest_6 n v0 x3 (v3 + 1) h2
set_option maxRecDepth 100000 in
set_option maxHeartbeats 4000000 in
theorem zb_X10_digest_6 (Y : zY) : ∀ (n : Nat) (v0 : Nat) (v1 : Int64) (v3 : Int32) (h : zH), Z Y M_X10_digest 0 0 6 [(0, .ref v0), (1, .long v1), (3, .int v3)] [] h (f_X10_digest_6 n v0 v1 v3 h) := by
  intro n
  induction n with
  | zero =>
    intro v0 v1 v3 h
    rw [f_X10_digest_6]
    exact z_none
  | succ n ih =>
    intro v0 v1 v3 h
    rw [f_X10_digest_6]
    refine z_iload_n 2 (zat dd_X10_digest 4 rfl) rfl rfl ?_
    refine z_bipush (x := 11) (zat dd_X10_digest 5 rfl) (by decide) ?_
    refine z_icmp_ge (tgt := 31) (zat dd_X10_digest 6 rfl) (by decide) ?_ ?_
    · refine z_iconst (x := 0) (zat dd_X10_digest 18 rfl) (by decide) ?_
      refine z_istore_n (lv' := [(3, .int 0), (0, .ref v0), (1, .long v1)]) (zat dd_X10_digest 19 rfl) rfl (Nat.le_of_ble_eq_true rfl) rfl ?_
      refine z_sub [1, 2, 0] rfl ?_
      exact zb_X10_digest_33 Y zF v0 v1 0 h
    · refine z_ldc2 (x := 31) qk_X10_270 (zat dd_X10_digest 7 rfl) ?_
      refine z_lload_n 1 (zat dd_X10_digest 8 rfl) rfl rfl ?_
      refine z_lmul (zat dd_X10_digest 9 rfl) ?_
      refine z_aload_n 0 (zat dd_X10_digest 10 rfl) rfl rfl ?_
      refine z_iload_n 2 (zat dd_X10_digest 11 rfl) rfl rfl ?_
      refine z_callV_I0 (M2 := M_X10_countOf) [.int v3] (fun l D _ _ => m_X10_countOf l D v0 v3 h) u_X10_countOf ql_X10_265 qi_X10_countOf qs_X10_countOf (ci := 6) rfl rfl rfl (Nat.le_of_ble_eq_true rfl) (by decide) rfl rfl (zat dd_X10_digest 12 rfl) (fun x1 h2 => ?_)
      refine z_i2l (zat dd_X10_digest 13 rfl) ?_
      refine z_ladd (zat dd_X10_digest 14 rfl) ?_
      refine z_letJ (fun x3 => ?_)
      refine z_lstore_n (lv' := [(1, .long x3), (0, .ref v0), (3, .int v3)]) (zat dd_X10_digest 15 rfl) rfl (Nat.le_of_ble_eq_true rfl) rfl ?_
      refine z_iinc (y := v3 + 1) (lv' := [(3, .int (v3 + 1)), (1, .long x3), (0, .ref v0)]) 2 (zat dd_X10_digest 16 rfl) rfl rfl (Nat.le_of_ble_eq_true rfl) rfl ?_
      refine z_goto (tgt := 6) (zat dd_X10_digest 17 rfl) (by decide) ?_
      refine z_sub [2, 1, 0] rfl ?_
      exact ih v0 x3 (v3 + 1) h2
def f_X10_digest (v0 : Nat) (h : zH) : zR :=
  f_X10_digest_6 zF v0 1867 0 h
set_option maxRecDepth 100000 in
set_option maxHeartbeats 4000000 in
theorem m_X10_digest (l : Launch) (D : zD) (v0 : Nat) (h : zH) : zMet l D yX10_digest M_X10_digest [.ref v0] h (f_X10_digest v0 h) := by
  refine zMet.of (by decide +kernel) ⟨rfl, rfl⟩ (Nat.le_of_ble_eq_true rfl) (fun Y hl hD => ?_)
  show Z Y M_X10_digest 0 0 0 [(0, .ref v0)] [] h _
  rw [f_X10_digest]
  refine z_ldc2 (x := 1867) qk_X10_268 (zat dd_X10_digest 0 rfl) ?_
  refine z_lstore_n (lv' := [(1, .long 1867), (0, .ref v0)]) (zat dd_X10_digest 1 rfl) rfl (Nat.le_of_ble_eq_true rfl) rfl ?_
  refine z_iconst (x := 0) (zat dd_X10_digest 2 rfl) (by decide) ?_
  refine z_istore_n (lv' := [(3, .int 0), (1, .long 1867), (0, .ref v0)]) (zat dd_X10_digest 3 rfl) rfl (Nat.le_of_ble_eq_true rfl) rfl ?_
  refine z_sub [2, 1, 0] rfl ?_
  exact zb_X10_digest_6 Y zF v0 1867 0 h
