/-! PaperDolls$Reader.<init>()V -/
def L_X5_init : List (Nat × Instr × Nat) := [(0, .aload_n 0, 1), (1, .invokespecial 3, 3), (4, .aload_n 0, 1), (5, .iconst 0, 1), (6, .newarray .byte, 2), (8, .putfield 9, 3), (11, .return_, 1)]
theorem dd_X5_init : ∀ q ∈ L_X5_init, decode cX5_init q.1 = .ok q.2 := by decide +kernel
abbrev M_X5_init : zM := (cX5_init, RX5, "<init>", 1, none, 0, 1, 0)
theorem u_X5_init : zCal yX5_init (M_X5_init) 0 := ⟨(zmem 183 (by decide +kernel) rfl : Cond.code yX5_init cX5_init 1 (none) ∈ zTb), zmem 60 (by decide +kernel) rfl, by decide +kernel, Nat.le_of_ble_eq_true rfl⟩
theorem qi_X5_init : Cond.instanceMethod yX5_init ∈ zTb := zmem 182 (by decide +kernel) rfl
def f_X5_init (v0 : Nat) (h : zH) : zR :=
  zN h (.inl (1, 0, .inl fun _ => 0)) fun a1 h2 =>
  zpV h2 v0 2 0 (.ref a1) fun h3 =>
  zrV h3
set_option maxRecDepth 100000 in
set_option maxHeartbeats 4000000 in
theorem m_X5_init (l : Launch) (D : zD) (v0 : Nat) (h : zH) : zMet l D yX5_init M_X5_init [.ref v0] h (f_X5_init v0 h) := by
  refine zMet.of (by decide +kernel) ⟨rfl, rfl⟩ (Nat.le_of_ble_eq_true rfl) (fun Y hl hD => ?_)
  show Z Y M_X5_init 0 0 0 [(0, .ref v0)] [] h _
  rw [f_X5_init]
  refine z_aload_n 0 (zat dd_X5_init 0 rfl) rfl rfl ?_
  refine z_objInit ql_X5_3 qo_inst qo_code (Nat.le_of_ble_eq_true rfl) (zat dd_X5_init 1 rfl) ?_
  refine z_aload_n 0 (zat dd_X5_init 2 rfl) rfl rfl ?_
  refine z_iconst (x := 0) (zat dd_X5_init 3 rfl) (by decide) ?_
  refine z_newA1 (cells2 := 1) (slots2 := 0) qa_byte (by decide) (by decide) (by decide) (by decide) (by decide) rfl rfl (zat dd_X5_init 4 rfl) (fun a1 h2 => ?_)
  refine z_put fl_X5_9 rfl rfl (zat dd_X5_init 5 rfl) (fun h3 => ?_)
  exact z_vret rfl (zat dd_X5_init 6 rfl)
/-! PaperDolls$Reader.advanceOverWord()V -/
def L_X5_advanceOverWord : List (Nat × Instr × Nat) := [(0, .aload_n 0, 1), (1, .getfield 25, 3), (4, .aload_n 0, 1), (5, .getfield 21, 3), (8, .if_icmp .ge 35, 3), (11, .aload_n 0, 1), (12, .getfield 9, 3), (15, .aload_n 0, 1), (16, .getfield 25, 3), (19, .baload, 1), (20, .bipush 97, 2), (22, .bipush 122, 2), (24, .invokestatic 101, 3), (27, .ifCond .eq 16, 3), (30, .aload_n 0, 1), (31, .dup, 1), (32, .getfield 25, 3), (35, .iconst 1, 1), (36, .iadd, 1), (37, .putfield 25, 3), (40, .goto (-40), 3), (43, .aload_n 0, 1), (44, .iconst 1, 1), (45, .putfield 44, 3), (48, .return_, 1)]
theorem dd_X5_advanceOverWord : ∀ q ∈ L_X5_advanceOverWord, decode cX5_advanceOverWord q.1 = .ok q.2 := by decide +kernel
abbrev M_X5_advanceOverWord : zM := (cX5_advanceOverWord, RX5, "advanceOverWord", 1, none, 1, 0, 0)
theorem u_X5_advanceOverWord : zCal yX5_advanceOverWord (M_X5_advanceOverWord) 0 := ⟨(zmem 342 (by decide +kernel) rfl : Cond.code yX5_advanceOverWord cX5_advanceOverWord 1 (none) ∈ zTb), zmem 60 (by decide +kernel) rfl, by decide +kernel, Nat.le_of_ble_eq_true rfl⟩
theorem qi_X5_advanceOverWord : Cond.instanceMethod yX5_advanceOverWord ∈ zTb := zmem 341 (by decide +kernel) rfl
theorem qs_X5_advanceOverWord : Cond.selects yX5_advanceOverWord.cls yX5_advanceOverWord yX5_advanceOverWord ∈ zTb := zmem 2 (by decide +kernel) rfl
def f_X5_advanceOverWord_43 (v0 : Nat) (h : zH) : zR :=
  zpV h v0 2 2 (.int 1) fun h1 =>
  zrV h1
set_option maxRecDepth 100000 in
set_option maxHeartbeats 4000000 in
theorem zb_X5_advanceOverWord_43 (Y : zY) (v0 : Nat) (h : zH) : Z Y M_X5_advanceOverWord 0 0 43 [(0, .ref v0)] [] h (f_X5_advanceOverWord_43 v0 h) := by
  rw [f_X5_advanceOverWord_43]
  refine z_aload_n 0 (zat dd_X5_advanceOverWord 21 rfl) rfl rfl ?_
  refine z_iconst (x := 1) (zat dd_X5_advanceOverWord 22 rfl) (by decide) ?_
  refine z_put fl_X5_44 rfl rfl (zat dd_X5_advanceOverWord 23 rfl) (fun h1 => ?_)
  exact z_vret rfl (zat dd_X5_advanceOverWord 24 rfl)
def f_X5_advanceOverWord_0 : Nat → Nat → zH → zR
  | 0, _, _ => none
  | n + 1, v0, h =>
  zgI h v0 2 4 fun x1 =>
  zgI h v0 2 1 fun x2 =>
  if x2 ≤ x1 then
  f_X5_advanceOverWord_43 v0 h
  else
  zgR h v0 2 0 fun a3 =>
  zgI h v0 2 4 fun x4 =>
  zaI h a3 1 x4 fun x5 =>
  zcI (f_X9_within x5 97 122 h) fun x6 h7 =>
  if x6 = 0 then
  f_X5_advanceOverWord_43 v0 h7
  else
  zgI h7 v0 2 4 fun x8 =>
  zpV h7 v0 2 4 (.int (x8 + 1)) fun h9 =>
  f_X5_advanceOverWord_0 n v0 h9
set_option maxRecDepth 100000 in
set_option maxHeartbeats 4000000 in
theorem zb_X5_advanceOverWord_0 (Y : zY) : ∀ (n : Nat) (v0 : Nat) (h : zH), Z Y M_X5_advanceOverWord 0 0 0 [(0, .ref v0)] [] h (f_X5_advanceOverWord_0 n v0 h) := by
  intro n
  induction n with
  | zero =>
    intro v0 h
    rw [f_X5_advanceOverWord_0]
    exact z_none
  | succ n ih =>
    intro v0 h
    rw [f_X5_advanceOverWord_0]
    refine z_aload_n 0 (zat dd_X5_advanceOverWord 0 rfl) rfl rfl ?_
    refine z_getI fl_X5_25 (zat dd_X5_advanceOverWord 1 rfl) (fun x1 => ?_)
    refine z_aload_n 0 (zat dd_X5_advanceOverWord 2 rfl) rfl rfl ?_
    refine z_getI fl_X5_21 (zat dd_X5_advanceOverWord 3 rfl) (fun x2 => ?_)
    refine z_icmp_ge (tgt := 43) (zat dd_X5_advanceOverWord 4 rfl) (by decide) ?_ ?_
    · exact zb_X5_advanceOverWord_43 Y v0 h
    · refine z_aload_n 0 (zat dd_X5_advanceOverWord 5 rfl) rfl rfl ?_
      refine z_getR fl_X5_9 (zat dd_X5_advanceOverWord 6 rfl) (fun a3 => ?_)
      refine z_aload_n 0 (zat dd_X5_advanceOverWord 7 rfl) rfl rfl ?_
      refine z_getI fl_X5_25 (zat dd_X5_advanceOverWord 8 rfl) (fun x4 => ?_)
      refine z_bald (zat dd_X5_advanceOverWord 9 rfl) (fun x5 => ?_)
      refine z_bipush (x := 97) (zat dd_X5_advanceOverWord 10 rfl) (by decide) ?_
      refine z_bipush (x := 122) (zat dd_X5_advanceOverWord 11 rfl) (by decide) ?_
      refine z_callSN_I0 (M2 := M_X9_within) [.int x5, .int 97, .int 122] (fun l D _ _ => m_X9_within l D x5 97 122 h) u_X9_within (by decide) qi_X9_within rfl rfl (Nat.le_of_ble_eq_true rfl) (by decide) rfl rfl (zat dd_X5_advanceOverWord 12 rfl) (fun x6 h7 => ?_)
      refine z_if_eq (tgt := 43) (zat dd_X5_advanceOverWord 13 rfl) (by decide) ?_ ?_
      · exact zb_X5_advanceOverWord_43 Y v0 h7
      · refine z_aload_n 0 (zat dd_X5_advanceOverWord 14 rfl) rfl rfl ?_
        refine z_dup (zat dd_X5_advanceOverWord 15 rfl) rfl ?_
        refine z_getI fl_X5_25 (zat dd_X5_advanceOverWord 16 rfl) (fun x8 => ?_)
        refine z_iconst (x := 1) (zat dd_X5_advanceOverWord 17 rfl) (by decide) ?_
        refine z_iadd (zat dd_X5_advanceOverWord 18 rfl) ?_
        refine z_put fl_X5_25 rfl rfl (zat dd_X5_advanceOverWord 19 rfl) (fun h9 => ?_)
        refine z_goto (tgt := 0) (zat dd_X5_advanceOverWord 20 rfl) (by decide) ?_
        exact ih v0 h9
def f_X5_advanceOverWord (v0 : Nat) (h : zH) : zR :=
  f_X5_advanceOverWord_0 zF v0 h
set_option maxRecDepth 100000 in
set_option maxHeartbeats 4000000 in
theorem m_X5_advanceOverWord (l : Launch) (D : zD) (v0 : Nat) (h : zH) : zMet l D yX5_advanceOverWord M_X5_advanceOverWord [.ref v0] h (f_X5_advanceOverWord v0 h) := by
  refine zMet.of (by decide +kernel) ⟨rfl, rfl⟩ (Nat.le_of_ble_eq_true rfl) (fun Y hl hD => ?_)
  show Z Y M_X5_advanceOverWord 0 0 0 [(0, .ref v0)] [] h _
  rw [f_X5_advanceOverWord]
  exact zb_X5_advanceOverWord_0 Y zF v0 h
/-! PaperDolls$Reader.advanceOverNumber()V -/
def L_X5_advanceOverNumber : List (Nat × Instr × Nat) := [(0, .aload_n 0, 1), (1, .iconst 0, 1), (2, .putfield 79, 3), (5, .aload_n 0, 1), (6, .getfield 25, 3), (9, .aload_n 0, 1), (10, .getfield 21, 3), (13, .if_icmp .ge 59, 3), (16, .aload_n 0, 1), (17, .getfield 9, 3), (20, .aload_n 0, 1), (21, .getfield 25, 3), (24, .baload, 1), (25, .bipush 48, 2), (27, .bipush 57, 2), (29, .invokestatic 101, 3), (32, .ifCond .eq 40, 3), (35, .aload_n 0, 1), (36, .aload_n 0, 1), (37, .getfield 79, 3), (40, .bipush 10, 2), (42, .imul, 1), (43, .aload_n 0, 1), (44, .getfield 9, 3), (47, .aload_n 0, 1), (48, .getfield 25, 3), (51, .baload, 1), (52, .iadd, 1), (53, .bipush 48, 2), (55, .isub, 1), (56, .putfield 79, 3), (59, .aload_n 0, 1), (60, .dup, 1), (61, .getfield 25, 3), (64, .iconst 1, 1), (65, .iadd, 1), (66, .putfield 25, 3), (69, .goto (-64), 3), (72, .aload_n 0, 1), (73, .aload_n 0, 1), (74, .getfield 25, 3), (77, .aload_n 0, 1), (78, .getfield 41, 3), (81, .isub, 1), (82, .iconst 2, 1), (83, .if_icmp .gt 7, 3), (86, .iconst 2, 1), (87, .goto 4, 3), (90, .iconst 4, 1), (91, .putfield 44, 3), (94, .return_, 1)]
theorem dd_X5_advanceOverNumber : ∀ q ∈ L_X5_advanceOverNumber, decode cX5_advanceOverNumber q.1 = .ok q.2 := by decide +kernel
abbrev M_X5_advanceOverNumber : zM := (cX5_advanceOverNumber, RX5, "advanceOverNumber", 1, none, 1, 0, 0)
theorem u_X5_advanceOverNumber : zCal yX5_advanceOverNumber (M_X5_advanceOverNumber) 0 := ⟨(zmem 346 (by decide +kernel) rfl : Cond.code yX5_advanceOverNumber cX5_advanceOverNumber 1 (none) ∈ zTb), zmem 60 (by decide +kernel) rfl, by decide +kernel, Nat.le_of_ble_eq_true rfl⟩
theorem qi_X5_advanceOverNumber : Cond.instanceMethod yX5_advanceOverNumber ∈ zTb := zmem 345 (by decide +kernel) rfl
theorem qs_X5_advanceOverNumber : Cond.selects yX5_advanceOverNumber.cls yX5_advanceOverNumber yX5_advanceOverNumber ∈ zTb := zmem 3 (by decide +kernel) rfl
def f_X5_advanceOverNumber_91 (t0 : Int32) (t1 : Nat) (h : zH) : zR :=
  zpV h t1 2 2 (.int t0) fun h1 =>
  zrV h1
set_option maxRecDepth 100000 in
set_option maxHeartbeats 4000000 in
theorem zb_X5_advanceOverNumber_91 (Y : zY) (t0 : Int32) (t1 : Nat) (h : zH) : Z Y M_X5_advanceOverNumber 0 0 91 [] [.int t0, .ref t1] h (f_X5_advanceOverNumber_91 t0 t1 h) := by
  rw [f_X5_advanceOverNumber_91]
  refine z_put fl_X5_44 rfl rfl (zat dd_X5_advanceOverNumber 49 rfl) (fun h1 => ?_)
  exact z_vret rfl (zat dd_X5_advanceOverNumber 50 rfl)
def f_X5_advanceOverNumber_72 (v0 : Nat) (h : zH) : zR :=
  zgI h v0 2 4 fun x1 =>
  zgI h v0 2 3 fun x2 =>
  if 2 < (x1 - x2) then
  f_X5_advanceOverNumber_91 4 v0 h
  else
  f_X5_advanceOverNumber_91 2 v0 h
set_option maxRecDepth 100000 in
set_option maxHeartbeats 4000000 in
theorem zb_X5_advanceOverNumber_72 (Y : zY) (v0 : Nat) (h : zH) : Z Y M_X5_advanceOverNumber 0 0 72 [(0, .ref v0)] [] h (f_X5_advanceOverNumber_72 v0 h) := by
  rw [f_X5_advanceOverNumber_72]
  refine z_aload_n 0 (zat dd_X5_advanceOverNumber 38 rfl) rfl rfl ?_
  refine z_aload_n 0 (zat dd_X5_advanceOverNumber 39 rfl) rfl rfl ?_
  refine z_getI fl_X5_25 (zat dd_X5_advanceOverNumber 40 rfl) (fun x1 => ?_)
  refine z_aload_n 0 (zat dd_X5_advanceOverNumber 41 rfl) rfl rfl ?_
  refine z_getI fl_X5_41 (zat dd_X5_advanceOverNumber 42 rfl) (fun x2 => ?_)
  refine z_isub (zat dd_X5_advanceOverNumber 43 rfl) ?_
  refine z_iconst (x := 2) (zat dd_X5_advanceOverNumber 44 rfl) (by decide) ?_
  refine z_icmp_gt (tgt := 90) (zat dd_X5_advanceOverNumber 45 rfl) (by decide) ?_ ?_
  · refine z_iconst (x := 4) (zat dd_X5_advanceOverNumber 48 rfl) (by decide) ?_
    refine z_sub [] rfl ?_
    exact zb_X5_advanceOverNumber_91 Y 4 v0 h
  · refine z_iconst (x := 2) (zat dd_X5_advanceOverNumber 46 rfl) (by decide) ?_
    refine z_goto (tgt := 91) (zat dd_X5_advanceOverNumber 47 rfl) (by decide) ?_
    refine z_sub [] rfl ?_
    exact zb_X5_advanceOverNumber_91 Y 2 v0 h
def f_X5_advanceOverNumber_5 : Nat → Nat → zH → zR
  | 0, _, _ => none
  | n + 1, v0, h =>
  zgI h v0 2 4 fun x1 =>
  zgI h v0 2 1 fun x2 =>
  if x2 ≤ x1 then
  f_X5_advanceOverNumber_72 v0 h
  else
  zgR h v0 2 0 fun a3 =>
  zgI h v0 2 4 fun x4 =>
  zaI h a3 1 x4 fun x5 =>
  zcI (f_X9_within x5 48 57 h) fun x6 h7 =>
  if x6 = 0 then
  f_X5_advanceOverNumber_72 v0 h7
  else
  zgI h7 v0 2 5 fun x8 =>
  zgR h7 v0 2 0 fun a9 =>
  zgI h7 v0 2 4 fun x10 =>
  zaI h7 a9 1 x10 fun x11 =>
  zpV h7 v0 2 5 (.int (((x8 * 10) + x11) - 48)) fun h12 =>
  zgI h12 v0 2 4 fun x13 =>
  zpV h12 v0 2 4 (.int (x13 + 1)) fun h14 =>
  f_X5_advanceOverNumber_5 n v0 h14
set_option maxRecDepth 100000 in
set_option maxHeartbeats 4000000 in
theorem zb_X5_advanceOverNumber_5 (Y : zY) : ∀ (n : Nat) (v0 : Nat) (h : zH), Z Y M_X5_advanceOverNumber 0 0 5 [(0, .ref v0)] [] h (f_X5_advanceOverNumber_5 n v0 h) := by
  intro n
  induction n with
  | zero =>
    intro v0 h
    rw [f_X5_advanceOverNumber_5]
    exact z_none
  | succ n ih =>
    intro v0 h
    rw [f_X5_advanceOverNumber_5]
    refine z_aload_n 0 (zat dd_X5_advanceOverNumber 3 rfl) rfl rfl ?_
    refine z_getI fl_X5_25 (zat dd_X5_advanceOverNumber 4 rfl) (fun x1 => ?_)
    refine z_aload_n 0 (zat dd_X5_advanceOverNumber 5 rfl) rfl rfl ?_
    refine z_getI fl_X5_21 (zat dd_X5_advanceOverNumber 6 rfl) (fun x2 => ?_)
    refine z_icmp_ge (tgt := 72) (zat dd_X5_advanceOverNumber 7 rfl) (by decide) ?_ ?_
    · exact zb_X5_advanceOverNumber_72 Y v0 h
    · refine z_aload_n 0 (zat dd_X5_advanceOverNumber 8 rfl) rfl rfl ?_
      refine z_getR fl_X5_9 (zat dd_X5_advanceOverNumber 9 rfl) (fun a3 => ?_)
      refine z_aload_n 0 (zat dd_X5_advanceOverNumber 10 rfl) rfl rfl ?_
      refine z_getI fl_X5_25 (zat dd_X5_advanceOverNumber 11 rfl) (fun x4 => ?_)
      refine z_bald (zat dd_X5_advanceOverNumber 12 rfl) (fun x5 => ?_)
      refine z_bipush (x := 48) (zat dd_X5_advanceOverNumber 13 rfl) (by decide) ?_
      refine z_bipush (x := 57) (zat dd_X5_advanceOverNumber 14 rfl) (by decide) ?_
      refine z_callSN_I0 (M2 := M_X9_within) [.int x5, .int 48, .int 57] (fun l D _ _ => m_X9_within l D x5 48 57 h) u_X9_within (by decide) qi_X9_within rfl rfl (Nat.le_of_ble_eq_true rfl) (by decide) rfl rfl (zat dd_X5_advanceOverNumber 15 rfl) (fun x6 h7 => ?_)
      refine z_if_eq (tgt := 72) (zat dd_X5_advanceOverNumber 16 rfl) (by decide) ?_ ?_
      · exact zb_X5_advanceOverNumber_72 Y v0 h7
      · refine z_aload_n 0 (zat dd_X5_advanceOverNumber 17 rfl) rfl rfl ?_
        refine z_aload_n 0 (zat dd_X5_advanceOverNumber 18 rfl) rfl rfl ?_
        refine z_getI fl_X5_79 (zat dd_X5_advanceOverNumber 19 rfl) (fun x8 => ?_)
        refine z_bipush (x := 10) (zat dd_X5_advanceOverNumber 20 rfl) (by decide) ?_
        refine z_imul (zat dd_X5_advanceOverNumber 21 rfl) ?_
        refine z_aload_n 0 (zat dd_X5_advanceOverNumber 22 rfl) rfl rfl ?_
        refine z_getR fl_X5_9 (zat dd_X5_advanceOverNumber 23 rfl) (fun a9 => ?_)
        refine z_aload_n 0 (zat dd_X5_advanceOverNumber 24 rfl) rfl rfl ?_
        refine z_getI fl_X5_25 (zat dd_X5_advanceOverNumber 25 rfl) (fun x10 => ?_)
        refine z_bald (zat dd_X5_advanceOverNumber 26 rfl) (fun x11 => ?_)
        refine z_iadd (zat dd_X5_advanceOverNumber 27 rfl) ?_
        refine z_bipush (x := 48) (zat dd_X5_advanceOverNumber 28 rfl) (by decide) ?_
        refine z_isub (zat dd_X5_advanceOverNumber 29 rfl) ?_
        refine z_put fl_X5_79 rfl rfl (zat dd_X5_advanceOverNumber 30 rfl) (fun h12 => ?_)
        refine z_aload_n 0 (zat dd_X5_advanceOverNumber 31 rfl) rfl rfl ?_
        refine z_dup (zat dd_X5_advanceOverNumber 32 rfl) rfl ?_
        refine z_getI fl_X5_25 (zat dd_X5_advanceOverNumber 33 rfl) (fun x13 => ?_)
        refine z_iconst (x := 1) (zat dd_X5_advanceOverNumber 34 rfl) (by decide) ?_
        refine z_iadd (zat dd_X5_advanceOverNumber 35 rfl) ?_
        refine z_put fl_X5_25 rfl rfl (zat dd_X5_advanceOverNumber 36 rfl) (fun h14 => ?_)
        refine z_goto (tgt := 5) (zat dd_X5_advanceOverNumber 37 rfl) (by decide) ?_
        exact ih v0 h14
def f_X5_advanceOverNumber (v0 : Nat) (h : zH) : zR :=
  zpV h v0 2 5 (.int 0) fun h1 =>
  f_X5_advanceOverNumber_5 zF v0 h1
set_option maxRecDepth 100000 in
set_option maxHeartbeats 4000000 in
theorem m_X5_advanceOverNumber (l : Launch) (D : zD) (v0 : Nat) (h : zH) : zMet l D yX5_advanceOverNumber M_X5_advanceOverNumber [.ref v0] h (f_X5_advanceOverNumber v0 h) := by
  refine zMet.of (by decide +kernel) ⟨rfl, rfl⟩ (Nat.le_of_ble_eq_true rfl) (fun Y hl hD => ?_)
  show Z Y M_X5_advanceOverNumber 0 0 0 [(0, .ref v0)] [] h _
  rw [f_X5_advanceOverNumber]
  refine z_aload_n 0 (zat dd_X5_advanceOverNumber 0 rfl) rfl rfl ?_
  refine z_iconst (x := 0) (zat dd_X5_advanceOverNumber 1 rfl) (by decide) ?_
  refine z_put fl_X5_79 rfl rfl (zat dd_X5_advanceOverNumber 2 rfl) (fun h1 => ?_)
  exact zb_X5_advanceOverNumber_5 Y zF v0 h1
/-! PaperDolls$Reader.advance()V -/
def L_X5_advance : List (Nat × Instr × Nat) := [(0, .aload_n 0, 1), (1, .aload_n 0, 1), (2, .getfield 25, 3), (5, .putfield 41, 3), (8, .aload_n 0, 1), (9, .getfield 41, 3), (12, .aload_n 0, 1), (13, .getfield 21, 3), (16, .if_icmp .ge 30, 3), (19, .aload_n 0, 1), (20, .getfield 9, 3), (23, .aload_n 0, 1), (24, .getfield 41, 3), (27, .baload, 1), (28, .bipush 32, 2), (30, .if_icmp .ne 16, 3), (33, .aload_n 0, 1), (34, .dup, 1), (35, .getfield 41, 3), (38, .iconst 1, 1), (39, .iadd, 1), (40, .putfield 41, 3), (43, .goto (-35), 3), (46, .aload_n 0, 1), (47, .aload_n 0, 1), (48, .getfield 41, 3), (51, .putfield 25, 3), (54, .aload_n 0, 1), (55, .getfield 41, 3), (58, .aload_n 0, 1), (59, .getfield 21, 3), (62, .if_icmp .lt 11, 3), (65, .aload_n 0, 1), (66, .iconst 0, 1), (67, .putfield 44, 3), (70, .goto 88, 3), (73, .aload_n 0, 1), (74, .getfield 9, 3), (77, .aload_n 0, 1), (78, .getfield 41, 3), (81, .baload, 1), (82, .bipush 97, 2), (84, .bipush 122, 2), (86, .invokestatic 101, 3), (89, .ifCond .eq 10, 3), (92, .aload_n 0, 1), (93, .invokevirtual 114, 3), (96, .goto 62, 3), (99, .aload_n 0, 1), (100, .getfield 9, 3), (103, .aload_n 0, 1), (104, .getfield 41, 3), (107, .baload, 1), (108, .bipush 48, 2), (110, .bipush 57, 2), (112, .invokestatic 101, 3), (115, .ifCond .eq 10, 3), (118, .aload_n 0, 1), (119, .invokevirtual 117, 3), (122, .goto 36, 3), (125, .aload_n 0, 1), (126, .aload_n 0, 1), (127, .getfield 9, 3), (130, .aload_n 0, 1), (131, .getfield 41, 3), (134, .baload, 1), (135, .bipush 59, 2), (137, .if_icmp .ne 7, 3), (140, .iconst 3, 1), (141, .goto 4, 3), (144, .iconst 4, 1), (145, .putfield 44, 3), (148, .aload_n 0, 1), (149, .aload_n 0, 1), (150, .getfield 41, 3), (153, .iconst 1, 1), (154, .iadd, 1), (155, .putfield 25, 3), (158, .return_, 1)]
theorem dd_X5_advance : ∀ q ∈ L_X5_advance, decode cX5_advance q.1 = .ok q.2 := by decide +kernel
abbrev M_X5_advance : zM := (cX5_advance, RX5, "advance", 1, none, 2, 0, 0)
theorem u_X5_advance : zCal yX5_advance (M_X5_advance) 0 := ⟨(zmem 337 (by decide +kernel) rfl : Cond.code yX5_advance cX5_advance 1 (none) ∈ zTb), zmem 60 (by decide +kernel) rfl, by decide +kernel, Nat.le_of_ble_eq_true rfl⟩
theorem qi_X5_advance : Cond.instanceMethod yX5_advance ∈ zTb := zmem 336 (by decide +kernel) rfl
theorem qs_X5_advance : Cond.selects yX5_advance.cls yX5_advance yX5_advance ∈ zTb := zmem 1 (by decide +kernel) rfl
def f_X5_advance_158 (h : zH) : zR :=
  zrV h
set_option maxRecDepth 100000 in
set_option maxHeartbeats 4000000 in
theorem zb_X5_advance_158 (Y : zY) (h : zH) : Z Y M_X5_advance 0 0 158 [] [] h (f_X5_advance_158  h) := by
  rw [f_X5_advance_158]
  exact z_vret rfl (zat dd_X5_advance 78 rfl)
def f_X5_advance_145 (v0 : Nat) (t0 : Int32) (t1 : Nat) (h : zH) : zR :=
  zpV h t1 2 2 (.int t0) fun h1 =>
  zgI h1 v0 2 3 fun x2 =>
  zpV h1 v0 2 4 (.int (x2 + 1)) fun h3 =>
  f_X5_advance_158 h3
set_option maxRecDepth 100000 in
set_option maxHeartbeats 4000000 in
theorem zb_X5_advance_145 (Y : zY) (v0 : Nat) (t0 : Int32) (t1 : Nat) (h : zH) : Z Y M_X5_advance 0 0 145 [(0, .ref v0)] [.int t0, .ref t1] h (f_X5_advance_145 v0 t0 t1 h) := by
  rw [f_X5_advance_145]
  refine z_put fl_X5_44 rfl rfl (zat dd_X5_advance 71 rfl) (fun h1 => ?_)
  refine z_aload_n 0 (zat dd_X5_advance 72 rfl) rfl rfl ?_
  refine z_aload_n 0 (zat dd_X5_advance 73 rfl) rfl rfl ?_
  refine z_getI fl_X5_41 (zat dd_X5_advance 74 rfl) (fun x2 => ?_)
  refine z_iconst (x := 1) (zat dd_X5_advance 75 rfl) (by decide) ?_
  refine z_iadd (zat dd_X5_advance 76 rfl) ?_
  refine z_put fl_X5_25 rfl rfl (zat dd_X5_advance 77 rfl) (fun h3 => ?_)
  refine z_sub [] rfl ?_
  exact zb_X5_advance_158 Y h3
def f_X5_advance_46 (v0 : Nat) (h : zH) : zR :=
  zgI h v0 2 3 fun x1 =>
  zpV h v0 2 4 (.int x1) fun h2 =>
  zgI h2 v0 2 3 fun x3 =>
  zgI h2 v0 2 1 fun x4 =>
  if x3 < x4 then
  zgR h2 v0 2 0 fun a5 =>
  zgI h2 v0 2 3 fun x6 =>
  zaI h2 a5 1 x6 fun x7 =>
  zcI (f_X9_within x7 97 122 h2) fun x8 h9 =>
  if x8 = 0 then
  zgR h9 v0 2 0 fun a10 =>
  zgI h9 v0 2 3 fun x11 =>
  zaI h9 a10 1 x11 fun x12 =>
  zcI (f_X9_within x12 48 57 h9) fun x13 h14 =>
  if x13 = 0 then
  zgR h14 v0 2 0 fun a15 =>
  zgI h14 v0 2 3 fun x16 =>
  zaI h14 a15 1 x16 fun x17 =>
  if x17 = 59 then
  f_X5_advance_145 v0 3 v0 h14
  else
  f_X5_advance_145 v0 4 v0 h14
  else
  zoc h14 v0 2 <|
  zcV (f_X5_advanceOverNumber v0 h14) fun h18 =>
  f_X5_advance_158 h18
  else
  zoc h9 v0 2 <|
  zcV (f_X5_advanceOverWord v0 h9) fun h19 =>
  f_X5_advance_158 h19
  else
  zpV h2 v0 2 2 (.int 0) fun h20 =>
  f_X5_advance_158 h20
set_option maxRecDepth 100000 in
set_option maxHeartbeats 4000000 in
theorem zb_X5_advance_46 (Y : zY) (v0 : Nat) (h : zH) : Z Y M_X5_advance 0 0 46 [(0, .ref v0)] [] h (f_X5_advance_46 v0 h) := by
  rw [f_X5_advance_46]
  refine z_aload_n 0 (zat dd_X5_advance 23 rfl) rfl rfl ?_
  refine z_aload_n 0 (zat dd_X5_advance 24 rfl) rfl rfl ?_
  refine z_getI fl_X5_41 (zat dd_X5_advance 25 rfl) (fun x1 => ?_)
  refine z_put fl_X5_25 rfl rfl (zat dd_X5_advance 26 rfl) (fun h2 => ?_)
  refine z_aload_n 0 (zat dd_X5_advance 27 rfl) rfl rfl ?_
  refine z_getI fl_X5_41 (zat dd_X5_advance 28 rfl) (fun x3 => ?_)
  refine z_aload_n 0 (zat dd_X5_advance 29 rfl) rfl rfl ?_
  refine z_getI fl_X5_21 (zat dd_X5_advance 30 rfl) (fun x4 => ?_)
  refine z_icmp_lt (tgt := 73) (zat dd_X5_advance 31 rfl) (by decide) ?_ ?_
  · refine z_aload_n 0 (zat dd_X5_advance 36 rfl) rfl rfl ?_
    refine z_getR fl_X5_9 (zat dd_X5_advance 37 rfl) (fun a5 => ?_)
    refine z_aload_n 0 (zat dd_X5_advance 38 rfl) rfl rfl ?_
    refine z_getI fl_X5_41 (zat dd_X5_advance 39 rfl) (fun x6 => ?_)
    refine z_bald (zat dd_X5_advance 40 rfl) (fun x7 => ?_)
    refine z_bipush (x := 97) (zat dd_X5_advance 41 rfl) (by decide) ?_
    refine z_bipush (x := 122) (zat dd_X5_advance 42 rfl) (by decide) ?_
    refine z_callSN_I0 (M2 := M_X9_within) [.int x7, .int 97, .int 122] (fun l D _ _ => m_X9_within l D x7 97 122 h2) u_X9_within (by decide) qi_X9_within rfl rfl (Nat.le_of_ble_eq_true rfl) (by decide) rfl rfl (zat dd_X5_advance 43 rfl) (fun x8 h9 => ?_)
    refine z_if_eq (tgt := 99) (zat dd_X5_advance 44 rfl) (by decide) ?_ ?_
    · refine z_aload_n 0 (zat dd_X5_advance 48 rfl) rfl rfl ?_
      refine z_getR fl_X5_9 (zat dd_X5_advance 49 rfl) (fun a10 => ?_)
      refine z_aload_n 0 (zat dd_X5_advance 50 rfl) rfl rfl ?_
      refine z_getI fl_X5_41 (zat dd_X5_advance 51 rfl) (fun x11 => ?_)
      refine z_bald (zat dd_X5_advance 52 rfl) (fun x12 => ?_)
      refine z_bipush (x := 48) (zat dd_X5_advance 53 rfl) (by decide) ?_
      refine z_bipush (x := 57) (zat dd_X5_advance 54 rfl) (by decide) ?_
      refine z_callSN_I0 (M2 := M_X9_within) [.int x12, .int 48, .int 57] (fun l D _ _ => m_X9_within l D x12 48 57 h9) u_X9_within (by decide) qi_X9_within rfl rfl (Nat.le_of_ble_eq_true rfl) (by decide) rfl rfl (zat dd_X5_advance 55 rfl) (fun x13 h14 => ?_)
      refine z_if_eq (tgt := 125) (zat dd_X5_advance 56 rfl) (by decide) ?_ ?_
      · refine z_aload_n 0 (zat dd_X5_advance 60 rfl) rfl rfl ?_
        refine z_aload_n 0 (zat dd_X5_advance 61 rfl) rfl rfl ?_
        refine z_getR fl_X5_9 (zat dd_X5_advance 62 rfl) (fun a15 => ?_)
        refine z_aload_n 0 (zat dd_X5_advance 63 rfl) rfl rfl ?_
        refine z_getI fl_X5_41 (zat dd_X5_advance 64 rfl) (fun x16 => ?_)
        refine z_bald (zat dd_X5_advance 65 rfl) (fun x17 => ?_)
        refine z_bipush (x := 59) (zat dd_X5_advance 66 rfl) (by decide) ?_
        refine z_icmp_ne (tgt := 144) (zat dd_X5_advance 67 rfl) (by decide) ?_ ?_
        · refine z_iconst (x := 4) (zat dd_X5_advance 70 rfl) (by decide) ?_
          exact zb_X5_advance_145 Y v0 4 v0 h14
        · refine z_iconst (x := 3) (zat dd_X5_advance 68 rfl) (by decide) ?_
          refine z_goto (tgt := 145) (zat dd_X5_advance 69 rfl) (by decide) ?_
          exact zb_X5_advance_145 Y v0 3 v0 h14
      · refine z_aload_n 0 (zat dd_X5_advance 57 rfl) rfl rfl ?_
        refine z_callV_V0 (M2 := M_X5_advanceOverNumber) [] (fun l D _ _ => m_X5_advanceOverNumber l D v0 h14) u_X5_advanceOverNumber ql_X5_117 qi_X5_advanceOverNumber qs_X5_advanceOverNumber (ci := 2) rfl rfl rfl (Nat.le_of_ble_eq_true rfl) (by decide) rfl rfl (zat dd_X5_advance 58 rfl) (fun h18 => ?_)
        refine z_goto (tgt := 158) (zat dd_X5_advance 59 rfl) (by decide) ?_
        refine z_sub [] rfl ?_
        exact zb_X5_advance_158 Y h18
    · refine z_aload_n 0 (zat dd_X5_advance 45 rfl) rfl rfl ?_
      refine z_callV_V0 (M2 := M_X5_advanceOverWord) [] (fun l D _ _ => m_X5_advanceOverWord l D v0 h9) u_X5_advanceOverWord ql_X5_114 qi_X5_advanceOverWord qs_X5_advanceOverWord (ci := 2) rfl rfl rfl (Nat.le_of_ble_eq_true rfl) (by decide) rfl rfl (zat dd_X5_advance 46 rfl) (fun h19 => ?_)
      refine z_goto (tgt := 158) (zat dd_X5_advance 47 rfl) (by decide) ?_
      refine z_sub [] rfl ?_
      exact zb_X5_advance_158 Y h19
  · refine z_aload_n 0 (zat dd_X5_advance 32 rfl) rfl rfl ?_
    refine z_iconst (x := 0) (zat dd_X5_advance 33 rfl) (by decide) ?_
    refine z_put fl_X5_44 rfl rfl (zat dd_X5_advance 34 rfl) (fun h20 => ?_)
    refine z_goto (tgt := 158) (zat dd_X5_advance 35 rfl) (by decide) ?_
    refine z_sub [] rfl ?_
    exact zb_X5_advance_158 Y h20
def f_X5_advance_8 : Nat → Nat → zH → zR
  | 0, _, _ => none
  | n + 1, v0, h =>
  zgI h v0 2 3 fun x1 =>
  zgI h v0 2 1 fun x2 =>
  if x2 ≤ x1 then
  f_X5_advance_46 v0 h
  else
  zgR h v0 2 0 fun a3 =>
  zgI h v0 2 3 fun x4 =>
  zaI h a3 1 x4 fun x5 =>
  if x5 = 32 then
  zgI h v0 2 3 fun x6 =>
  zpV h v0 2 3 (.int (x6 + 1)) fun h7 =>
  f_X5_advance_8 n v0 h7
  else
  f_X5_advance_46 v0 h
set_option maxRecDepth 100000 in
set_option maxHeartbeats 4000000 in
theorem zb_X5_advance_8 (Y : zY) : ∀ (n : Nat) (v0 : Nat) (h : zH), Z Y M_X5_advance 0 0 8 [(0, .ref v0)] [] h (f_X5_advance_8 n v0 h) := by
  intro n
  induction n with
  | zero =>
    intro v0 h
    rw [f_X5_advance_8]
    exact z_none
  | succ n ih =>
    intro v0 h
    rw [f_X5_advance_8]
    refine z_aload_n 0 (zat dd_X5_advance 4 rfl) rfl rfl ?_
    refine z_getI fl_X5_41 (zat dd_X5_advance 5 rfl) (fun x1 => ?_)
    refine z_aload_n 0 (zat dd_X5_advance 6 rfl) rfl rfl ?_
    refine z_getI fl_X5_21 (zat dd_X5_advance 7 rfl) (fun x2 => ?_)
    refine z_icmp_ge (tgt := 46) (zat dd_X5_advance 8 rfl) (by decide) ?_ ?_
    · exact zb_X5_advance_46 Y v0 h
    · refine z_aload_n 0 (zat dd_X5_advance 9 rfl) rfl rfl ?_
      refine z_getR fl_X5_9 (zat dd_X5_advance 10 rfl) (fun a3 => ?_)
      refine z_aload_n 0 (zat dd_X5_advance 11 rfl) rfl rfl ?_
      refine z_getI fl_X5_41 (zat dd_X5_advance 12 rfl) (fun x4 => ?_)
      refine z_bald (zat dd_X5_advance 13 rfl) (fun x5 => ?_)
      refine z_bipush (x := 32) (zat dd_X5_advance 14 rfl) (by decide) ?_
      refine z_icmp_ne (tgt := 46) (zat dd_X5_advance 15 rfl) (by decide) ?_ ?_
      · exact zb_X5_advance_46 Y v0 h
      · refine z_aload_n 0 (zat dd_X5_advance 16 rfl) rfl rfl ?_
        refine z_dup (zat dd_X5_advance 17 rfl) rfl ?_
        refine z_getI fl_X5_41 (zat dd_X5_advance 18 rfl) (fun x6 => ?_)
        refine z_iconst (x := 1) (zat dd_X5_advance 19 rfl) (by decide) ?_
        refine z_iadd (zat dd_X5_advance 20 rfl) ?_
        refine z_put fl_X5_41 rfl rfl (zat dd_X5_advance 21 rfl) (fun h7 => ?_)
        refine z_goto (tgt := 8) (zat dd_X5_advance 22 rfl) (by decide) ?_
        exact ih v0 h7
def f_X5_advance (v0 : Nat) (h : zH) : zR :=
  zgI h v0 2 4 fun x1 =>
  zpV h v0 2 3 (.int x1) fun h2 =>
  f_X5_advance_8 zF v0 h2
set_option maxRecDepth 100000 in
set_option maxHeartbeats 4000000 in
theorem m_X5_advance (l : Launch) (D : zD) (v0 : Nat) (h : zH) : zMet l D yX5_advance M_X5_advance [.ref v0] h (f_X5_advance v0 h) := by
  refine zMet.of (by decide +kernel) ⟨rfl, rfl⟩ (Nat.le_of_ble_eq_true rfl) (fun Y hl hD => ?_)
  show Z Y M_X5_advance 0 0 0 [(0, .ref v0)] [] h _
  rw [f_X5_advance]
  refine z_aload_n 0 (zat dd_X5_advance 0 rfl) rfl rfl ?_
  refine z_aload_n 0 (zat dd_X5_advance 1 rfl) rfl rfl ?_
  refine z_getI fl_X5_25 (zat dd_X5_advance 2 rfl) (fun x1 => ?_)
  refine z_put fl_X5_41 rfl rfl (zat dd_X5_advance 3 rfl) (fun h2 => ?_)
  exact zb_X5_advance_8 Y zF v0 h2
/-! PaperDolls$Reader.isWord(Ljava/lang/String;)Z -/
def L_X5_isWord : List (Nat × Instr × Nat) := [(0, .aload_n 0, 1), (1, .getfield 25, 3), (4, .aload_n 0, 1), (5, .getfield 21, 3), (8, .if_icmp .gt 19, 3), (11, .aload_n 0, 1), (12, .getfield 25, 3), (15, .aload_n 0, 1), (16, .getfield 41, 3), (19, .isub, 1), (20, .aload_n 1, 1), (21, .invokevirtual 105, 3), (24, .if_icmp .eq 5, 3), (27, .iconst 0, 1), (28, .ireturn, 1), (29, .iconst 0, 1), (30, .istore_n 2, 1), (31, .iload_n 2, 1), (32, .aload_n 1, 1), (33, .invokevirtual 105, 3), (36, .if_icmp .ge 30, 3), (39, .aload_n 0, 1), (40, .getfield 9, 3), (43, .aload_n 0, 1), (44, .getfield 41, 3), (47, .iload_n 2, 1), (48, .iadd, 1), (49, .baload, 1), (50, .aload_n 1, 1), (51, .iload_n 2, 1), (52, .invokevirtual 110, 3), (55, .if_icmp .eq 5, 3), (58, .iconst 0, 1), (59, .ireturn, 1), (60, .iinc 2 1, 3), (63, .goto (-32), 3), (66, .iconst 1, 1), (67, .ireturn, 1)]
theorem dd_X5_isWord : ∀ q ∈ L_X5_isWord, decode cX5_isWord q.1 = .ok q.2 := by decide +kernel
abbrev M_X5_isWord : zM := (cX5_isWord, RX5, "isWord", 3, some .boolean, 8, 0, 0)
theorem u_X5_isWord : zCal yX5_isWord (M_X5_isWord) 1 := ⟨(zmem 355 (by decide +kernel) rfl : Cond.code yX5_isWord cX5_isWord 3 (some .boolean) ∈ zTb), zmem 60 (by decide +kernel) rfl, by decide +kernel, Nat.le_of_ble_eq_true rfl⟩
theorem qi_X5_isWord : Cond.instanceMethod yX5_isWord ∈ zTb := zmem 354 (by decide +kernel) rfl
theorem qs_X5_isWord : Cond.selects yX5_isWord.cls yX5_isWord yX5_isWord ∈ zTb := zmem 5 (by decide +kernel) rfl
def f_X5_isWord_31 : Nat → Nat → Nat → Int32 → zH → zR
  | 0, _, _, _, _ => none
  | n + 1, v0, v1, v2, h =>
  zsl v1 h fun x1 =>
  if x1 ≤ v2 then
  zrZ 1 h
  else
  zgR h v0 2 0 fun a2 =>
  zgI h v0 2 3 fun x3 =>
  zaI h a2 1 (x3 + v2) fun x4 =>
  zsch v1 v2 h fun x5 =>
  if x4 = x5 then
  f_X5_isWord_31 n v0 v1 (v2 + 1) h
  else
  zrZ 0 h
set_option maxRecDepth 100000 in
set_option maxHeartbeats 4000000 in
theorem zb_X5_isWord_31 (Y : zY) : ∀ (n : Nat) (v0 : Nat) (v1 : Nat) (v2 : Int32) (h : zH), Z Y M_X5_isWord 0 0 31 [(0, .ref v0), (1, .ref (Y.2.1.2.2.1 v1)), (2, .int v2)] [] h (f_X5_isWord_31 n v0 v1 v2 h) := by
  intro n
  induction n with
  | zero =>
    intro v0 v1 v2 h
    rw [f_X5_isWord_31]
    exact z_none
  | succ n ih =>
    intro v0 v1 v2 h
    rw [f_X5_isWord_31]
    refine z_iload_n 2 (zat dd_X5_isWord 17 rfl) rfl rfl ?_
    refine z_aload_n 1 (zat dd_X5_isWord 18 rfl) rfl rfl ?_
    refine z_slenS ql_X5_105 (by decide) (zat dd_X5_isWord 19 rfl) (fun x1 => ?_)
    refine z_icmp_ge (tgt := 66) (zat dd_X5_isWord 20 rfl) (by decide) ?_ ?_
    · refine z_iconst (x := 1) (zat dd_X5_isWord 36 rfl) (by decide) ?_
      exact z_zret rfl (zat dd_X5_isWord 37 rfl)
    · refine z_aload_n 0 (zat dd_X5_isWord 21 rfl) rfl rfl ?_
      refine z_getR fl_X5_9 (zat dd_X5_isWord 22 rfl) (fun a2 => ?_)
      refine z_aload_n 0 (zat dd_X5_isWord 23 rfl) rfl rfl ?_
      refine z_getI fl_X5_41 (zat dd_X5_isWord 24 rfl) (fun x3 => ?_)
      refine z_iload_n 2 (zat dd_X5_isWord 25 rfl) rfl rfl ?_
      refine z_iadd (zat dd_X5_isWord 26 rfl) ?_
      refine z_bald (zat dd_X5_isWord 27 rfl) (fun x4 => ?_)
      refine z_aload_n 1 (zat dd_X5_isWord 28 rfl) rfl rfl ?_
      refine z_iload_n 2 (zat dd_X5_isWord 29 rfl) rfl rfl ?_
      refine z_schS ql_X5_110 (by decide) (zat dd_X5_isWord 30 rfl) (fun x5 => ?_)
      refine z_icmp_eq (tgt := 60) (zat dd_X5_isWord 31 rfl) (by decide) ?_ ?_
      · refine z_iinc (y := v2 + 1) (lv' := [(2, .int (v2 + 1)), (0, .ref v0), (1, .ref (Y.2.1.2.2.1 v1))]) 2 (zat dd_X5_isWord 34 rfl) rfl rfl (Nat.le_of_ble_eq_true rfl) rfl ?_
        refine z_goto (tgt := 31) (zat dd_X5_isWord 35 rfl) (by decide) ?_
        refine z_sub [1, 2, 0] rfl ?_
        exact ih v0 v1 (v2 + 1) h
      · refine z_iconst (x := 0) (zat dd_X5_isWord 32 rfl) (by decide) ?_
        exact z_zret rfl (zat dd_X5_isWord 33 rfl)
def f_X5_isWord_27 (h : zH) : zR :=
  zrZ 0 h
set_option maxRecDepth 100000 in
set_option maxHeartbeats 4000000 in
theorem zb_X5_isWord_27 (Y : zY) (h : zH) : Z Y M_X5_isWord 0 0 27 [] [] h (f_X5_isWord_27  h) := by
  rw [f_X5_isWord_27]
  refine z_iconst (x := 0) (zat dd_X5_isWord 13 rfl) (by decide) ?_
  exact z_zret rfl (zat dd_X5_isWord 14 rfl)
def f_X5_isWord (v0 : Nat) (v1 : Nat) (h : zH) : zR :=
  zgI h v0 2 4 fun x1 =>
  zgI h v0 2 1 fun x2 =>
  if x2 < x1 then
  f_X5_isWord_27 h
  else
  zgI h v0 2 4 fun x3 =>
  zgI h v0 2 3 fun x4 =>
  zsl v1 h fun x5 =>
  if (x3 - x4) = x5 then
  f_X5_isWord_31 zF v0 v1 0 h
  else
  f_X5_isWord_27 h
set_option maxRecDepth 100000 in
set_option maxHeartbeats 4000000 in
theorem m_X5_isWord (l : Launch) (D : zD) (v0 : Nat) (v1 : Nat) (h : zH) : zMet l D yX5_isWord M_X5_isWord [.ref v0, .ref (D.2.2.1 v1)] h (f_X5_isWord v0 v1 h) := by
  refine zMet.of (by decide +kernel) ⟨rfl, rfl⟩ (Nat.le_of_ble_eq_true rfl) (fun Y hl hD => ?_)
  subst hD
  show Z Y M_X5_isWord 0 0 0 [(0, .ref v0), (1, .ref (Y.2.1.2.2.1 v1))] [] h _
  rw [f_X5_isWord]
  refine z_aload_n 0 (zat dd_X5_isWord 0 rfl) rfl rfl ?_
  refine z_getI fl_X5_25 (zat dd_X5_isWord 1 rfl) (fun x1 => ?_)
  refine z_aload_n 0 (zat dd_X5_isWord 2 rfl) rfl rfl ?_
  refine z_getI fl_X5_21 (zat dd_X5_isWord 3 rfl) (fun x2 => ?_)
  refine z_icmp_gt (tgt := 27) (zat dd_X5_isWord 4 rfl) (by decide) ?_ ?_
  · refine z_sub [] rfl ?_
    exact zb_X5_isWord_27 Y h
  · refine z_aload_n 0 (zat dd_X5_isWord 5 rfl) rfl rfl ?_
    refine z_getI fl_X5_25 (zat dd_X5_isWord 6 rfl) (fun x3 => ?_)
    refine z_aload_n 0 (zat dd_X5_isWord 7 rfl) rfl rfl ?_
    refine z_getI fl_X5_41 (zat dd_X5_isWord 8 rfl) (fun x4 => ?_)
    refine z_isub (zat dd_X5_isWord 9 rfl) ?_
    refine z_aload_n 1 (zat dd_X5_isWord 10 rfl) rfl rfl ?_
    refine z_slenS ql_X5_105 (by decide) (zat dd_X5_isWord 11 rfl) (fun x5 => ?_)
    refine z_icmp_eq (tgt := 29) (zat dd_X5_isWord 12 rfl) (by decide) ?_ ?_
    · refine z_iconst (x := 0) (zat dd_X5_isWord 15 rfl) (by decide) ?_
      refine z_istore_n (lv' := [(2, .int 0), (0, .ref v0), (1, .ref (Y.2.1.2.2.1 v1))]) (zat dd_X5_isWord 16 rfl) rfl (Nat.le_of_ble_eq_true rfl) rfl ?_
      refine z_sub [1, 2, 0] rfl ?_
      exact zb_X5_isWord_31 Y zF v0 v1 0 h
    · refine z_sub [] rfl ?_
      exact zb_X5_isWord_27 Y h
/-! PaperDolls$Reader.readNumber(II)Z -/
def L_X5_readNumber : List (Nat × Instr × Nat) := [(0, .aload_n 0, 1), (1, .invokevirtual 34, 3), (4, .aload_n 0, 1), (5, .getfield 44, 3), (8, .iconst 2, 1), (9, .if_icmp .ne 19, 3), (12, .aload_n 0, 1), (13, .getfield 79, 3), (16, .iload_n 1, 1), (17, .iload_n 2, 1), (18, .invokestatic 101, 3), (21, .ifCond .eq 7, 3), (24, .iconst 1, 1), (25, .goto 4, 3), (28, .iconst 0, 1), (29, .ireturn, 1)]
theorem dd_X5_readNumber : ∀ q ∈ L_X5_readNumber, decode cX5_readNumber q.1 = .ok q.2 := by decide +kernel
abbrev M_X5_readNumber : zM := (cX5_readNumber, RX5, "readNumber", 3, some .boolean, 3, 0, 0)
theorem u_X5_readNumber : zCal yX5_readNumber (M_X5_readNumber) 2 := ⟨(zmem 411 (by decide +kernel) rfl : Cond.code yX5_readNumber cX5_readNumber 3 (some .boolean) ∈ zTb), zmem 60 (by decide +kernel) rfl, by decide +kernel, Nat.le_of_ble_eq_true rfl⟩
theorem qi_X5_readNumber : Cond.instanceMethod yX5_readNumber ∈ zTb := zmem 410 (by decide +kernel) rfl
theorem qs_X5_readNumber : Cond.selects yX5_readNumber.cls yX5_readNumber yX5_readNumber ∈ zTb := zmem 7 (by decide +kernel) rfl
def f_X5_readNumber_29 (t0 : Int32) (h : zH) : zR :=
  zrZ t0 h
set_option maxRecDepth 100000 in
set_option maxHeartbeats 4000000 in
theorem zb_X5_readNumber_29 (Y : zY) (t0 : Int32) (h : zH) : Z Y M_X5_readNumber 0 0 29 [] [.int t0] h (f_X5_readNumber_29 t0 h) := by
  rw [f_X5_readNumber_29]
  exact z_zret rfl (zat dd_X5_readNumber 15 rfl)
def f_X5_readNumber_28 (h : zH) : zR :=
  f_X5_readNumber_29 0 h
set_option maxRecDepth 100000 in
set_option maxHeartbeats 4000000 in
theorem zb_X5_readNumber_28 (Y : zY) (h : zH) : Z Y M_X5_readNumber 0 0 28 [] [] h (f_X5_readNumber_28  h) := by
  rw [f_X5_readNumber_28]
  refine z_iconst (x := 0) (zat dd_X5_readNumber 14 rfl) (by decide) ?_
  exact zb_X5_readNumber_29 Y 0 h
def f_X5_readNumber (v0 : Nat) (v1 : Int32) (v2 : Int32) (h : zH) : zR :=
  zoc h v0 2 <|
  zcV (f_X5_advance v0 h) fun h1 =>
  zgI h1 v0 2 2 fun x2 =>
  if x2 = 2 then
  zgI h1 v0 2 5 fun x3 =>
  zcI (f_X9_within x3 v1 v2 h1) fun x4 h5 =>
  if x4 = 0 then
  f_X5_readNumber_28 h5
  else
  f_X5_readNumber_29 1 h5
  else
  f_X5_readNumber_28 h1
set_option maxRecDepth 100000 in
set_option maxHeartbeats 4000000 in
theorem m_X5_readNumber (l : Launch) (D : zD) (v0 : Nat) (v1 : Int32) (v2 : Int32) (h : zH) : zMet l D yX5_readNumber M_X5_readNumber [.ref v0, .int v1, .int v2] h (f_X5_readNumber v0 v1 v2 h) := by
  refine zMet.of (by decide +kernel) ⟨rfl, rfl⟩ (Nat.le_of_ble_eq_true rfl) (fun Y hl hD => ?_)
  show Z Y M_X5_readNumber 0 0 0 [(0, .ref v0), (1, .int v1), (2, .int v2)] [] h _
  rw [f_X5_readNumber]
  refine z_aload_n 0 (zat dd_X5_readNumber 0 rfl) rfl rfl ?_
  refine z_callV_V0 (M2 := M_X5_advance) [] (fun l D _ _ => m_X5_advance l D v0 h) u_X5_advance ql_X5_34 qi_X5_advance qs_X5_advance (ci := 2) rfl rfl rfl (Nat.le_of_ble_eq_true rfl) (by decide) rfl rfl (zat dd_X5_readNumber 1 rfl) (fun h1 => ?_)
  refine z_aload_n 0 (zat dd_X5_readNumber 2 rfl) rfl rfl ?_
  refine z_getI fl_X5_44 (zat dd_X5_readNumber 3 rfl) (fun x2 => ?_)
  refine z_iconst (x := 2) (zat dd_X5_readNumber 4 rfl) (by decide) ?_
  refine z_icmp_ne (tgt := 28) (zat dd_X5_readNumber 5 rfl) (by decide) ?_ ?_
  · refine z_sub [] rfl ?_
    exact zb_X5_readNumber_28 Y h1
  · refine z_aload_n 0 (zat dd_X5_readNumber 6 rfl) rfl rfl ?_
    refine z_getI fl_X5_79 (zat dd_X5_readNumber 7 rfl) (fun x3 => ?_)
    refine z_iload_n 1 (zat dd_X5_readNumber 8 rfl) rfl rfl ?_
    refine z_iload_n 2 (zat dd_X5_readNumber 9 rfl) rfl rfl ?_
    refine z_callSN_I0 (M2 := M_X9_within) [.int x3, .int v1, .int v2] (fun l D _ _ => m_X9_within l D x3 v1 v2 h1) u_X9_within (by decide) qi_X9_within rfl rfl (Nat.le_of_ble_eq_true rfl) (by decide) rfl rfl (zat dd_X5_readNumber 10 rfl) (fun x4 h5 => ?_)
    refine z_if_eq (tgt := 28) (zat dd_X5_readNumber 11 rfl) (by decide) ?_ ?_
    · refine z_sub [] rfl ?_
      exact zb_X5_readNumber_28 Y h5
    · refine z_iconst (x := 1) (zat dd_X5_readNumber 12 rfl) (by decide) ?_
      refine z_goto (tgt := 29) (zat dd_X5_readNumber 13 rfl) (by decide) ?_
      refine z_sub [] rfl ?_
      exact zb_X5_readNumber_29 Y 1 h5
/-! PaperDolls$Reader.readChild(LPaperDolls$Doll;)Z -/
def L_X5_readChild : List (Nat × Instr × Nat) := [(0, .aload_n 0, 1), (1, .iconst 0, 1), (2, .iconst 5, 1), (3, .invokevirtual 75, 3), (6, .ifCond .ne 5, 3), (9, .iconst 0, 1), (10, .ireturn, 1), (11, .aload_n 1, 1), (12, .aload_n 0, 1), (13, .getfield 79, 3), (16, .putfield 82, 3), (19, .iconst 1, 1), (20, .ireturn, 1)]
theorem dd_X5_readChild : ∀ q ∈ L_X5_readChild, decode cX5_readChild q.1 = .ok q.2 := by decide +kernel
abbrev M_X5_readChild : zM := (cX5_readChild, RX5, "readChild", 2, some .boolean, 4, 0, 0)
theorem u_X5_readChild : zCal yX5_readChild (M_X5_readChild) 1 := ⟨(zmem 407 (by decide +kernel) rfl : Cond.code yX5_readChild cX5_readChild 2 (some .boolean) ∈ zTb), zmem 60 (by decide +kernel) rfl, by decide +kernel, Nat.le_of_ble_eq_true rfl⟩
theorem qi_X5_readChild : Cond.instanceMethod yX5_readChild ∈ zTb := zmem 406 (by decide +kernel) rfl
theorem qs_X5_readChild : Cond.selects yX5_readChild.cls yX5_readChild yX5_readChild ∈ zTb := zmem 6 (by decide +kernel) rfl
def f_X5_readChild (v0 : Nat) (v1 : Nat) (h : zH) : zR :=
  zoc h v0 2 <|
  zcI (f_X5_readNumber v0 0 5 h) fun x1 h2 =>
  if x1 = 0 then
  zrZ 0 h2
  else
  zgI h2 v0 2 5 fun x3 =>
  zpV h2 v1 0 0 (.int x3) fun h4 =>
  zrZ 1 h4
set_option maxRecDepth 100000 in
set_option maxHeartbeats 4000000 in
theorem m_X5_readChild (l : Launch) (D : zD) (v0 : Nat) (v1 : Nat) (h : zH) : zMet l D yX5_readChild M_X5_readChild [.ref v0, .ref v1] h (f_X5_readChild v0 v1 h) := by
  refine zMet.of (by decide +kernel) ⟨rfl, rfl⟩ (Nat.le_of_ble_eq_true rfl) (fun Y hl hD => ?_)
  show Z Y M_X5_readChild 0 0 0 [(0, .ref v0), (1, .ref v1)] [] h _
  rw [f_X5_readChild]
  refine z_aload_n 0 (zat dd_X5_readChild 0 rfl) rfl rfl ?_
  refine z_iconst (x := 0) (zat dd_X5_readChild 1 rfl) (by decide) ?_
  refine z_iconst (x := 5) (zat dd_X5_readChild 2 rfl) (by decide) ?_
  refine z_callV_I0 (M2 := M_X5_readNumber) [.int 0, .int 5] (fun l D _ _ => m_X5_readNumber l D v0 0 5 h) u_X5_readNumber ql_X5_75 qi_X5_readNumber qs_X5_readNumber (ci := 2) rfl rfl rfl (Nat.le_of_ble_eq_true rfl) (by decide) rfl rfl (zat dd_X5_readChild 3 rfl) (fun x1 h2 => ?_)
  refine z_if_ne (tgt := 11) (zat dd_X5_readChild 4 rfl) (by decide) ?_ ?_
  · refine z_aload_n 1 (zat dd_X5_readChild 7 rfl) rfl rfl ?_
    refine z_aload_n 0 (zat dd_X5_readChild 8 rfl) rfl rfl ?_
    refine z_getI fl_X5_79 (zat dd_X5_readChild 9 rfl) (fun x3 => ?_)
    refine z_put fl_X5_82 rfl rfl (zat dd_X5_readChild 10 rfl) (fun h4 => ?_)
    refine z_iconst (x := 1) (zat dd_X5_readChild 11 rfl) (by decide) ?_
    exact z_zret rfl (zat dd_X5_readChild 12 rfl)
  · refine z_iconst (x := 0) (zat dd_X5_readChild 5 rfl) (by decide) ?_
    exact z_zret rfl (zat dd_X5_readChild 6 rfl)
/-! PaperDolls$Reader.readPiece(LPaperDolls$Doll;)Z -/
def L_X5_readPiece : List (Nat × Instr × Nat) := [(0, .aload_n 0, 1), (1, .iconst 0, 1), (2, .iconst 5, 1), (3, .invokevirtual 75, 3), (6, .ifCond .ne 5, 3), (9, .iconst 0, 1), (10, .ireturn, 1), (11, .aload_n 0, 1), (12, .getfield 79, 3), (15, .istore_n 2, 1), (16, .aload_n 0, 1), (17, .iconst 0, 1), (18, .iconst 3, 1), (19, .invokevirtual 75, 3), (22, .ifCond .ne 5, 3), (25, .iconst 0, 1), (26, .ireturn, 1), (27, .aload_n 0, 1), (28, .getfield 79, 3), (31, .istore_n 3, 1), (32, .aload_n 0, 1), (33, .iconst 1, 1), (34, .bipush 9, 2), (36, .invokevirtual 75, 3), (39, .ifCond .ne 5, 3), (42, .iconst 0, 1), (43, .ireturn, 1), (44, .aload_n 1, 1), (45, .iload_n 2, 1), (46, .iload_n 3, 1), (47, .aload_n 0, 1), (48, .getfield 79, 3), (51, .invokevirtual 85, 3), (54, .iconst 1, 1), (55, .ireturn, 1)]
theorem dd_X5_readPiece : ∀ q ∈ L_X5_readPiece, decode cX5_readPiece q.1 = .ok q.2 := by decide +kernel
abbrev M_X5_readPiece : zM := (cX5_readPiece, RX5, "readPiece", 4, some .boolean, 4, 0, 0)
theorem u_X5_readPiece : zCal yX5_readPiece (M_X5_readPiece) 1 := ⟨(zmem 416 (by decide +kernel) rfl : Cond.code yX5_readPiece cX5_readPiece 4 (some .boolean) ∈ zTb), zmem 60 (by decide +kernel) rfl, by decide +kernel, Nat.le_of_ble_eq_true rfl⟩
theorem qi_X5_readPiece : Cond.instanceMethod yX5_readPiece ∈ zTb := zmem 415 (by decide +kernel) rfl
theorem qs_X5_readPiece : Cond.selects yX5_readPiece.cls yX5_readPiece yX5_readPiece ∈ zTb := zmem 8 (by decide +kernel) rfl
def f_X5_readPiece (v0 : Nat) (v1 : Nat) (h : zH) : zR :=
  zoc h v0 2 <|
  zcI (f_X5_readNumber v0 0 5 h) fun x1 h2 =>
  if x1 = 0 then
  zrZ 0 h2
  else
  zgI h2 v0 2 5 fun x3 =>
  zoc h2 v0 2 <|
  zcI (f_X5_readNumber v0 0 3 h2) fun x4 h5 =>
  if x4 = 0 then
  zrZ 0 h5
  else
  zgI h5 v0 2 5 fun x6 =>
  zoc h5 v0 2 <|
  zcI (f_X5_readNumber v0 1 9 h5) fun x7 h8 =>
  if x7 = 0 then
  zrZ 0 h8
  else
  zgI h8 v0 2 5 fun x9 =>
  zoc h8 v1 0 <|
  zcV (f_X1_addPiece v1 x3 x6 x9 h8) fun h10 =>
  zrZ 1 h10
set_option maxRecDepth 100000 in
set_option maxHeartbeats 4000000 in
theorem m_X5_readPiece (l : Launch) (D : zD) (v0 : Nat) (v1 : Nat) (h : zH) : zMet l D yX5_readPiece M_X5_readPiece [.ref v0, .ref v1] h (f_X5_readPiece v0 v1 h) := by
  refine zMet.of (by decide +kernel) ⟨rfl, rfl⟩ (Nat.le_of_ble_eq_true rfl) (fun Y hl hD => ?_)
  show Z Y M_X5_readPiece 0 0 0 [(0, .ref v0), (1, .ref v1)] [] h _
  rw [f_X5_readPiece]
  refine z_aload_n 0 (zat dd_X5_readPiece 0 rfl) rfl rfl ?_
  refine z_iconst (x := 0) (zat dd_X5_readPiece 1 rfl) (by decide) ?_
  refine z_iconst (x := 5) (zat dd_X5_readPiece 2 rfl) (by decide) ?_
  refine z_callV_I0 (M2 := M_X5_readNumber) [.int 0, .int 5] (fun l D _ _ => m_X5_readNumber l D v0 0 5 h) u_X5_readNumber ql_X5_75 qi_X5_readNumber qs_X5_readNumber (ci := 2) rfl rfl rfl (Nat.le_of_ble_eq_true rfl) (by decide) rfl rfl (zat dd_X5_readPiece 3 rfl) (fun x1 h2 => ?_)
  refine z_if_ne (tgt := 11) (zat dd_X5_readPiece 4 rfl) (by decide) ?_ ?_
  · refine z_aload_n 0 (zat dd_X5_readPiece 7 rfl) rfl rfl ?_
    refine z_getI fl_X5_79 (zat dd_X5_readPiece 8 rfl) (fun x3 => ?_)
    refine z_istore_n (lv' := [(2, .int x3), (0, .ref v0), (1, .ref v1)]) (zat dd_X5_readPiece 9 rfl) rfl (Nat.le_of_ble_eq_true rfl) rfl ?_
    refine z_aload_n 1 (zat dd_X5_readPiece 10 rfl) rfl rfl ?_
    refine z_iconst (x := 0) (zat dd_X5_readPiece 11 rfl) (by decide) ?_
    refine z_iconst (x := 3) (zat dd_X5_readPiece 12 rfl) (by decide) ?_
    refine z_callV_I0 (M2 := M_X5_readNumber) [.int 0, .int 3] (fun l D _ _ => m_X5_readNumber l D v0 0 3 h2) u_X5_readNumber ql_X5_75 qi_X5_readNumber qs_X5_readNumber (ci := 2) rfl rfl rfl (Nat.le_of_ble_eq_true rfl) (by decide) rfl rfl (zat dd_X5_readPiece 13 rfl) (fun x4 h5 => ?_)
    refine z_if_ne (tgt := 27) (zat dd_X5_readPiece 14 rfl) (by decide) ?_ ?_
    · refine z_aload_n 1 (zat dd_X5_readPiece 17 rfl) rfl rfl ?_
      refine z_getI fl_X5_79 (zat dd_X5_readPiece 18 rfl) (fun x6 => ?_)
      refine z_istore_n (lv' := [(3, .int x6), (2, .int x3), (0, .ref v0), (1, .ref v1)]) (zat dd_X5_readPiece 19 rfl) rfl (Nat.le_of_ble_eq_true rfl) rfl ?_
      refine z_aload_n 2 (zat dd_X5_readPiece 20 rfl) rfl rfl ?_
      refine z_iconst (x := 1) (zat dd_X5_readPiece 21 rfl) (by decide) ?_
      refine z_bipush (x := 9) (zat dd_X5_readPiece 22 rfl) (by decide) ?_
      refine z_callV_I0 (M2 := M_X5_readNumber) [.int 1, .int 9] (fun l D _ _ => m_X5_readNumber l D v0 1 9 h5) u_X5_readNumber ql_X5_75 qi_X5_readNumber qs_X5_readNumber (ci := 2) rfl rfl rfl (Nat.le_of_ble_eq_true rfl) (by decide) rfl rfl (zat dd_X5_readPiece 23 rfl) (fun x7 h8 => ?_)
      refine z_if_ne (tgt := 44) (zat dd_X5_readPiece 24 rfl) (by decide) ?_ ?_
      · refine z_aload_n 3 (zat dd_X5_readPiece 27 rfl) rfl rfl ?_
        refine z_iload_n 1 (zat dd_X5_readPiece 28 rfl) rfl rfl ?_
        refine z_iload_n 0 (zat dd_X5_readPiece 29 rfl) rfl rfl ?_
        refine z_aload_n 2 (zat dd_X5_readPiece 30 rfl) rfl rfl ?_
        refine z_getI fl_X5_79 (zat dd_X5_readPiece 31 rfl) (fun x9 => ?_)
        refine z_callV_V0 (M2 := M_X1_addPiece) [.int x3, .int x6, .int x9] (fun l D _ _ => m_X1_addPiece l D v1 x3 x6 x9 h8) u_X1_addPiece ql_X5_85 qi_X1_addPiece qs_X1_addPiece (ci := 0) rfl rfl rfl (Nat.le_of_ble_eq_true rfl) (by decide) rfl rfl (zat dd_X5_readPiece 32 rfl) (fun h10 => ?_)
        refine z_iconst (x := 1) (zat dd_X5_readPiece 33 rfl) (by decide) ?_
        exact z_zret rfl (zat dd_X5_readPiece 34 rfl)
      · refine z_iconst (x := 0) (zat dd_X5_readPiece 25 rfl) (by decide) ?_
        exact z_zret rfl (zat dd_X5_readPiece 26 rfl)
    · refine z_iconst (x := 0) (zat dd_X5_readPiece 15 rfl) (by decide) ?_
      exact z_zret rfl (zat dd_X5_readPiece 16 rfl)
  · refine z_iconst (x := 0) (zat dd_X5_readPiece 5 rfl) (by decide) ?_
    exact z_zret rfl (zat dd_X5_readPiece 6 rfl)
/-! PaperDolls$Reader.readMove(LPaperDolls$Doll;I)Z -/
def L_X5_readMove : List (Nat × Instr × Nat) := [(0, .aload_n 0, 1), (1, .iconst 0, 1), (2, .aload_n 1, 1), (3, .getfield 59, 3), (6, .iconst 1, 1), (7, .isub, 1), (8, .invokevirtual 75, 3), (11, .ifCond .eq 19, 3), (14, .aload_n 1, 1), (15, .aload_n 1, 1), (16, .getfield 89, 3), (19, .iload_n 2, 1), (20, .aload_n 0, 1), (21, .getfield 79, 3), (24, .invokevirtual 93, 3), (27, .ifCond .ne 5, 3), (30, .iconst 0, 1), (31, .ireturn, 1), (32, .aload_n 1, 1), (33, .aload_n 1, 1), (34, .getfield 89, 3), (37, .iload_n 2, 1), (38, .aload_n 0, 1), (39, .getfield 79, 3), (42, .invokevirtual 97, 3), (45, .iconst 1, 1), (46, .ireturn, 1)]
theorem dd_X5_readMove : ∀ q ∈ L_X5_readMove, decode cX5_readMove q.1 = .ok q.2 := by decide +kernel
abbrev M_X5_readMove : zM := (cX5_readMove, RX5, "readMove", 3, some .boolean, 4, 0, 0)
theorem u_X5_readMove : zCal yX5_readMove (M_X5_readMove) 2 := ⟨(zmem 422 (by decide +kernel) rfl : Cond.code yX5_readMove cX5_readMove 3 (some .boolean) ∈ zTb), zmem 60 (by decide +kernel) rfl, by decide +kernel, Nat.le_of_ble_eq_true rfl⟩
theorem qi_X5_readMove : Cond.instanceMethod yX5_readMove ∈ zTb := zmem 421 (by decide +kernel) rfl
theorem qs_X5_readMove : Cond.selects yX5_readMove.cls yX5_readMove yX5_readMove ∈ zTb := zmem 9 (by decide +kernel) rfl
def f_X5_readMove_30 (h : zH) : zR :=
  zrZ 0 h
set_option maxRecDepth 100000 in
set_option maxHeartbeats 4000000 in
theorem zb_X5_readMove_30 (Y : zY) (h : zH) : Z Y M_X5_readMove 0 0 30 [] [] h (f_X5_readMove_30  h) := by
  rw [f_X5_readMove_30]
  refine z_iconst (x := 0) (zat dd_X5_readMove 16 rfl) (by decide) ?_
  exact z_zret rfl (zat dd_X5_readMove 17 rfl)
def f_X5_readMove (v0 : Nat) (v1 : Nat) (v2 : Int32) (h : zH) : zR :=
  zgI h v1 0 1 fun x1 =>
  zoc h v0 2 <|
  zcI (f_X5_readNumber v0 0 (x1 - 1) h) fun x2 h3 =>
  if x2 = 0 then
  f_X5_readMove_30 h3
  else
  zgR h3 v1 0 5 fun a4 =>
  zgI h3 v0 2 5 fun x5 =>
  zoc h3 v1 0 <|
  zcI (f_X1_mayMove v1 a4 v2 x5 h3) fun x6 h7 =>
  if x6 = 0 then
  f_X5_readMove_30 h7
  else
  zgR h7 v1 0 5 fun a8 =>
  zgI h7 v0 2 5 fun x9 =>
  zoc h7 v1 0 <|
  zcV (f_X1_move v1 a8 v2 x9 h7) fun h10 =>
  zrZ 1 h10
set_option maxRecDepth 100000 in
set_option maxHeartbeats 4000000 in
theorem m_X5_readMove (l : Launch) (D : zD) (v0 : Nat) (v1 : Nat) (v2 : Int32) (h : zH) : zMet l D yX5_readMove M_X5_readMove [.ref v0, .ref v1, .int v2] h (f_X5_readMove v0 v1 v2 h) := by
  refine zMet.of (by decide +kernel) ⟨rfl, rfl⟩ (Nat.le_of_ble_eq_true rfl) (fun Y hl hD => ?_)
  show Z Y M_X5_readMove 0 0 0 [(0, .ref v0), (1, .ref v1), (2, .int v2)] [] h _
  rw [f_X5_readMove]
  refine z_aload_n 0 (zat dd_X5_readMove 0 rfl) rfl rfl ?_
  refine z_iconst (x := 0) (zat dd_X5_readMove 1 rfl) (by decide) ?_
  refine z_aload_n 1 (zat dd_X5_readMove 2 rfl) rfl rfl ?_
  refine z_getI fl_X5_59 (zat dd_X5_readMove 3 rfl) (fun x1 => ?_)
  refine z_iconst (x := 1) (zat dd_X5_readMove 4 rfl) (by decide) ?_
  refine z_isub (zat dd_X5_readMove 5 rfl) ?_
  refine z_callV_I0 (M2 := M_X5_readNumber) [.int 0, .int (x1 - 1)] (fun l D _ _ => m_X5_readNumber l D v0 0 (x1 - 1) h) u_X5_readNumber ql_X5_75 qi_X5_readNumber qs_X5_readNumber (ci := 2) rfl rfl rfl (Nat.le_of_ble_eq_true rfl) (by decide) rfl rfl (zat dd_X5_readMove 6 rfl) (fun x2 h3 => ?_)
  refine z_if_eq (tgt := 30) (zat dd_X5_readMove 7 rfl) (by decide) ?_ ?_
  · refine z_sub [] rfl ?_
    exact zb_X5_readMove_30 Y h3
  · refine z_aload_n 1 (zat dd_X5_readMove 8 rfl) rfl rfl ?_
    refine z_aload_n 1 (zat dd_X5_readMove 9 rfl) rfl rfl ?_
    refine z_getR fl_X5_89 (zat dd_X5_readMove 10 rfl) (fun a4 => ?_)
    refine z_iload_n 2 (zat dd_X5_readMove 11 rfl) rfl rfl ?_
    refine z_aload_n 0 (zat dd_X5_readMove 12 rfl) rfl rfl ?_
    refine z_getI fl_X5_79 (zat dd_X5_readMove 13 rfl) (fun x5 => ?_)
    refine z_callV_I0 (M2 := M_X1_mayMove) [.ref a4, .int v2, .int x5] (fun l D _ _ => m_X1_mayMove l D v1 a4 v2 x5 h3) u_X1_mayMove ql_X5_93 qi_X1_mayMove qs_X1_mayMove (ci := 0) rfl rfl rfl (Nat.le_of_ble_eq_true rfl) (by decide) rfl rfl (zat dd_X5_readMove 14 rfl) (fun x6 h7 => ?_)
    refine z_if_ne (tgt := 32) (zat dd_X5_readMove 15 rfl) (by decide) ?_ ?_
    · refine z_aload_n 1 (zat dd_X5_readMove 18 rfl) rfl rfl ?_
      refine z_aload_n 1 (zat dd_X5_readMove 19 rfl) rfl rfl ?_
      refine z_getR fl_X5_89 (zat dd_X5_readMove 20 rfl) (fun a8 => ?_)
      refine z_iload_n 2 (zat dd_X5_readMove 21 rfl) rfl rfl ?_
      refine z_aload_n 0 (zat dd_X5_readMove 22 rfl) rfl rfl ?_
      refine z_getI fl_X5_79 (zat dd_X5_readMove 23 rfl) (fun x9 => ?_)
      refine z_callV_V0 (M2 := M_X1_move) [.ref a8, .int v2, .int x9] (fun l D _ _ => m_X1_move l D v1 a8 v2 x9 h7) u_X1_move ql_X5_97 qi_X1_move qs_X1_move (ci := 0) rfl rfl rfl (Nat.le_of_ble_eq_true rfl) (by decide) rfl rfl (zat dd_X5_readMove 24 rfl) (fun h10 => ?_)
      refine z_iconst (x := 1) (zat dd_X5_readMove 25 rfl) (by decide) ?_
      exact z_zret rfl (zat dd_X5_readMove 26 rfl)
    · refine z_sub [] rfl ?_
      exact zb_X5_readMove_30 Y h7
/-! PaperDolls$Reader.readItem(LPaperDolls$Doll;Z)Z -/
def L_X5_readItem : List (Nat × Instr × Nat) := [(0, .aload_n 0, 1), (1, .getfield 44, 3), (4, .iconst 1, 1), (5, .if_icmp .ne 13, 3), (8, .aload_n 0, 1), (9, .ldc 47, 2), (11, .invokevirtual 49, 3), (14, .iload_n 2, 1), (15, .if_icmp .eq 5, 3), (18, .iconst 0, 1), (19, .ireturn, 1), (20, .iload_n 2, 1), (21, .ifCond .eq 12, 3), (24, .aload_n 0, 1), (25, .aload_n 1, 1), (26, .invokevirtual 53, 3), (29, .istore_n 3, 1), (30, .goto 100, 3), (33, .aload_n 0, 1), (34, .ldc 57, 2), (36, .invokevirtual 49, 3), (39, .ifCond .eq 29, 3), (42, .aload_n 1, 1), (43, .getfield 59, 3), (46, .bipush 8, 2), (48, .if_icmp .ge 15, 3), (51, .aload_n 0, 1), (52, .aload_n 1, 1), (53, .invokevirtual 62, 3), (56, .ifCond .eq 7, 3), (59, .iconst 1, 1), (60, .goto 4, 3), (63, .iconst 0, 1), (64, .istore_n 3, 1), (65, .goto 65, 3), (68, .aload_n 0, 1), (69, .ldc 65, 2), (71, .invokevirtual 49, 3), (74, .ifCond .eq 13, 3), (77, .aload_n 0, 1), (78, .aload_n 1, 1), (79, .iconst 0, 1), (80, .invokevirtual 67, 3), (83, .istore_n 3, 1), (84, .goto 46, 3), (87, .aload_n 0, 1), (88, .ldc 71, 2), (90, .invokevirtual 49, 3), (93, .ifCond .eq 13, 3), (96, .aload_n 0, 1), (97, .aload_n 1, 1), (98, .iconst 1, 1), (99, .invokevirtual 67, 3), (102, .istore_n 3, 1), (103, .goto 27, 3), (106, .aload_n 0, 1), (107, .ldc 73, 2), (109, .invokevirtual 49, 3), (112, .ifCond .eq 16, 3), (115, .aload_n 0, 1), (116, .aload_n 1, 1), (117, .iconst 2, 1), (118, .invokevirtual 67, 3), (121, .ifCond .eq 7, 3), (124, .iconst 1, 1), (125, .goto 4, 3), (128, .iconst 0, 1), (129, .istore_n 3, 1), (130, .iload_n 3, 1), (131, .ifCond .ne 5, 3), (134, .iconst 0, 1), (135, .ireturn, 1), (136, .aload_n 0, 1), (137, .invokevirtual 34, 3), (140, .aload_n 0, 1), (141, .getfield 44, 3), (144, .iconst 3, 1), (145, .if_icmp .ne 7, 3), (148, .iconst 1, 1), (149, .goto 4, 3), (152, .iconst 0, 1), (153, .ireturn, 1)]
theorem dd_X5_readItem : ∀ q ∈ L_X5_readItem, decode cX5_readItem q.1 = .ok q.2 := by decide +kernel
abbrev M_X5_readItem : zM := (cX5_readItem, RX5, "readItem", 4, some .boolean, 9, 0, 0)
theorem u_X5_readItem : zCal yX5_readItem (M_X5_readItem) 2 := ⟨(zmem 350 (by decide +kernel) rfl : Cond.code yX5_readItem cX5_readItem 4 (some .boolean) ∈ zTb), zmem 60 (by decide +kernel) rfl, by decide +kernel, Nat.le_of_ble_eq_true rfl⟩
theorem qi_X5_readItem : Cond.instanceMethod yX5_readItem ∈ zTb := zmem 349 (by decide +kernel) rfl
theorem qs_X5_readItem : Cond.selects yX5_readItem.cls yX5_readItem yX5_readItem ∈ zTb := zmem 4 (by decide +kernel) rfl
def f_X5_readItem_153 (t0 : Int32) (h : zH) : zR :=
  zrZ t0 h
set_option maxRecDepth 100000 in
set_option maxHeartbeats 4000000 in
theorem zb_X5_readItem_153 (Y : zY) (t0 : Int32) (h : zH) : Z Y M_X5_readItem 0 0 153 [] [.int t0] h (f_X5_readItem_153 t0 h) := by
  rw [f_X5_readItem_153]
  exact z_zret rfl (zat dd_X5_readItem 81 rfl)
def f_X5_readItem_130 (v0 : Nat) (v3 : Int32) (h : zH) : zR :=
  if v3 = 0 then
  zrZ 0 h
  else
  zoc h v0 2 <|
  zcV (f_X5_advance v0 h) fun h1 =>
  zgI h1 v0 2 2 fun x2 =>
  if x2 = 3 then
  f_X5_readItem_153 1 h1
  else
  f_X5_readItem_153 0 h1
set_option maxRecDepth 100000 in
set_option maxHeartbeats 4000000 in
theorem zb_X5_readItem_130 (Y : zY) (v0 : Nat) (v3 : Int32) (h : zH) : Z Y M_X5_readItem 0 0 130 [(0, .ref v0), (3, .int v3)] [] h (f_X5_readItem_130 v0 v3 h) := by
  rw [f_X5_readItem_130]
  refine z_iload_n 1 (zat dd_X5_readItem 68 rfl) rfl rfl ?_
  refine z_if_ne (tgt := 136) (zat dd_X5_readItem 69 rfl) (by decide) ?_ ?_
  · refine z_aload_n 0 (zat dd_X5_readItem 72 rfl) rfl rfl ?_
    refine z_callV_V0 (M2 := M_X5_advance) [] (fun l D _ _ => m_X5_advance l D v0 h) u_X5_advance ql_X5_34 qi_X5_advance qs_X5_advance (ci := 2) rfl rfl rfl (Nat.le_of_ble_eq_true rfl) (by decide) rfl rfl (zat dd_X5_readItem 73 rfl) (fun h1 => ?_)
    refine z_aload_n 0 (zat dd_X5_readItem 74 rfl) rfl rfl ?_
    refine z_getI fl_X5_44 (zat dd_X5_readItem 75 rfl) (fun x2 => ?_)
    refine z_iconst (x := 3) (zat dd_X5_readItem 76 rfl) (by decide) ?_
    refine z_icmp_ne (tgt := 152) (zat dd_X5_readItem 77 rfl) (by decide) ?_ ?_
    · refine z_iconst (x := 0) (zat dd_X5_readItem 80 rfl) (by decide) ?_
      refine z_sub [] rfl ?_
      exact zb_X5_readItem_153 Y 0 h1
    · refine z_iconst (x := 1) (zat dd_X5_readItem 78 rfl) (by decide) ?_
      refine z_goto (tgt := 153) (zat dd_X5_readItem 79 rfl) (by decide) ?_
      refine z_sub [] rfl ?_
      exact zb_X5_readItem_153 Y 1 h1
  · refine z_iconst (x := 0) (zat dd_X5_readItem 70 rfl) (by decide) ?_
    exact z_zret rfl (zat dd_X5_readItem 71 rfl)
def f_X5_readItem_129 (v0 : Nat) (t0 : Int32) (h : zH) : zR :=
  f_X5_readItem_130 v0 t0 h
set_option maxRecDepth 100000 in
set_option maxHeartbeats 4000000 in
theorem zb_X5_readItem_129 (Y : zY) (v0 : Nat) (t0 : Int32) (h : zH) : Z Y M_X5_readItem 0 0 129 [(0, .ref v0)] [.int t0] h (f_X5_readItem_129 v0 t0 h) := by
  rw [f_X5_readItem_129]
  refine z_istore_n (lv' := [(3, .int t0), (0, .ref v0)]) (zat dd_X5_readItem 67 rfl) rfl (Nat.le_of_ble_eq_true rfl) rfl ?_
  refine z_sub [1, 0] rfl ?_
  exact zb_X5_readItem_130 Y v0 t0 h
def f_X5_readItem_128 (v0 : Nat) (h : zH) : zR :=
  f_X5_readItem_129 v0 0 h
set_option maxRecDepth 100000 in
set_option maxHeartbeats 4000000 in
theorem zb_X5_readItem_128 (Y : zY) (v0 : Nat) (h : zH) : Z Y M_X5_readItem 0 0 128 [(0, .ref v0)] [] h (f_X5_readItem_128 v0 h) := by
  rw [f_X5_readItem_128]
  refine z_iconst (x := 0) (zat dd_X5_readItem 66 rfl) (by decide) ?_
  exact zb_X5_readItem_129 Y v0 0 h
def f_X5_readItem_64 (v0 : Nat) (t0 : Int32) (h : zH) : zR :=
  f_X5_readItem_130 v0 t0 h
set_option maxRecDepth 100000 in
set_option maxHeartbeats 4000000 in
theorem zb_X5_readItem_64 (Y : zY) (v0 : Nat) (t0 : Int32) (h : zH) : Z Y M_X5_readItem 0 0 64 [(0, .ref v0)] [.int t0] h (f_X5_readItem_64 v0 t0 h) := by
  rw [f_X5_readItem_64]
  refine z_istore_n (lv' := [(3, .int t0), (0, .ref v0)]) (zat dd_X5_readItem 33 rfl) rfl (Nat.le_of_ble_eq_true rfl) rfl ?_
  refine z_goto (tgt := 130) (zat dd_X5_readItem 34 rfl) (by decide) ?_
  refine z_sub [1, 0] rfl ?_
  exact zb_X5_readItem_130 Y v0 t0 h
def f_X5_readItem_63 (v0 : Nat) (h : zH) : zR :=
  f_X5_readItem_64 v0 0 h
set_option maxRecDepth 100000 in
set_option maxHeartbeats 4000000 in
theorem zb_X5_readItem_63 (Y : zY) (v0 : Nat) (h : zH) : Z Y M_X5_readItem 0 0 63 [(0, .ref v0)] [] h (f_X5_readItem_63 v0 h) := by
  rw [f_X5_readItem_63]
  refine z_iconst (x := 0) (zat dd_X5_readItem 32 rfl) (by decide) ?_
  exact zb_X5_readItem_64 Y v0 0 h
def f_X5_readItem_18 (h : zH) : zR :=
  zrZ 0 h
set_option maxRecDepth 100000 in
set_option maxHeartbeats 4000000 in
theorem zb_X5_readItem_18 (Y : zY) (h : zH) : Z Y M_X5_readItem 0 0 18 [] [] h (f_X5_readItem_18  h) := by
  rw [f_X5_readItem_18]
  refine z_iconst (x := 0) (zat dd_X5_readItem 9 rfl) (by decide) ?_
  exact z_zret rfl (zat dd_X5_readItem 10 rfl)
def f_X5_readItem (v0 : Nat) (v1 : Nat) (v2 : Int32) (h : zH) : zR :=
  zgI h v0 2 2 fun x1 =>
  if x1 = 1 then
  zoc h v0 2 <|
  zcI (f_X5_isWord v0 0 h) fun x2 h3 =>
  if x2 = v2 then
  if v2 = 0 then
  zoc h3 v0 2 <|
  zcI (f_X5_isWord v0 1 h3) fun x4 h5 =>
  if x4 = 0 then
  zoc h5 v0 2 <|
  zcI (f_X5_isWord v0 2 h5) fun x6 h7 =>
  if x6 = 0 then
  zoc h7 v0 2 <|
  zcI (f_X5_isWord v0 3 h7) fun x8 h9 =>
  if x8 = 0 then
  zoc h9 v0 2 <|
  zcI (f_X5_isWord v0 4 h9) fun x10 h11 =>
  if x10 = 0 then
  f_X5_readItem_128 v0 h11
  else
  zoc h11 v0 2 <|
  zcI (f_X5_readMove v0 v1 2 h11) fun x12 h13 =>
  if x12 = 0 then
  f_X5_readItem_128 v0 h13
  else
  f_X5_readItem_129 v0 1 h13
  else
  zoc h9 v0 2 <|
  zcI (f_X5_readMove v0 v1 1 h9) fun x14 h15 =>
  f_X5_readItem_130 v0 x14 h15
  else
  zoc h7 v0 2 <|
  zcI (f_X5_readMove v0 v1 0 h7) fun x16 h17 =>
  f_X5_readItem_130 v0 x16 h17
  else
  zgI h5 v1 0 1 fun x18 =>
  if 8 ≤ x18 then
  f_X5_readItem_63 v0 h5
  else
  zoc h5 v0 2 <|
  zcI (f_X5_readPiece v0 v1 h5) fun x19 h20 =>
  if x19 = 0 then
  f_X5_readItem_63 v0 h20
  else
  f_X5_readItem_64 v0 1 h20
  else
  zoc h3 v0 2 <|
  zcI (f_X5_readChild v0 v1 h3) fun x21 h22 =>
  f_X5_readItem_130 v0 x21 h22
  else
  f_X5_readItem_18 h3
  else
  f_X5_readItem_18 h
set_option maxRecDepth 100000 in
set_option maxHeartbeats 4000000 in
theorem m_X5_readItem (l : Launch) (D : zD) (v0 : Nat) (v1 : Nat) (v2 : Int32) (h : zH) : zMet l D yX5_readItem M_X5_readItem [.ref v0, .ref v1, .int v2] h (f_X5_readItem v0 v1 v2 h) := by
  refine zMet.of (by decide +kernel) ⟨rfl, rfl⟩ (Nat.le_of_ble_eq_true rfl) (fun Y hl hD => ?_)
  show Z Y M_X5_readItem 0 0 0 [(0, .ref v0), (1, .ref v1), (2, .int v2)] [] h _
  rw [f_X5_readItem]
  refine z_aload_n 0 (zat dd_X5_readItem 0 rfl) rfl rfl ?_
  refine z_getI fl_X5_44 (zat dd_X5_readItem 1 rfl) (fun x1 => ?_)
  refine z_iconst (x := 1) (zat dd_X5_readItem 2 rfl) (by decide) ?_
  refine z_icmp_ne (tgt := 18) (zat dd_X5_readItem 3 rfl) (by decide) ?_ ?_
  · refine z_sub [] rfl ?_
    exact zb_X5_readItem_18 Y h
  · refine z_aload_n 0 (zat dd_X5_readItem 4 rfl) rfl rfl ?_
    refine z_ldcS (i := 0) rfl (zat dd_X5_readItem 5 rfl) ?_
    refine z_callV_I0 (M2 := M_X5_isWord) [.ref (Y.2.1.2.2.1 0)] (fun l D _ hD => by subst hD; exact m_X5_isWord l _ v0 0 h) u_X5_isWord ql_X5_49 qi_X5_isWord qs_X5_isWord (ci := 2) rfl rfl rfl (Nat.le_of_ble_eq_true rfl) (by decide) rfl rfl (zat dd_X5_readItem 6 rfl) (fun x2 h3 => ?_)
    refine z_iload_n 2 (zat dd_X5_readItem 7 rfl) rfl rfl ?_
    refine z_icmp_eq (tgt := 20) (zat dd_X5_readItem 8 rfl) (by decide) ?_ ?_
    · refine z_iload_n 2 (zat dd_X5_readItem 11 rfl) rfl rfl ?_
      refine z_if_eq (tgt := 33) (zat dd_X5_readItem 12 rfl) (by decide) ?_ ?_
      · refine z_aload_n 0 (zat dd_X5_readItem 18 rfl) rfl rfl ?_
        refine z_ldcS (i := 1) rfl (zat dd_X5_readItem 19 rfl) ?_
        refine z_callV_I0 (M2 := M_X5_isWord) [.ref (Y.2.1.2.2.1 1)] (fun l D _ hD => by subst hD; exact m_X5_isWord l _ v0 1 h3) u_X5_isWord ql_X5_49 qi_X5_isWord qs_X5_isWord (ci := 2) rfl rfl rfl (Nat.le_of_ble_eq_true rfl) (by decide) rfl rfl (zat dd_X5_readItem 20 rfl) (fun x4 h5 => ?_)
        refine z_if_eq (tgt := 68) (zat dd_X5_readItem 21 rfl) (by decide) ?_ ?_
        · refine z_aload_n 0 (zat dd_X5_readItem 35 rfl) rfl rfl ?_
          refine z_ldcS (i := 2) rfl (zat dd_X5_readItem 36 rfl) ?_
          refine z_callV_I0 (M2 := M_X5_isWord) [.ref (Y.2.1.2.2.1 2)] (fun l D _ hD => by subst hD; exact m_X5_isWord l _ v0 2 h5) u_X5_isWord ql_X5_49 qi_X5_isWord qs_X5_isWord (ci := 2) rfl rfl rfl (Nat.le_of_ble_eq_true rfl) (by decide) rfl rfl (zat dd_X5_readItem 37 rfl) (fun x6 h7 => ?_)
          refine z_if_eq (tgt := 87) (zat dd_X5_readItem 38 rfl) (by decide) ?_ ?_
          · refine z_aload_n 0 (zat dd_X5_readItem 45 rfl) rfl rfl ?_
            refine z_ldcS (i := 3) rfl (zat dd_X5_readItem 46 rfl) ?_
            refine z_callV_I0 (M2 := M_X5_isWord) [.ref (Y.2.1.2.2.1 3)] (fun l D _ hD => by subst hD; exact m_X5_isWord l _ v0 3 h7) u_X5_isWord ql_X5_49 qi_X5_isWord qs_X5_isWord (ci := 2) rfl rfl rfl (Nat.le_of_ble_eq_true rfl) (by decide) rfl rfl (zat dd_X5_readItem 47 rfl) (fun x8 h9 => ?_)
            refine z_if_eq (tgt := 106) (zat dd_X5_readItem 48 rfl) (by decide) ?_ ?_
            · refine z_aload_n 0 (zat dd_X5_readItem 55 rfl) rfl rfl ?_
              refine z_ldcS (i := 4) rfl (zat dd_X5_readItem 56 rfl) ?_
              refine z_callV_I0 (M2 := M_X5_isWord) [.ref (Y.2.1.2.2.1 4)] (fun l D _ hD => by subst hD; exact m_X5_isWord l _ v0 4 h9) u_X5_isWord ql_X5_49 qi_X5_isWord qs_X5_isWord (ci := 2) rfl rfl rfl (Nat.le_of_ble_eq_true rfl) (by decide) rfl rfl (zat dd_X5_readItem 57 rfl) (fun x10 h11 => ?_)
              refine z_if_eq (tgt := 128) (zat dd_X5_readItem 58 rfl) (by decide) ?_ ?_
              · refine z_sub [0] rfl ?_
                exact zb_X5_readItem_128 Y v0 h11
              · refine z_aload_n 0 (zat dd_X5_readItem 59 rfl) rfl rfl ?_
                refine z_aload_n 1 (zat dd_X5_readItem 60 rfl) rfl rfl ?_
                refine z_iconst (x := 2) (zat dd_X5_readItem 61 rfl) (by decide) ?_
                refine z_callV_I0 (M2 := M_X5_readMove) [.ref v1, .int 2] (fun l D _ _ => m_X5_readMove l D v0 v1 2 h11) u_X5_readMove ql_X5_67 qi_X5_readMove qs_X5_readMove (ci := 2) rfl rfl rfl (Nat.le_of_ble_eq_true rfl) (by decide) rfl rfl (zat dd_X5_readItem 62 rfl) (fun x12 h13 => ?_)
                refine z_if_eq (tgt := 128) (zat dd_X5_readItem 63 rfl) (by decide) ?_ ?_
                · refine z_sub [0] rfl ?_
                  exact zb_X5_readItem_128 Y v0 h13
                · refine z_iconst (x := 1) (zat dd_X5_readItem 64 rfl) (by decide) ?_
                  refine z_goto (tgt := 129) (zat dd_X5_readItem 65 rfl) (by decide) ?_
                  refine z_sub [0] rfl ?_
                  exact zb_X5_readItem_129 Y v0 1 h13
            · refine z_aload_n 0 (zat dd_X5_readItem 49 rfl) rfl rfl ?_
              refine z_aload_n 1 (zat dd_X5_readItem 50 rfl) rfl rfl ?_
              refine z_iconst (x := 1) (zat dd_X5_readItem 51 rfl) (by decide) ?_
              refine z_callV_I0 (M2 := M_X5_readMove) [.ref v1, .int 1] (fun l D _ _ => m_X5_readMove l D v0 v1 1 h9) u_X5_readMove ql_X5_67 qi_X5_readMove qs_X5_readMove (ci := 2) rfl rfl rfl (Nat.le_of_ble_eq_true rfl) (by decide) rfl rfl (zat dd_X5_readItem 52 rfl) (fun x14 h15 => ?_)
              refine z_istore_n (lv' := [(3, .int x14), (0, .ref v0), (1, .ref v1), (2, .int v2)]) (zat dd_X5_readItem 53 rfl) rfl (Nat.le_of_ble_eq_true rfl) rfl ?_
              refine z_goto (tgt := 130) (zat dd_X5_readItem 54 rfl) (by decide) ?_
              refine z_sub [1, 0] rfl ?_
              exact zb_X5_readItem_130 Y v0 x14 h15
          · refine z_aload_n 0 (zat dd_X5_readItem 39 rfl) rfl rfl ?_
            refine z_aload_n 1 (zat dd_X5_readItem 40 rfl) rfl rfl ?_
            refine z_iconst (x := 0) (zat dd_X5_readItem 41 rfl) (by decide) ?_
            refine z_callV_I0 (M2 := M_X5_readMove) [.ref v1, .int 0] (fun l D _ _ => m_X5_readMove l D v0 v1 0 h7) u_X5_readMove ql_X5_67 qi_X5_readMove qs_X5_readMove (ci := 2) rfl rfl rfl (Nat.le_of_ble_eq_true rfl) (by decide) rfl rfl (zat dd_X5_readItem 42 rfl) (fun x16 h17 => ?_)
            refine z_istore_n (lv' := [(3, .int x16), (0, .ref v0), (1, .ref v1), (2, .int v2)]) (zat dd_X5_readItem 43 rfl) rfl (Nat.le_of_ble_eq_true rfl) rfl ?_
            refine z_goto (tgt := 130) (zat dd_X5_readItem 44 rfl) (by decide) ?_
            refine z_sub [1, 0] rfl ?_
            exact zb_X5_readItem_130 Y v0 x16 h17
        · refine z_aload_n 1 (zat dd_X5_readItem 22 rfl) rfl rfl ?_
          refine z_getI fl_X5_59 (zat dd_X5_readItem 23 rfl) (fun x18 => ?_)
          refine z_bipush (x := 8) (zat dd_X5_readItem 24 rfl) (by decide) ?_
          refine z_icmp_ge (tgt := 63) (zat dd_X5_readItem 25 rfl) (by decide) ?_ ?_
          · refine z_sub [0] rfl ?_
            exact zb_X5_readItem_63 Y v0 h5
          · refine z_aload_n 0 (zat dd_X5_readItem 26 rfl) rfl rfl ?_
            refine z_aload_n 1 (zat dd_X5_readItem 27 rfl) rfl rfl ?_
            refine z_callV_I0 (M2 := M_X5_readPiece) [.ref v1] (fun l D _ _ => m_X5_readPiece l D v0 v1 h5) u_X5_readPiece ql_X5_62 qi_X5_readPiece qs_X5_readPiece (ci := 2) rfl rfl rfl (Nat.le_of_ble_eq_true rfl) (by decide) rfl rfl (zat dd_X5_readItem 28 rfl) (fun x19 h20 => ?_)
            refine z_if_eq (tgt := 63) (zat dd_X5_readItem 29 rfl) (by decide) ?_ ?_
            · refine z_sub [0] rfl ?_
              exact zb_X5_readItem_63 Y v0 h20
            · refine z_iconst (x := 1) (zat dd_X5_readItem 30 rfl) (by decide) ?_
              refine z_goto (tgt := 64) (zat dd_X5_readItem 31 rfl) (by decide) ?_
              refine z_sub [0] rfl ?_
              exact zb_X5_readItem_64 Y v0 1 h20
      · refine z_aload_n 0 (zat dd_X5_readItem 13 rfl) rfl rfl ?_
        refine z_aload_n 1 (zat dd_X5_readItem 14 rfl) rfl rfl ?_
        refine z_callV_I0 (M2 := M_X5_readChild) [.ref v1] (fun l D _ _ => m_X5_readChild l D v0 v1 h3) u_X5_readChild ql_X5_53 qi_X5_readChild qs_X5_readChild (ci := 2) rfl rfl rfl (Nat.le_of_ble_eq_true rfl) (by decide) rfl rfl (zat dd_X5_readItem 15 rfl) (fun x21 h22 => ?_)
        refine z_istore_n (lv' := [(3, .int x21), (0, .ref v0), (1, .ref v1), (2, .int v2)]) (zat dd_X5_readItem 16 rfl) rfl (Nat.le_of_ble_eq_true rfl) rfl ?_
        refine z_goto (tgt := 130) (zat dd_X5_readItem 17 rfl) (by decide) ?_
        refine z_sub [1, 0] rfl ?_
        exact zb_X5_readItem_130 Y v0 x21 h22
    · refine z_sub [] rfl ?_
      exact zb_X5_readItem_18 Y h3
/-! PaperDolls$Reader.readDoll([BILPaperDolls$Doll;)I -/
def L_X5_readDoll : List (Nat × Instr × Nat) := [(0, .aload_n 0, 1), (1, .aload_n 1, 1), (2, .putfield 9, 3), (5, .aload_n 0, 1), (6, .iload_n 2, 1), (7, .aload_n 1, 1), (8, .arraylength, 1), (9, .invokestatic 15, 3), (12, .putfield 21, 3), (15, .aload_n 0, 1), (16, .iconst 0, 1), (17, .putfield 25, 3), (20, .aload_n 3, 1), (21, .iconst 0, 1), (22, .invokevirtual 28, 3), (25, .iconst 0, 1), (26, .istore 4, 2), (28, .aload_n 0, 1), (29, .invokevirtual 34, 3), (32, .aload_n 0, 1), (33, .aload_n 3, 1), (34, .iload 4, 2), (36, .ifCond .ne 7, 3), (39, .iconst 1, 1), (40, .goto 4, 3), (43, .iconst 0, 1), (44, .invokevirtual 37, 3), (47, .ifCond .ne 12, 3), (50, .sipush (-200), 3), (53, .aload_n 0, 1), (54, .getfield 41, 3), (57, .isub, 1), (58, .ireturn, 1), (59, .iinc 4 1, 3), (62, .aload_n 0, 1), (63, .invokevirtual 34, 3), (66, .aload_n 0, 1), (67, .getfield 44, 3), (70, .ifCond .eq 12, 3), (73, .iload 4, 2), (75, .aload_n 0, 1), (76, .getfield 21, 3), (79, .if_icmp .lt (-47), 3), (82, .iload 4, 2), (84, .ireturn, 1)]
theorem dd_X5_readDoll : ∀ q ∈ L_X5_readDoll, decode cX5_readDoll q.1 = .ok q.2 := by decide +kernel
abbrev M_X5_readDoll : zM := (cX5_readDoll, RX5, "readDoll", 5, some .int, 10, 0, 0)
theorem u_X5_readDoll : zCal yX5_readDoll (M_X5_readDoll) 3 := ⟨(zmem 329 (by decide +kernel) rfl : Cond.code yX5_readDoll cX5_readDoll 5 (some .int) ∈ zTb), zmem 60 (by decide +kernel) rfl, by decide +kernel, Nat.le_of_ble_eq_true rfl⟩
theorem qi_X5_readDoll : Cond.instanceMethod yX5_readDoll ∈ zTb := zmem 327 (by decide +kernel) rfl
theorem qs_X5_readDoll : Cond.selects yX5_readDoll.cls yX5_readDoll yX5_readDoll ∈ zTb := zmem 328 (by decide +kernel) rfl
def f_X5_readDoll_82 (v4 : Int32) (h : zH) : zR :=
  zrI v4 h
set_option maxRecDepth 100000 in
set_option maxHeartbeats 4000000 in
theorem zb_X5_readDoll_82 (Y : zY) (v4 : Int32) (h : zH) : Z Y M_X5_readDoll 0 0 82 [(4, .int v4)] [] h (f_X5_readDoll_82 v4 h) := by
  rw [f_X5_readDoll_82]
  refine z_iload 0 (zat dd_X5_readDoll 43 rfl) rfl ?_
  exact z_iret rfl (zat dd_X5_readDoll 44 rfl)
def f_X5_readDoll_44 (k32 : Nat → Nat → Int32 → zH → zR) (v0 : Nat) (v3 : Nat) (v4 : Int32) (t0 : Int32) (t1 : Nat) (t2 : Nat) (h : zH) : zR :=
  zoc h t2 2 <|
  zcI (f_X5_readItem t2 t1 t0 h) fun x1 h2 =>
  if x1 = 0 then
  zgI h2 v0 2 3 fun x6 =>
  zrI ((-200) - x6) h2
  else
  zoc h2 v0 2 <|
  zcV (f_X5_advance v0 h2) fun h3 =>
  zgI h3 v0 2 2 fun x4 =>
  if x4 = 0 then
  f_X5_readDoll_82 (v4 + 1) h3
  else
  zgI h3 v0 2 1 fun x5 =>
  if (v4 + 1) < x5 then
  k32 v0 v3 (v4 + 1) h3
  else
  f_X5_readDoll_82 (v4 + 1) h3
set_option maxRecDepth 100000 in
set_option maxHeartbeats 4000000 in
theorem zb_X5_readDoll_44 (Y : zY) (k32 : Nat → Nat → Int32 → zH → zR) (hk32 : ∀ (v0 : Nat) (v3 : Nat) (v4 : Int32) (h : zH), Z Y M_X5_readDoll 0 0 32 [(0, .ref v0), (3, .ref v3), (4, .int v4)] [] h (k32 v0 v3 v4 h)) (v0 : Nat) (v3 : Nat) (v4 : Int32) (t0 : Int32) (t1 : Nat) (t2 : Nat) (h : zH) : Z Y M_X5_readDoll 0 0 44 [(0, .ref v0), (3, .ref v3), (4, .int v4)] [.int t0, .ref t1, .ref t2] h (f_X5_readDoll_44 k32 v0 v3 v4 t0 t1 t2 h) := by
  rw [f_X5_readDoll_44]
  refine z_callV_I0 (M2 := M_X5_readItem) [.ref t1, .int t0] (fun l D _ _ => m_X5_readItem l D t2 t1 t0 h) u_X5_readItem ql_X5_37 qi_X5_readItem qs_X5_readItem (ci := 2) rfl rfl rfl (Nat.le_of_ble_eq_true rfl) (by decide) rfl rfl (zat dd_X5_readDoll 26 rfl) (fun x1 h2 => ?_)
  refine z_if_ne (tgt := 59) (zat dd_X5_readDoll 27 rfl) (by decide) ?_ ?_
  · refine z_iinc (y := v4 + 1) (lv' := [(4, .int (v4 + 1)), (0, .ref v0), (3, .ref v3)]) 2 (zat dd_X5_readDoll 33 rfl) rfl rfl (Nat.le_of_ble_eq_true rfl) rfl ?_
    refine z_aload_n 1 (zat dd_X5_readDoll 34 rfl) rfl rfl ?_
    refine z_callV_V0 (M2 := M_X5_advance) [] (fun l D _ _ => m_X5_advance l D v0 h2) u_X5_advance ql_X5_34 qi_X5_advance qs_X5_advance (ci := 2) rfl rfl rfl (Nat.le_of_ble_eq_true rfl) (by decide) rfl rfl (zat dd_X5_readDoll 35 rfl) (fun h3 => ?_)
    refine z_aload_n 1 (zat dd_X5_readDoll 36 rfl) rfl rfl ?_
    refine z_getI fl_X5_44 (zat dd_X5_readDoll 37 rfl) (fun x4 => ?_)
    refine z_if_eq (tgt := 82) (zat dd_X5_readDoll 38 rfl) (by decide) ?_ ?_
    · refine z_sub [0] rfl ?_
      exact zb_X5_readDoll_82 Y (v4 + 1) h3
    · refine z_iload 0 (zat dd_X5_readDoll 39 rfl) rfl ?_
      refine z_aload_n 1 (zat dd_X5_readDoll 40 rfl) rfl rfl ?_
      refine z_getI fl_X5_21 (zat dd_X5_readDoll 41 rfl) (fun x5 => ?_)
      refine z_icmp_lt (tgt := 32) (zat dd_X5_readDoll 42 rfl) (by decide) ?_ ?_
      · refine z_sub [1, 2, 0] rfl ?_
        exact hk32 v0 v3 (v4 + 1) h3
      · refine z_sub [0] rfl ?_
        exact zb_X5_readDoll_82 Y (v4 + 1) h3
  · refine z_sipush (x := (-200)) (zat dd_X5_readDoll 28 rfl) (by decide) ?_
    refine z_aload_n 0 (zat dd_X5_readDoll 29 rfl) rfl rfl ?_
    refine z_getI fl_X5_41 (zat dd_X5_readDoll 30 rfl) (fun x6 => ?_)
    refine z_isub (zat dd_X5_readDoll 31 rfl) ?_
    exact z_iret rfl (zat dd_X5_readDoll 32 rfl)
def f_X5_readDoll_32 : Nat → Nat → Nat → Int32 → zH → zR
  | 0, _, _, _, _ => none
  | n + 1, v0, v3, v4, h =>
  if v4 = 0 then
  f_X5_readDoll_44 (f_X5_readDoll_32 n) v0 v3 v4 1 v3 v0 h
  else
  f_X5_readDoll_44 (f_X5_readDoll_32 n) v0 v3 v4 0 v3 v0 h
set_option maxRecDepth 100000 in
set_option maxHeartbeats 4000000 in
theorem zb_X5_readDoll_32 (Y : zY) : ∀ (n : Nat) (v0 : Nat) (v3 : Nat) (v4 : Int32) (h : zH), Z Y M_X5_readDoll 0 0 32 [(0, .ref v0), (3, .ref v3), (4, .int v4)] [] h (f_X5_readDoll_32 n v0 v3 v4 h) := by
  intro n
  induction n with
  | zero =>
    intro v0 v3 v4 h
    rw [f_X5_readDoll_32]
    exact z_none
  | succ n ih =>
    intro v0 v3 v4 h
    rw [f_X5_readDoll_32]
    refine z_aload_n 0 (zat dd_X5_readDoll 19 rfl) rfl rfl ?_
    refine z_aload_n 1 (zat dd_X5_readDoll 20 rfl) rfl rfl ?_
    refine z_iload 2 (zat dd_X5_readDoll 21 rfl) rfl ?_
    refine z_if_ne (tgt := 43) (zat dd_X5_readDoll 22 rfl) (by decide) ?_ ?_
    · refine z_iconst (x := 0) (zat dd_X5_readDoll 25 rfl) (by decide) ?_
      exact zb_X5_readDoll_44 Y (f_X5_readDoll_32 n) ih v0 v3 v4 0 v3 v0 h
    · refine z_iconst (x := 1) (zat dd_X5_readDoll 23 rfl) (by decide) ?_
      refine z_goto (tgt := 44) (zat dd_X5_readDoll 24 rfl) (by decide) ?_
      exact zb_X5_readDoll_44 Y (f_X5_readDoll_32 n) ih v0 v3 v4 1 v3 v0 h
def f_X5_readDoll (v0 : Nat) (v1 : Nat) (v2 : Int32) (v3 : Nat) (h : zH) : zR :=
  zpV h v0 2 0 (.ref v1) fun h1 =>
  zaL h1 v1 1 fun x2 =>
  zpV h1 v0 2 1 (.int (if x2 < v2 then x2 else v2)) fun h3 =>
  zpV h3 v0 2 4 (.int 0) fun h4 =>
  zoc h4 v3 0 <|
  zcV (f_X1_begin v3 0 h4) fun h5 =>
  zoc h5 v0 2 <|
  zcV (f_X5_advance v0 h5) fun h6 =>
  f_X5_readDoll_32 zF v0 v3 0 h6
set_option maxRecDepth 100000 in
set_option maxHeartbeats 4000000 in
theorem m_X5_readDoll (l : Launch) (D : zD) (v0 : Nat) (v1 : Nat) (v2 : Int32) (v3 : Nat) (h : zH) : zMet l D yX5_readDoll M_X5_readDoll [.ref v0, .ref v1, .int v2, .ref v3] h (f_X5_readDoll v0 v1 v2 v3 h) := by
  refine zMet.of (by decide +kernel) ⟨rfl, rfl⟩ (Nat.le_of_ble_eq_true rfl) (fun Y hl hD => ?_)
  show Z Y M_X5_readDoll 0 0 0 [(0, .ref v0), (1, .ref v1), (2, .int v2), (3, .ref v3)] [] h _
  rw [f_X5_readDoll]
  refine z_aload_n 0 (zat dd_X5_readDoll 0 rfl) rfl rfl ?_
  refine z_aload_n 1 (zat dd_X5_readDoll 1 rfl) rfl rfl ?_
  refine z_put fl_X5_9 rfl rfl (zat dd_X5_readDoll 2 rfl) (fun h1 => ?_)
  refine z_aload_n 0 (zat dd_X5_readDoll 3 rfl) rfl rfl ?_
  refine z_iload_n 2 (zat dd_X5_readDoll 4 rfl) rfl rfl ?_
  refine z_aload_n 1 (zat dd_X5_readDoll 5 rfl) rfl rfl ?_
  refine z_alenB (zat dd_X5_readDoll 6 rfl) (fun x2 => ?_)
  refine z_mmin ql_X5_15 qm_min1 qm_2 qm_min3 (Nat.le_of_ble_eq_true rfl) (zat dd_X5_readDoll 7 rfl) ?_
  refine z_put fl_X5_21 rfl rfl (zat dd_X5_readDoll 8 rfl) (fun h3 => ?_)
  refine z_aload_n 0 (zat dd_X5_readDoll 9 rfl) rfl rfl ?_
  refine z_iconst (x := 0) (zat dd_X5_readDoll 10 rfl) (by decide) ?_
  refine z_put fl_X5_25 rfl rfl (zat dd_X5_readDoll 11 rfl) (fun h4 => ?_)
  refine z_aload_n 3 (zat dd_X5_readDoll 12 rfl) rfl rfl ?_
  refine z_iconst (x := 0) (zat dd_X5_readDoll 13 rfl) (by decide) ?_
  refine z_callV_V0 (M2 := M_X1_begin) [.int 0] (fun l D _ _ => m_X1_begin l D v3 0 h4) u_X1_begin ql_X5_28 qi_X1_begin qs_X1_begin (ci := 0) rfl rfl rfl (Nat.le_of_ble_eq_true rfl) (by decide) rfl rfl (zat dd_X5_readDoll 14 rfl) (fun h5 => ?_)
  refine z_iconst (x := 0) (zat dd_X5_readDoll 15 rfl) (by decide) ?_
  refine z_istore (lv' := [(4, .int 0), (0, .ref v0), (1, .ref v1), (2, .int v2), (3, .ref v3)]) (zat dd_X5_readDoll 16 rfl) (Nat.le_of_ble_eq_true rfl) rfl ?_
  refine z_aload_n 1 (zat dd_X5_readDoll 17 rfl) rfl rfl ?_
  refine z_callV_V0 (M2 := M_X5_advance) [] (fun l D _ _ => m_X5_advance l D v0 h5) u_X5_advance ql_X5_34 qi_X5_advance qs_X5_advance (ci := 2) rfl rfl rfl (Nat.le_of_ble_eq_true rfl) (by decide) rfl rfl (zat dd_X5_readDoll 18 rfl) (fun h6 => ?_)
  refine z_sub [1, 4, 0] rfl ?_
  exact zb_X5_readDoll_32 Y zF v0 v3 0 h6
