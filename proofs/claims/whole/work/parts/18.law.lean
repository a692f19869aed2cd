/-! THE LAW'S OWN WALK -/
def zScr (Y : zY) (b L : Nat) (xs : Nat → Int32) : Prop := match Y with
  | ((_, _, _, _, s, _, _, _, _, _), _, A, _) => va_X b L xs s s.heap ∧ ¬ A b
def zsc (sN : Nat) (sx : Nat → Int32) (i : Int32) (K : Int32 → zR) : zR := if i < 0 ∨ sN ≤ i.toNatClampNeg then none else K (sx i.toNatClampNeg)
section ZL
variable {Y : zY} {M : zM} {cells slots pc : Nat} {lv lv' : List (Nat × Value)} {st : List Value} {h : zH} {r r1 r2 : zR}
theorem z_sld {sb sN : Nat} {sx : Nat → Int32} {i : Int32} {K : Int32 → zR} (hsc : zScr Y sb sN sx) (hd : decode M.1 pc = .ok (.iaload, 1)) (kk : ∀ x, Z Y M cells slots (pc + 1) lv (.int x :: st) h (K x)) : Z Y M cells slots pc lv (.int i :: .ref sb :: st) h (zsc sN sx i K) := by
  obtain ⟨⟨p, l, e, R, s, m, args, below, meth, c⟩, D, A, Q⟩ := Y
  intro o1 o2 v h' hr hz H locs ls hR hS hv
  unfold zsc at hr
  split at hr
  · cases hr
  · rename_i hin
    obtain ⟨z1, z2⟩ := hsc
    obtain ⟨scr, g1, g2, g3, g4, g5⟩ := z1
    have hlt : sb < s.heap.size := (Array.getElem?_eq_some_iff.mp g1).1
    refine W.iald o1.1 o1.2.1 (cell := scr) (v := .int (sx i.toNatClampNeg)) (by rw [hS.2.1 sb hlt z2]; exact g1) g2 g3 (by rw [g4]; exact hin) (g5 _ (by omega)) rfl rfl hd (kk _ o1 o2 v h' hr hz H locs ls hR hS hv)
theorem z_slen {sb sN : Nat} {sx : Nat → Int32} {K : Int32 → zR} (hsc : zScr Y sb sN sx) (hd : decode M.1 pc = .ok (.arraylength, 1)) (kk : ∀ x, Z Y M cells slots (pc + 1) lv (.int x :: st) h (K x)) : Z Y M cells slots pc lv (.ref sb :: st) h (zlt (Int32.ofNat sN) K) := by
  obtain ⟨⟨p, l, e, R, s, m, args, below, meth, c⟩, D, A, Q⟩ := Y
  intro o1 o2 v h' hr hz H locs ls hR hS hv
  obtain ⟨z1, z2⟩ := hsc
  obtain ⟨scr, g1, g2, g3, g4, g5⟩ := z1
  have hlt : sb < s.heap.size := (Array.getElem?_eq_some_iff.mp g1).1
  exact W.alen o1.1 o1.2.1 (cell := scr) (by rw [hS.2.1 sb hlt z2]; exact g1) g2 (n := Int32.ofNat sN) (by rw [g4]) rfl rfl hd (kk _ o1 o2 v h' hr hz H locs ls hR hS hv)
theorem z_callV_IL {y : MethodName} {M2 : zM} {n idx : Nat} {b : Nat} {K : Int32 → zH → zR} (av : List Value) {st0 : List Value} (hM : ∀ (l : Launch) (D : zD), l = Y.1.2.1 → D = Y.2.1 → zMet l D y M2 (.ref b :: av) h r) (hu : zCal y M2 n) (hl : Cond.methodLink M.2.1 idx y ∈ zTb) (hsx : Cond.instanceMethod y ∈ zTb) (hse : Cond.selects y.cls y y ∈ zTb) {ci : Nat} {T : u_T} {N : Nat} (hci : vwCl[ci]? = some (y.cls, T, N)) (hn : av.length = n) (hst0 : st0 = av.reverse ++ .ref b :: st) (hrm : (st.map fun v => v.category).sum ≤ 8) (hlev : M2.2.2.2.2.2.1 + 1 ≤ M.2.2.2.2.2.1) (hcs : cells ≤ M.2.2.2.2.2.2.1 ∧ slots ≤ M.2.2.2.2.2.2.2) (hm0 : M2.2.2.2.2.2.2.1 = 0) (hm1 : M2.2.2.2.2.2.2.2 = 0) (hd : decode M.1 pc = .ok (.invokevirtual idx, 3)) (kk : ∀ x h1, Z Y M cells slots (pc + 3) lv (.int x :: st) h1 (K x h1)) : Z Y M cells slots pc lv st0 h (zoc h b ci (zcI r K)) := z_callV_I av hM hu hl hsx hse hci hn hst0 hrm hlev (by rw [hm0, hm1]; exact hcs) hd (fun x h1 => by rw [hm0, hm1]; exact kk x h1)
theorem z_callV_JL {y : MethodName} {M2 : zM} {n idx : Nat} {b : Nat} {K : Int64 → zH → zR} (av : List Value) {st0 : List Value} (hM : ∀ (l : Launch) (D : zD), l = Y.1.2.1 → D = Y.2.1 → zMet l D y M2 (.ref b :: av) h r) (hu : zCal y M2 n) (hl : Cond.methodLink M.2.1 idx y ∈ zTb) (hsx : Cond.instanceMethod y ∈ zTb) (hse : Cond.selects y.cls y y ∈ zTb) {ci : Nat} {T : u_T} {N : Nat} (hci : vwCl[ci]? = some (y.cls, T, N)) (hn : av.length = n) (hst0 : st0 = av.reverse ++ .ref b :: st) (hrm : (st.map fun v => v.category).sum ≤ 8) (hlev : M2.2.2.2.2.2.1 + 1 ≤ M.2.2.2.2.2.1) (hcs : cells ≤ M.2.2.2.2.2.2.1 ∧ slots ≤ M.2.2.2.2.2.2.2) (hm0 : M2.2.2.2.2.2.2.1 = 0) (hm1 : M2.2.2.2.2.2.2.2 = 0) (hd : decode M.1 pc = .ok (.invokevirtual idx, 3)) (kk : ∀ x h1, Z Y M cells slots (pc + 3) lv (.long x :: st) h1 (K x h1)) : Z Y M cells slots pc lv st0 h (zoc h b ci (zcJ r K)) := z_callV_J av hM hu hl hsx hse hci hn hst0 hrm hlev (by rw [hm0, hm1]; exact hcs) hd (fun x h1 => by rw [hm0, hm1]; exact kk x h1)
end ZL
/-! PaperDollsLaw.law([I)Z -/
abbrev M_L_law : zM := (cL_law, RL, "law", 4, some .boolean, 13, 170, 2621)
def f_L_law_1012 (sN : Nat) (sx : Nat → Int32) (k18 : Nat → Nat → Int32 → zH → zR) (v1 : Nat) (v2 : Nat) (v3 : Int32) (h : zH) : zR :=
  k18 v1 v2 (v3 + 5) h
set_option maxRecDepth 100000 in
set_option maxHeartbeats 4000000 in
theorem zb_L_law_1012 (Y : zY) (sb sN : Nat) (sx : Nat → Int32) (hsc : zScr Y sb sN sx) (k18 : Nat → Nat → Int32 → zH → zR) (hk18 : ∀ (v1 : Nat) (v2 : Nat) (v3 : Int32) (h : zH), Z Y M_L_law 170 2621 18 [(0, .ref sb), (1, .ref v1), (2, .ref v2), (3, .int v3)] [] h (k18 v1 v2 v3 h)) (v1 : Nat) (v2 : Nat) (v3 : Int32) (h : zH) : Z Y M_L_law 170 2621 1012 [(0, .ref sb), (1, .ref v1), (2, .ref v2), (3, .int v3)] [] h (f_L_law_1012 sN sx k18 v1 v2 v3 h) := by
  rw [f_L_law_1012]
  refine z_iinc (y := v3 + 5) (lv' := [(3, .int (v3 + 5)), (0, .ref sb), (1, .ref v1), (2, .ref v2)]) 3 (zat dd_L_law_12 26 rfl) rfl rfl (Nat.le_of_ble_eq_true rfl) rfl ?_
  refine z_goto (tgt := 18) (zat dd_L_law_12 27 rfl) (by decide) ?_
  refine z_sub [1, 2, 3, 0] rfl ?_
  exact hk18 v1 v2 (v3 + 5) h
def f_L_law_18 (sN : Nat) (sx : Nat → Int32) : Nat → Nat → Nat → Int32 → zH → zR
  | 0, _, _, _, _ => none
  | n + 1, v1, v2, v3, h =>
  zlt (Int32.ofNat sN) fun x1 =>
  if (x1 - 5) < v3 then
  zrZ 1 h
  else
  zsc sN sx v3 fun x2 =>
  if (x2 &&& 63) = 0 then
  zsc sN sx (v3 + 1) fun x3 =>
  zoc h v1 5 <|
  zcI (f_X9_doll v1 x3 h) fun x4 h5 =>
  zsc sN sx (v3 + 1) fun x6 =>
  zoc h5 v2 6 <|
  zcI (f_X10_doll v2 x6 h5) fun x7 h8 =>
  if x4 = x7 then
  f_L_law_1012 sN sx (f_L_law_18 sN sx n) v1 v2 v3 h8
  else
  zrZ 0 h8
  else
  if (x2 &&& 63) = 1 then
  zsc sN sx (v3 + 1) fun x9 =>
  zoc h v1 5 <|
  zcI (f_X9_child v1 x9 h) fun x10 h11 =>
  zsc sN sx (v3 + 1) fun x12 =>
  zoc h11 v2 6 <|
  zcI (f_X10_child v2 x12 h11) fun x13 h14 =>
  if x10 = x13 then
  f_L_law_1012 sN sx (f_L_law_18 sN sx n) v1 v2 v3 h14
  else
  zrZ 0 h14
  else
  if (x2 &&& 63) = 2 then
  zsc sN sx (v3 + 1) fun x15 =>
  zsc sN sx (v3 + 2) fun x16 =>
  zsc sN sx (v3 + 3) fun x17 =>
  zoc h v1 5 <|
  zcI (f_X9_piece v1 x15 x16 x17 h) fun x18 h19 =>
  zsc sN sx (v3 + 1) fun x20 =>
  zsc sN sx (v3 + 2) fun x21 =>
  zsc sN sx (v3 + 3) fun x22 =>
  zoc h19 v2 6 <|
  zcI (f_X10_piece v2 x20 x21 x22 h19) fun x23 h24 =>
  if x18 = x23 then
  f_L_law_1012 sN sx (f_L_law_18 sN sx n) v1 v2 v3 h24
  else
  zrZ 0 h24
  else
  if (x2 &&& 63) = 3 then
  zsc sN sx (v3 + 1) fun x25 =>
  zoc h v1 5 <|
  zcI (f_X9_type v1 x25 h) fun x26 h27 =>
  zsc sN sx (v3 + 1) fun x28 =>
  zoc h27 v2 6 <|
  zcI (f_X10_type v2 x28 h27) fun x29 h30 =>
  if x26 = x29 then
  f_L_law_1012 sN sx (f_L_law_18 sN sx n) v1 v2 v3 h30
  else
  zrZ 0 h30
  else
  if (x2 &&& 63) = 4 then
  zoc h v1 5 <|
  zcI (f_X9_clear v1 h) fun x31 h32 =>
  zoc h32 v2 6 <|
  zcI (f_X10_clear v2 h32) fun x33 h34 =>
  if x31 = x33 then
  f_L_law_1012 sN sx (f_L_law_18 sN sx n) v1 v2 v3 h34
  else
  zrZ 0 h34
  else
  if (x2 &&& 63) = 5 then
  zoc h v1 5 <|
  zcI (f_X9_read v1 h) fun x35 h36 =>
  zoc h36 v2 6 <|
  zcI (f_X10_read v2 h36) fun x37 h38 =>
  if x35 = x37 then
  f_L_law_1012 sN sx (f_L_law_18 sN sx n) v1 v2 v3 h38
  else
  zrZ 0 h38
  else
  if (x2 &&& 63) = 6 then
  zsc sN sx (v3 + 1) fun x39 =>
  zoc h v1 5 <|
  zcI (f_X9_puts v1 x39 h) fun x40 h41 =>
  zsc sN sx (v3 + 1) fun x42 =>
  zoc h41 v2 6 <|
  zcI (f_X10_puts v2 x42 h41) fun x43 h44 =>
  if x40 = x43 then
  f_L_law_1012 sN sx (f_L_law_18 sN sx n) v1 v2 v3 h44
  else
  zrZ 0 h44
  else
  if (x2 &&& 63) = 7 then
  zsc sN sx (v3 + 1) fun x45 =>
  zoc h v1 5 <|
  zcI (f_X9_takes v1 x45 h) fun x46 h47 =>
  zsc sN sx (v3 + 1) fun x48 =>
  zoc h47 v2 6 <|
  zcI (f_X10_takes v2 x48 h47) fun x49 h50 =>
  if x46 = x49 then
  f_L_law_1012 sN sx (f_L_law_18 sN sx n) v1 v2 v3 h50
  else
  zrZ 0 h50
  else
  if (x2 &&& 63) = 8 then
  zsc sN sx (v3 + 1) fun x51 =>
  zoc h v1 5 <|
  zcI (f_X9_mends v1 x51 h) fun x52 h53 =>
  zsc sN sx (v3 + 1) fun x54 =>
  zoc h53 v2 6 <|
  zcI (f_X10_mends v2 x54 h53) fun x55 h56 =>
  if x52 = x55 then
  f_L_law_1012 sN sx (f_L_law_18 sN sx n) v1 v2 v3 h56
  else
  zrZ 0 h56
  else
  if (x2 &&& 63) = 9 then
  zoc h v1 5 <|
  zcI (f_X9_undo v1 h) fun x57 h58 =>
  zoc h58 v2 6 <|
  zcI (f_X10_undo v2 h58) fun x59 h60 =>
  if x57 = x59 then
  f_L_law_1012 sN sx (f_L_law_18 sN sx n) v1 v2 v3 h60
  else
  zrZ 0 h60
  else
  if (x2 &&& 63) = 10 then
  zsc sN sx (v3 + 1) fun x61 =>
  zsc sN sx (v3 + 2) fun x62 =>
  zoc h v1 5 <|
  zcI (f_X9_of v1 x61 x62 h) fun x63 h64 =>
  zsc sN sx (v3 + 1) fun x65 =>
  zsc sN sx (v3 + 2) fun x66 =>
  zoc h64 v2 6 <|
  zcI (f_X10_of v2 x65 x66 h64) fun x67 h68 =>
  if x63 = x67 then
  f_L_law_1012 sN sx (f_L_law_18 sN sx n) v1 v2 v3 h68
  else
  zrZ 0 h68
  else
  if (x2 &&& 63) = 11 then
  zsc sN sx (v3 + 1) fun x69 =>
  zoc h v1 5 <|
  zcI (f_X9_seen v1 x69 h) fun x70 h71 =>
  zsc sN sx (v3 + 1) fun x72 =>
  zoc h71 v2 6 <|
  zcI (f_X10_seen v2 x72 h71) fun x73 h74 =>
  if x70 = x73 then
  f_L_law_1012 sN sx (f_L_law_18 sN sx n) v1 v2 v3 h74
  else
  zrZ 0 h74
  else
  if (x2 &&& 63) = 12 then
  zoc h v1 5 <|
  zcI (f_X9_can v1 h) fun x75 h76 =>
  zoc h76 v2 6 <|
  zcI (f_X10_can v2 h76) fun x77 h78 =>
  if x75 = x77 then
  f_L_law_1012 sN sx (f_L_law_18 sN sx n) v1 v2 v3 h78
  else
  zrZ 0 h78
  else
  if (x2 &&& 63) = 13 then
  zoc h v1 5 <|
  zcI (f_X9_off v1 h) fun x79 h80 =>
  zoc h80 v2 6 <|
  zcI (f_X10_off v2 h80) fun x81 h82 =>
  if x79 = x81 then
  f_L_law_1012 sN sx (f_L_law_18 sN sx n) v1 v2 v3 h82
  else
  zrZ 0 h82
  else
  if (x2 &&& 63) = 14 then
  zsc sN sx (v3 + 1) fun x83 =>
  zoc h v1 5 <|
  zcI (f_X9_going v1 x83 h) fun x84 h85 =>
  zsc sN sx (v3 + 1) fun x86 =>
  zoc h85 v2 6 <|
  zcI (f_X10_going v2 x86 h85) fun x87 h88 =>
  if x84 = x87 then
  f_L_law_1012 sN sx (f_L_law_18 sN sx n) v1 v2 v3 h88
  else
  zrZ 0 h88
  else
  if (x2 &&& 63) = 15 then
  zsc sN sx (v3 + 1) fun x89 =>
  zoc h v1 5 <|
  zcI (f_X9_outfits v1 x89 h) fun x90 h91 =>
  zsc sN sx (v3 + 1) fun x92 =>
  zoc h91 v2 6 <|
  zcI (f_X10_outfits v2 x92 h91) fun x93 h94 =>
  if x90 = x93 then
  f_L_law_1012 sN sx (f_L_law_18 sN sx n) v1 v2 v3 h94
  else
  zrZ 0 h94
  else
  if (x2 &&& 63) = 16 then
  zsc sN sx (v3 + 1) fun x95 =>
  zoc h v1 5 <|
  zcI (f_X9_lean v1 x95 h) fun x96 h97 =>
  zsc sN sx (v3 + 1) fun x98 =>
  zoc h97 v2 6 <|
  zcI (f_X10_lean v2 x98 h97) fun x99 h100 =>
  if x96 = x99 then
  f_L_law_1012 sN sx (f_L_law_18 sN sx n) v1 v2 v3 h100
  else
  zrZ 0 h100
  else
  if (x2 &&& 63) = 17 then
  zoc h v1 5 <|
  zcI (f_X9_days v1 h) fun x101 h102 =>
  zoc h102 v2 6 <|
  zcI (f_X10_days v2 h102) fun x103 h104 =>
  if x101 = x103 then
  f_L_law_1012 sN sx (f_L_law_18 sN sx n) v1 v2 v3 h104
  else
  zrZ 0 h104
  else
  if (x2 &&& 63) = 18 then
  zoc h v1 5 <|
  zcI (f_X9_spared v1 h) fun x105 h106 =>
  zoc h106 v2 6 <|
  zcI (f_X10_spared v2 h106) fun x107 h108 =>
  if x105 = x107 then
  f_L_law_1012 sN sx (f_L_law_18 sN sx n) v1 v2 v3 h108
  else
  zrZ 0 h108
  else
  if (x2 &&& 63) = 19 then
  zsc sN sx (v3 + 1) fun x109 =>
  zoc h v1 5 <|
  zcI (f_X9_few v1 x109 h) fun x110 h111 =>
  zsc sN sx (v3 + 1) fun x112 =>
  zoc h111 v2 6 <|
  zcI (f_X10_few v2 x112 h111) fun x113 h114 =>
  if x110 = x113 then
  f_L_law_1012 sN sx (f_L_law_18 sN sx n) v1 v2 v3 h114
  else
  zrZ 0 h114
  else
  if (x2 &&& 63) = 20 then
  zsc sN sx (v3 + 1) fun x115 =>
  zsc sN sx (v3 + 2) fun x116 =>
  zsc sN sx (v3 + 3) fun x117 =>
  zoc h v1 5 <|
  zcI (f_X9_note v1 x115 x116 x117 h) fun x118 h119 =>
  zsc sN sx (v3 + 1) fun x120 =>
  zsc sN sx (v3 + 2) fun x121 =>
  zsc sN sx (v3 + 3) fun x122 =>
  zoc h119 v2 6 <|
  zcI (f_X10_note v2 x120 x121 x122 h119) fun x123 h124 =>
  if x118 = x123 then
  f_L_law_1012 sN sx (f_L_law_18 sN sx n) v1 v2 v3 h124
  else
  zrZ 0 h124
  else
  if (x2 &&& 63) = 21 then
  zsc sN sx (v3 + 1) fun x125 =>
  zsc sN sx (v3 + 2) fun x126 =>
  zsc sN sx (v3 + 3) fun x127 =>
  zsc sN sx (v3 + 4) fun x128 =>
  zoc h v1 5 <|
  zcI (f_X9_mark v1 x125 x126 x127 x128 h) fun x129 h130 =>
  zsc sN sx (v3 + 1) fun x131 =>
  zsc sN sx (v3 + 2) fun x132 =>
  zsc sN sx (v3 + 3) fun x133 =>
  zsc sN sx (v3 + 4) fun x134 =>
  zoc h130 v2 6 <|
  zcI (f_X10_mark v2 x131 x132 x133 x134 h130) fun x135 h136 =>
  if x129 = x135 then
  f_L_law_1012 sN sx (f_L_law_18 sN sx n) v1 v2 v3 h136
  else
  zrZ 0 h136
  else
  if (x2 &&& 63) = 22 then
  zsc sN sx (v3 + 1) fun x137 =>
  zoc h v1 5 <|
  zcI (f_X9_forget v1 x137 h) fun x138 h139 =>
  zsc sN sx (v3 + 1) fun x140 =>
  zoc h139 v2 6 <|
  zcI (f_X10_forget v2 x140 h139) fun x141 h142 =>
  if x138 = x141 then
  f_L_law_1012 sN sx (f_L_law_18 sN sx n) v1 v2 v3 h142
  else
  zrZ 0 h142
  else
  if (x2 &&& 63) = 23 then
  zoc h v1 5 <|
  zcI (f_X9_is v1 h) fun x143 h144 =>
  zoc h144 v2 6 <|
  zcI (f_X10_is v2 h144) fun x145 h146 =>
  if x143 = x145 then
  f_L_law_1012 sN sx (f_L_law_18 sN sx n) v1 v2 v3 h146
  else
  zrZ 0 h146
  else
  if (x2 &&& 63) = 24 then
  zoc h v1 5 <|
  zcI (f_X9_look v1 h) fun x147 h148 =>
  zoc h148 v2 6 <|
  zcI (f_X10_look v2 h148) fun x149 h150 =>
  if x147 = x149 then
  f_L_law_1012 sN sx (f_L_law_18 sN sx n) v1 v2 v3 h150
  else
  zrZ 0 h150
  else
  if (x2 &&& 63) = 25 then
  zsc sN sx (v3 + 1) fun x151 =>
  zoc h v1 5 <|
  zcI (f_X9_kinds v1 x151 h) fun x152 h153 =>
  zsc sN sx (v3 + 1) fun x154 =>
  zoc h153 v2 6 <|
  zcI (f_X10_kinds v2 x154 h153) fun x155 h156 =>
  if x152 = x155 then
  f_L_law_1012 sN sx (f_L_law_18 sN sx n) v1 v2 v3 h156
  else
  zrZ 0 h156
  else
  if (x2 &&& 63) = 26 then
  zsc sN sx (v3 + 1) fun x157 =>
  zoc h v1 5 <|
  zcI (f_X9_ask v1 x157 h) fun x158 h159 =>
  zsc sN sx (v3 + 1) fun x160 =>
  zoc h159 v2 6 <|
  zcI (f_X10_ask v2 x160 h159) fun x161 h162 =>
  if x158 = x161 then
  f_L_law_1012 sN sx (f_L_law_18 sN sx n) v1 v2 v3 h162
  else
  zrZ 0 h162
  else
  if (x2 &&& 63) = 27 then
  zsc sN sx (v3 + 1) fun x163 =>
  zoc h v1 5 <|
  zcI (f_X9_two v1 x163 h) fun x164 h165 =>
  zsc sN sx (v3 + 1) fun x166 =>
  zoc h165 v2 6 <|
  zcI (f_X10_two v2 x166 h165) fun x167 h168 =>
  if x164 = x167 then
  f_L_law_1012 sN sx (f_L_law_18 sN sx n) v1 v2 v3 h168
  else
  zrZ 0 h168
  else
  if (x2 &&& 63) = 28 then
  zsc sN sx (v3 + 1) fun x169 =>
  zoc h v1 5 <|
  zcI (f_X9_luck v1 x169 h) fun x170 h171 =>
  zsc sN sx (v3 + 1) fun x172 =>
  zoc h171 v2 6 <|
  zcI (f_X10_luck v2 x172 h171) fun x173 h174 =>
  if x170 = x173 then
  f_L_law_1012 sN sx (f_L_law_18 sN sx n) v1 v2 v3 h174
  else
  zrZ 0 h174
  else
  if (x2 &&& 63) = 29 then
  zsc sN sx (v3 + 1) fun x175 =>
  zsc sN sx (v3 + 2) fun x176 =>
  zoc h v1 5 <|
  zcI (f_X9_evenings v1 x175 x176 h) fun x177 h178 =>
  zsc sN sx (v3 + 1) fun x179 =>
  zsc sN sx (v3 + 2) fun x180 =>
  zoc h178 v2 6 <|
  zcI (f_X10_evenings v2 x179 x180 h178) fun x181 h182 =>
  if x177 = x181 then
  f_L_law_1012 sN sx (f_L_law_18 sN sx n) v1 v2 v3 h182
  else
  zrZ 0 h182
  else
  if (x2 &&& 63) = 30 then
  zsc sN sx (v3 + 1) fun x183 =>
  zoc h v1 5 <|
  zcJ (f_X9_part v1 x183 h) fun x184 h185 =>
  zsc sN sx (v3 + 1) fun x186 =>
  zoc h185 v2 6 <|
  zcJ (f_X10_part v2 x186 h185) fun x187 h188 =>
  if (lg_cmp x184 x187) = 0 then
  f_L_law_1012 sN sx (f_L_law_18 sN sx n) v1 v2 v3 h188
  else
  zrZ 0 h188
  else
  if (x2 &&& 63) = 31 then
  zsc sN sx (v3 + 1) fun x189 =>
  zoc h v1 5 <|
  zcI (f_X9_image v1 x189 h) fun x190 h191 =>
  zsc sN sx (v3 + 1) fun x192 =>
  zoc h191 v2 6 <|
  zcI (f_X10_image v2 x192 h191) fun x193 h194 =>
  if x190 = x193 then
  f_L_law_1012 sN sx (f_L_law_18 sN sx n) v1 v2 v3 h194
  else
  zrZ 0 h194
  else
  if (x2 &&& 63) = 32 then
  zsc sN sx (v3 + 1) fun x195 =>
  zoc h v1 5 <|
  zcI (f_X9_from v1 x195 h) fun x196 h197 =>
  zsc sN sx (v3 + 1) fun x198 =>
  zoc h197 v2 6 <|
  zcI (f_X10_from v2 x198 h197) fun x199 h200 =>
  if x196 = x199 then
  f_L_law_1012 sN sx (f_L_law_18 sN sx n) v1 v2 v3 h200
  else
  zrZ 0 h200
  else
  if (x2 &&& 63) = 33 then
  zsc sN sx (v3 + 1) fun x201 =>
  zoc h v1 5 <|
  zcI (f_X9_status v1 x201 h) fun x202 h203 =>
  zsc sN sx (v3 + 1) fun x204 =>
  zoc h203 v2 6 <|
  zcI (f_X10_status v2 x204 h203) fun x205 h206 =>
  if x202 = x205 then
  f_L_law_1012 sN sx (f_L_law_18 sN sx n) v1 v2 v3 h206
  else
  zrZ 0 h206
  else
  if (x2 &&& 63) = 34 then
  zsc sN sx (v3 + 1) fun x207 =>
  zoc h v1 5 <|
  zcI (f_X9_count v1 x207 h) fun x208 h209 =>
  zsc sN sx (v3 + 1) fun x210 =>
  zoc h209 v2 6 <|
  zcI (f_X10_count v2 x210 h209) fun x211 h212 =>
  if x208 = x211 then
  f_L_law_1012 sN sx (f_L_law_18 sN sx n) v1 v2 v3 h212
  else
  zrZ 0 h212
  else
  if (x2 &&& 63) = 35 then
  zoc h v1 5 <|
  zcJ (f_X9_digest v1 h) fun x213 h214 =>
  zoc h214 v2 6 <|
  zcJ (f_X10_digest v2 h214) fun x215 h216 =>
  if (lg_cmp x213 x215) = 0 then
  f_L_law_1012 sN sx (f_L_law_18 sN sx n) v1 v2 v3 h216
  else
  zrZ 0 h216
  else
  f_L_law_1012 sN sx (f_L_law_18 sN sx n) v1 v2 v3 h
set_option maxRecDepth 100000 in
set_option maxHeartbeats 4000000 in
theorem zb_L_law_18 (Y : zY) (sb sN : Nat) (sx : Nat → Int32) (hsc : zScr Y sb sN sx) : ∀ (n : Nat) (v1 : Nat) (v2 : Nat) (v3 : Int32) (h : zH), Z Y M_L_law 170 2621 18 [(0, .ref sb), (1, .ref v1), (2, .ref v2), (3, .int v3)] [] h (f_L_law_18 sN sx n v1 v2 v3 h) := by
  intro n
  induction n with
  | zero =>
    intro v1 v2 v3 h
    rw [f_L_law_18]
    exact z_none
  | succ n ih =>
    intro v1 v2 v3 h
    rw [f_L_law_18]
    refine z_iload_n 3 (zat dd_L_law_0 10 rfl) rfl rfl ?_
    refine z_aload_n 0 (zat dd_L_law_0 11 rfl) rfl rfl ?_
    refine z_slen hsc (zat dd_L_law_0 12 rfl) (fun x1 => ?_)
    refine z_iconst (x := 5) (zat dd_L_law_0 13 rfl) (by decide) ?_
    refine z_isub (zat dd_L_law_0 14 rfl) ?_
    refine z_icmp_gt (tgt := 1018) (zat dd_L_law_0 15 rfl) (by decide) ?_ ?_
    · refine z_iconst (x := 1) (zat dd_L_law_12 28 rfl) (by decide) ?_
      exact z_zret rfl (zat dd_L_law_12 29 rfl)
    · refine z_aload_n 0 (zat dd_L_law_0 16 rfl) rfl rfl ?_
      refine z_iload_n 3 (zat dd_L_law_0 17 rfl) rfl rfl ?_
      refine z_sld hsc (zat dd_L_law_0 18 rfl) (fun x2 => ?_)
      refine z_bipush (x := 63) (zat dd_L_law_0 19 rfl) (by decide) ?_
      refine z_iand (zat dd_L_law_0 20 rfl) ?_
      refine z_ite (fun c0 => ?_) (fun c0 => ?_)
      · refine z_tabIn (tgt := 192) 0 c0 (zat dd_L_law_0 21 rfl) (by decide) (by decide) rfl (by decide) ?_
        refine z_aload_n 1 (zat dd_L_law_0 22 rfl) rfl rfl ?_
        refine z_aload_n 0 (zat dd_L_law_0 23 rfl) rfl rfl ?_
        refine z_iload_n 3 (zat dd_L_law_0 24 rfl) rfl rfl ?_
        refine z_iconst (x := 1) (zat dd_L_law_0 25 rfl) (by decide) ?_
        refine z_iadd (zat dd_L_law_0 26 rfl) ?_
        refine z_sld hsc (zat dd_L_law_0 27 rfl) (fun x3 => ?_)
        refine z_callV_IL (M2 := M_X9_doll) [.int x3] (fun l D _ _ => m_X9_doll l D v1 x3 h) u_X9_doll ql_L_13 qi_X9_doll qs_X9_doll (ci := 5) rfl rfl rfl (Nat.le_of_ble_eq_true rfl) (by decide) (by decide) rfl rfl (zat dd_L_law_0 28 rfl) (fun x4 h5 => ?_)
        refine z_aload_n 2 (zat dd_L_law_0 29 rfl) rfl rfl ?_
        refine z_aload_n 0 (zat dd_L_law_0 30 rfl) rfl rfl ?_
        refine z_iload_n 3 (zat dd_L_law_0 31 rfl) rfl rfl ?_
        refine z_iconst (x := 1) (zat dd_L_law_0 32 rfl) (by decide) ?_
        refine z_iadd (zat dd_L_law_0 33 rfl) ?_
        refine z_sld hsc (zat dd_L_law_0 34 rfl) (fun x6 => ?_)
        refine z_callV_IL (M2 := M_X10_doll) [.int x6] (fun l D _ _ => m_X10_doll l D v2 x6 h5) u_X10_doll ql_L_17 qi_X10_doll qs_X10_doll (ci := 6) rfl rfl rfl (Nat.le_of_ble_eq_true rfl) (by decide) (by decide) rfl rfl (zat dd_L_law_0 35 rfl) (fun x7 h8 => ?_)
        refine z_icmp_eq (tgt := 1012) (zat dd_L_law_0 36 rfl) (by decide) ?_ ?_
        · exact zb_L_law_1012 Y sb sN sx hsc (f_L_law_18 sN sx n) ih v1 v2 v3 h8
        · refine z_iconst (x := 0) (zat dd_L_law_0 37 rfl) (by decide) ?_
          exact z_zret rfl (zat dd_L_law_0 38 rfl)
      refine z_ite (fun c1 => ?_) (fun c1 => ?_)
      · refine z_tabIn (tgt := 215) 1 c1 (zat dd_L_law_0 21 rfl) (by decide) (by decide) rfl (by decide) ?_
        refine z_aload_n 1 (zat dd_L_law_0 39 rfl) rfl rfl ?_
        refine z_aload_n 0 (zat dd_L_law_0 40 rfl) rfl rfl ?_
        refine z_iload_n 3 (zat dd_L_law_0 41 rfl) rfl rfl ?_
        refine z_iconst (x := 1) (zat dd_L_law_0 42 rfl) (by decide) ?_
        refine z_iadd (zat dd_L_law_0 43 rfl) ?_
        refine z_sld hsc (zat dd_L_law_0 44 rfl) (fun x9 => ?_)
        refine z_callV_IL (M2 := M_X9_child) [.int x9] (fun l D _ _ => m_X9_child l D v1 x9 h) u_X9_child ql_L_18 qi_X9_child qs_X9_child (ci := 5) rfl rfl rfl (Nat.le_of_ble_eq_true rfl) (by decide) (by decide) rfl rfl (zat dd_L_law_0 45 rfl) (fun x10 h11 => ?_)
        refine z_aload_n 2 (zat dd_L_law_0 46 rfl) rfl rfl ?_
        refine z_aload_n 0 (zat dd_L_law_0 47 rfl) rfl rfl ?_
        refine z_iload_n 3 (zat dd_L_law_0 48 rfl) rfl rfl ?_
        refine z_iconst (x := 1) (zat dd_L_law_0 49 rfl) (by decide) ?_
        refine z_iadd (zat dd_L_law_1 0 rfl) ?_
        refine z_sld hsc (zat dd_L_law_1 1 rfl) (fun x12 => ?_)
        refine z_callV_IL (M2 := M_X10_child) [.int x12] (fun l D _ _ => m_X10_child l D v2 x12 h11) u_X10_child ql_L_21 qi_X10_child qs_X10_child (ci := 6) rfl rfl rfl (Nat.le_of_ble_eq_true rfl) (by decide) (by decide) rfl rfl (zat dd_L_law_1 2 rfl) (fun x13 h14 => ?_)
        refine z_icmp_eq (tgt := 1012) (zat dd_L_law_1 3 rfl) (by decide) ?_ ?_
        · exact zb_L_law_1012 Y sb sN sx hsc (f_L_law_18 sN sx n) ih v1 v2 v3 h14
        · refine z_iconst (x := 0) (zat dd_L_law_1 4 rfl) (by decide) ?_
          exact z_zret rfl (zat dd_L_law_1 5 rfl)
      refine z_ite (fun c2 => ?_) (fun c2 => ?_)
      · refine z_tabIn (tgt := 238) 2 c2 (zat dd_L_law_0 21 rfl) (by decide) (by decide) rfl (by decide) ?_
        refine z_aload_n 1 (zat dd_L_law_1 6 rfl) rfl rfl ?_
        refine z_aload_n 0 (zat dd_L_law_1 7 rfl) rfl rfl ?_
        refine z_iload_n 3 (zat dd_L_law_1 8 rfl) rfl rfl ?_
        refine z_iconst (x := 1) (zat dd_L_law_1 9 rfl) (by decide) ?_
        refine z_iadd (zat dd_L_law_1 10 rfl) ?_
        refine z_sld hsc (zat dd_L_law_1 11 rfl) (fun x15 => ?_)
        refine z_aload_n 0 (zat dd_L_law_1 12 rfl) rfl rfl ?_
        refine z_iload_n 3 (zat dd_L_law_1 13 rfl) rfl rfl ?_
        refine z_iconst (x := 2) (zat dd_L_law_1 14 rfl) (by decide) ?_
        refine z_iadd (zat dd_L_law_1 15 rfl) ?_
        refine z_sld hsc (zat dd_L_law_1 16 rfl) (fun x16 => ?_)
        refine z_aload_n 0 (zat dd_L_law_1 17 rfl) rfl rfl ?_
        refine z_iload_n 3 (zat dd_L_law_1 18 rfl) rfl rfl ?_
        refine z_iconst (x := 3) (zat dd_L_law_1 19 rfl) (by decide) ?_
        refine z_iadd (zat dd_L_law_1 20 rfl) ?_
        refine z_sld hsc (zat dd_L_law_1 21 rfl) (fun x17 => ?_)
        refine z_callV_IL (M2 := M_X9_piece) [.int x15, .int x16, .int x17] (fun l D _ _ => m_X9_piece l D v1 x15 x16 x17 h) u_X9_piece ql_L_22 qi_X9_piece qs_X9_piece (ci := 5) rfl rfl rfl (Nat.le_of_ble_eq_true rfl) (by decide) (by decide) rfl rfl (zat dd_L_law_1 22 rfl) (fun x18 h19 => ?_)
        refine z_aload_n 2 (zat dd_L_law_1 23 rfl) rfl rfl ?_
        refine z_aload_n 0 (zat dd_L_law_1 24 rfl) rfl rfl ?_
        refine z_iload_n 3 (zat dd_L_law_1 25 rfl) rfl rfl ?_
        refine z_iconst (x := 1) (zat dd_L_law_1 26 rfl) (by decide) ?_
        refine z_iadd (zat dd_L_law_1 27 rfl) ?_
        refine z_sld hsc (zat dd_L_law_1 28 rfl) (fun x20 => ?_)
        refine z_aload_n 0 (zat dd_L_law_1 29 rfl) rfl rfl ?_
        refine z_iload_n 3 (zat dd_L_law_1 30 rfl) rfl rfl ?_
        refine z_iconst (x := 2) (zat dd_L_law_1 31 rfl) (by decide) ?_
        refine z_iadd (zat dd_L_law_1 32 rfl) ?_
        refine z_sld hsc (zat dd_L_law_1 33 rfl) (fun x21 => ?_)
        refine z_aload_n 0 (zat dd_L_law_1 34 rfl) rfl rfl ?_
        refine z_iload_n 3 (zat dd_L_law_1 35 rfl) rfl rfl ?_
        refine z_iconst (x := 3) (zat dd_L_law_1 36 rfl) (by decide) ?_
        refine z_iadd (zat dd_L_law_1 37 rfl) ?_
        refine z_sld hsc (zat dd_L_law_1 38 rfl) (fun x22 => ?_)
        refine z_callV_IL (M2 := M_X10_piece) [.int x20, .int x21, .int x22] (fun l D _ _ => m_X10_piece l D v2 x20 x21 x22 h19) u_X10_piece ql_L_26 qi_X10_piece qs_X10_piece (ci := 6) rfl rfl rfl (Nat.le_of_ble_eq_true rfl) (by decide) (by decide) rfl rfl (zat dd_L_law_1 39 rfl) (fun x23 h24 => ?_)
        refine z_icmp_eq (tgt := 1012) (zat dd_L_law_1 40 rfl) (by decide) ?_ ?_
        · exact zb_L_law_1012 Y sb sN sx hsc (f_L_law_18 sN sx n) ih v1 v2 v3 h24
        · refine z_iconst (x := 0) (zat dd_L_law_1 41 rfl) (by decide) ?_
          exact z_zret rfl (zat dd_L_law_1 42 rfl)
      refine z_ite (fun c3 => ?_) (fun c3 => ?_)
      · refine z_tabIn (tgt := 281) 3 c3 (zat dd_L_law_0 21 rfl) (by decide) (by decide) rfl (by decide) ?_
        refine z_aload_n 1 (zat dd_L_law_1 43 rfl) rfl rfl ?_
        refine z_aload_n 0 (zat dd_L_law_1 44 rfl) rfl rfl ?_
        refine z_iload_n 3 (zat dd_L_law_1 45 rfl) rfl rfl ?_
        refine z_iconst (x := 1) (zat dd_L_law_1 46 rfl) (by decide) ?_
        refine z_iadd (zat dd_L_law_1 47 rfl) ?_
        refine z_sld hsc (zat dd_L_law_1 48 rfl) (fun x25 => ?_)
        refine z_callV_IL (M2 := M_X9_type) [.int x25] (fun l D _ _ => m_X9_type l D v1 x25 h) u_X9_type ql_L_27 qi_X9_type qs_X9_type (ci := 5) rfl rfl rfl (Nat.le_of_ble_eq_true rfl) (by decide) (by decide) rfl rfl (zat dd_L_law_1 49 rfl) (fun x26 h27 => ?_)
        refine z_aload_n 2 (zat dd_L_law_2 0 rfl) rfl rfl ?_
        refine z_aload_n 0 (zat dd_L_law_2 1 rfl) rfl rfl ?_
        refine z_iload_n 3 (zat dd_L_law_2 2 rfl) rfl rfl ?_
        refine z_iconst (x := 1) (zat dd_L_law_2 3 rfl) (by decide) ?_
        refine z_iadd (zat dd_L_law_2 4 rfl) ?_
        refine z_sld hsc (zat dd_L_law_2 5 rfl) (fun x28 => ?_)
        refine z_callV_IL (M2 := M_X10_type) [.int x28] (fun l D _ _ => m_X10_type l D v2 x28 h27) u_X10_type ql_L_30 qi_X10_type qs_X10_type (ci := 6) rfl rfl rfl (Nat.le_of_ble_eq_true rfl) (by decide) (by decide) rfl rfl (zat dd_L_law_2 6 rfl) (fun x29 h30 => ?_)
        refine z_icmp_eq (tgt := 1012) (zat dd_L_law_2 7 rfl) (by decide) ?_ ?_
        · exact zb_L_law_1012 Y sb sN sx hsc (f_L_law_18 sN sx n) ih v1 v2 v3 h30
        · refine z_iconst (x := 0) (zat dd_L_law_2 8 rfl) (by decide) ?_
          exact z_zret rfl (zat dd_L_law_2 9 rfl)
      refine z_ite (fun c4 => ?_) (fun c4 => ?_)
      · refine z_tabIn (tgt := 304) 4 c4 (zat dd_L_law_0 21 rfl) (by decide) (by decide) rfl (by decide) ?_
        refine z_aload_n 1 (zat dd_L_law_2 10 rfl) rfl rfl ?_
        refine z_callV_IL (M2 := M_X9_clear) [] (fun l D _ _ => m_X9_clear l D v1 h) u_X9_clear ql_L_31 qi_X9_clear qs_X9_clear (ci := 5) rfl rfl rfl (Nat.le_of_ble_eq_true rfl) (by decide) (by decide) rfl rfl (zat dd_L_law_2 11 rfl) (fun x31 h32 => ?_)
        refine z_aload_n 2 (zat dd_L_law_2 12 rfl) rfl rfl ?_
        refine z_callV_IL (M2 := M_X10_clear) [] (fun l D _ _ => m_X10_clear l D v2 h32) u_X10_clear ql_L_35 qi_X10_clear qs_X10_clear (ci := 6) rfl rfl rfl (Nat.le_of_ble_eq_true rfl) (by decide) (by decide) rfl rfl (zat dd_L_law_2 13 rfl) (fun x33 h34 => ?_)
        refine z_icmp_eq (tgt := 1012) (zat dd_L_law_2 14 rfl) (by decide) ?_ ?_
        · exact zb_L_law_1012 Y sb sN sx hsc (f_L_law_18 sN sx n) ih v1 v2 v3 h34
        · refine z_iconst (x := 0) (zat dd_L_law_2 15 rfl) (by decide) ?_
          exact z_zret rfl (zat dd_L_law_2 16 rfl)
      refine z_ite (fun c5 => ?_) (fun c5 => ?_)
      · refine z_tabIn (tgt := 317) 5 c5 (zat dd_L_law_0 21 rfl) (by decide) (by decide) rfl (by decide) ?_
        refine z_aload_n 1 (zat dd_L_law_2 17 rfl) rfl rfl ?_
        refine z_callV_IL (M2 := M_X9_read) [] (fun l D _ _ => m_X9_read l D v1 h) u_X9_read ql_L_36 qi_X9_read qs_X9_read (ci := 5) rfl rfl rfl (Nat.le_of_ble_eq_true rfl) (by decide) (by decide) rfl rfl (zat dd_L_law_2 18 rfl) (fun x35 h36 => ?_)
        refine z_aload_n 2 (zat dd_L_law_2 19 rfl) rfl rfl ?_
        refine z_callV_IL (M2 := M_X10_read) [] (fun l D _ _ => m_X10_read l D v2 h36) u_X10_read ql_L_39 qi_X10_read qs_X10_read (ci := 6) rfl rfl rfl (Nat.le_of_ble_eq_true rfl) (by decide) (by decide) rfl rfl (zat dd_L_law_2 20 rfl) (fun x37 h38 => ?_)
        refine z_icmp_eq (tgt := 1012) (zat dd_L_law_2 21 rfl) (by decide) ?_ ?_
        · exact zb_L_law_1012 Y sb sN sx hsc (f_L_law_18 sN sx n) ih v1 v2 v3 h38
        · refine z_iconst (x := 0) (zat dd_L_law_2 22 rfl) (by decide) ?_
          exact z_zret rfl (zat dd_L_law_2 23 rfl)
      refine z_ite (fun c6 => ?_) (fun c6 => ?_)
      · refine z_tabIn (tgt := 330) 6 c6 (zat dd_L_law_0 21 rfl) (by decide) (by decide) rfl (by decide) ?_
        refine z_aload_n 1 (zat dd_L_law_2 24 rfl) rfl rfl ?_
        refine z_aload_n 0 (zat dd_L_law_2 25 rfl) rfl rfl ?_
        refine z_iload_n 3 (zat dd_L_law_2 26 rfl) rfl rfl ?_
        refine z_iconst (x := 1) (zat dd_L_law_2 27 rfl) (by decide) ?_
        refine z_iadd (zat dd_L_law_2 28 rfl) ?_
        refine z_sld hsc (zat dd_L_law_2 29 rfl) (fun x39 => ?_)
        refine z_callV_IL (M2 := M_X9_puts) [.int x39] (fun l D _ _ => m_X9_puts l D v1 x39 h) u_X9_puts ql_L_40 qi_X9_puts qs_X9_puts (ci := 5) rfl rfl rfl (Nat.le_of_ble_eq_true rfl) (by decide) (by decide) rfl rfl (zat dd_L_law_2 30 rfl) (fun x40 h41 => ?_)
        refine z_aload_n 2 (zat dd_L_law_2 31 rfl) rfl rfl ?_
        refine z_aload_n 0 (zat dd_L_law_2 32 rfl) rfl rfl ?_
        refine z_iload_n 3 (zat dd_L_law_2 33 rfl) rfl rfl ?_
        refine z_iconst (x := 1) (zat dd_L_law_2 34 rfl) (by decide) ?_
        refine z_iadd (zat dd_L_law_2 35 rfl) ?_
        refine z_sld hsc (zat dd_L_law_2 36 rfl) (fun x42 => ?_)
        refine z_callV_IL (M2 := M_X10_puts) [.int x42] (fun l D _ _ => m_X10_puts l D v2 x42 h41) u_X10_puts ql_L_43 qi_X10_puts qs_X10_puts (ci := 6) rfl rfl rfl (Nat.le_of_ble_eq_true rfl) (by decide) (by decide) rfl rfl (zat dd_L_law_2 37 rfl) (fun x43 h44 => ?_)
        refine z_icmp_eq (tgt := 1012) (zat dd_L_law_2 38 rfl) (by decide) ?_ ?_
        · exact zb_L_law_1012 Y sb sN sx hsc (f_L_law_18 sN sx n) ih v1 v2 v3 h44
        · refine z_iconst (x := 0) (zat dd_L_law_2 39 rfl) (by decide) ?_
          exact z_zret rfl (zat dd_L_law_2 40 rfl)
      refine z_ite (fun c7 => ?_) (fun c7 => ?_)
      · refine z_tabIn (tgt := 353) 7 c7 (zat dd_L_law_0 21 rfl) (by decide) (by decide) rfl (by decide) ?_
        refine z_aload_n 1 (zat dd_L_law_2 41 rfl) rfl rfl ?_
        refine z_aload_n 0 (zat dd_L_law_2 42 rfl) rfl rfl ?_
        refine z_iload_n 3 (zat dd_L_law_2 43 rfl) rfl rfl ?_
        refine z_iconst (x := 1) (zat dd_L_law_2 44 rfl) (by decide) ?_
        refine z_iadd (zat dd_L_law_2 45 rfl) ?_
        refine z_sld hsc (zat dd_L_law_2 46 rfl) (fun x45 => ?_)
        refine z_callV_IL (M2 := M_X9_takes) [.int x45] (fun l D _ _ => m_X9_takes l D v1 x45 h) u_X9_takes ql_L_44 qi_X9_takes qs_X9_takes (ci := 5) rfl rfl rfl (Nat.le_of_ble_eq_true rfl) (by decide) (by decide) rfl rfl (zat dd_L_law_2 47 rfl) (fun x46 h47 => ?_)
        refine z_aload_n 2 (zat dd_L_law_2 48 rfl) rfl rfl ?_
        refine z_aload_n 0 (zat dd_L_law_2 49 rfl) rfl rfl ?_
        refine z_iload_n 3 (zat dd_L_law_3 0 rfl) rfl rfl ?_
        refine z_iconst (x := 1) (zat dd_L_law_3 1 rfl) (by decide) ?_
        refine z_iadd (zat dd_L_law_3 2 rfl) ?_
        refine z_sld hsc (zat dd_L_law_3 3 rfl) (fun x48 => ?_)
        refine z_callV_IL (M2 := M_X10_takes) [.int x48] (fun l D _ _ => m_X10_takes l D v2 x48 h47) u_X10_takes ql_L_47 qi_X10_takes qs_X10_takes (ci := 6) rfl rfl rfl (Nat.le_of_ble_eq_true rfl) (by decide) (by decide) rfl rfl (zat dd_L_law_3 4 rfl) (fun x49 h50 => ?_)
        refine z_icmp_eq (tgt := 1012) (zat dd_L_law_3 5 rfl) (by decide) ?_ ?_
        · exact zb_L_law_1012 Y sb sN sx hsc (f_L_law_18 sN sx n) ih v1 v2 v3 h50
        · refine z_iconst (x := 0) (zat dd_L_law_3 6 rfl) (by decide) ?_
          exact z_zret rfl (zat dd_L_law_3 7 rfl)
      refine z_ite (fun c8 => ?_) (fun c8 => ?_)
      · refine z_tabIn (tgt := 376) 8 c8 (zat dd_L_law_0 21 rfl) (by decide) (by decide) rfl (by decide) ?_
        refine z_aload_n 1 (zat dd_L_law_3 8 rfl) rfl rfl ?_
        refine z_aload_n 0 (zat dd_L_law_3 9 rfl) rfl rfl ?_
        refine z_iload_n 3 (zat dd_L_law_3 10 rfl) rfl rfl ?_
        refine z_iconst (x := 1) (zat dd_L_law_3 11 rfl) (by decide) ?_
        refine z_iadd (zat dd_L_law_3 12 rfl) ?_
        refine z_sld hsc (zat dd_L_law_3 13 rfl) (fun x51 => ?_)
        refine z_callV_IL (M2 := M_X9_mends) [.int x51] (fun l D _ _ => m_X9_mends l D v1 x51 h) u_X9_mends ql_L_48 qi_X9_mends qs_X9_mends (ci := 5) rfl rfl rfl (Nat.le_of_ble_eq_true rfl) (by decide) (by decide) rfl rfl (zat dd_L_law_3 14 rfl) (fun x52 h53 => ?_)
        refine z_aload_n 2 (zat dd_L_law_3 15 rfl) rfl rfl ?_
        refine z_aload_n 0 (zat dd_L_law_3 16 rfl) rfl rfl ?_
        refine z_iload_n 3 (zat dd_L_law_3 17 rfl) rfl rfl ?_
        refine z_iconst (x := 1) (zat dd_L_law_3 18 rfl) (by decide) ?_
        refine z_iadd (zat dd_L_law_3 19 rfl) ?_
        refine z_sld hsc (zat dd_L_law_3 20 rfl) (fun x54 => ?_)
        refine z_callV_IL (M2 := M_X10_mends) [.int x54] (fun l D _ _ => m_X10_mends l D v2 x54 h53) u_X10_mends ql_L_51 qi_X10_mends qs_X10_mends (ci := 6) rfl rfl rfl (Nat.le_of_ble_eq_true rfl) (by decide) (by decide) rfl rfl (zat dd_L_law_3 21 rfl) (fun x55 h56 => ?_)
        refine z_icmp_eq (tgt := 1012) (zat dd_L_law_3 22 rfl) (by decide) ?_ ?_
        · exact zb_L_law_1012 Y sb sN sx hsc (f_L_law_18 sN sx n) ih v1 v2 v3 h56
        · refine z_iconst (x := 0) (zat dd_L_law_3 23 rfl) (by decide) ?_
          exact z_zret rfl (zat dd_L_law_3 24 rfl)
      refine z_ite (fun c9 => ?_) (fun c9 => ?_)
      · refine z_tabIn (tgt := 399) 9 c9 (zat dd_L_law_0 21 rfl) (by decide) (by decide) rfl (by decide) ?_
        refine z_aload_n 1 (zat dd_L_law_3 25 rfl) rfl rfl ?_
        refine z_callV_IL (M2 := M_X9_undo) [] (fun l D _ _ => m_X9_undo l D v1 h) u_X9_undo ql_L_52 qi_X9_undo qs_X9_undo (ci := 5) rfl rfl rfl (Nat.le_of_ble_eq_true rfl) (by decide) (by decide) rfl rfl (zat dd_L_law_3 26 rfl) (fun x57 h58 => ?_)
        refine z_aload_n 2 (zat dd_L_law_3 27 rfl) rfl rfl ?_
        refine z_callV_IL (M2 := M_X10_undo) [] (fun l D _ _ => m_X10_undo l D v2 h58) u_X10_undo ql_L_55 qi_X10_undo qs_X10_undo (ci := 6) rfl rfl rfl (Nat.le_of_ble_eq_true rfl) (by decide) (by decide) rfl rfl (zat dd_L_law_3 28 rfl) (fun x59 h60 => ?_)
        refine z_icmp_eq (tgt := 1012) (zat dd_L_law_3 29 rfl) (by decide) ?_ ?_
        · exact zb_L_law_1012 Y sb sN sx hsc (f_L_law_18 sN sx n) ih v1 v2 v3 h60
        · refine z_iconst (x := 0) (zat dd_L_law_3 30 rfl) (by decide) ?_
          exact z_zret rfl (zat dd_L_law_3 31 rfl)
      refine z_ite (fun c10 => ?_) (fun c10 => ?_)
      · refine z_tabIn (tgt := 412) 10 c10 (zat dd_L_law_0 21 rfl) (by decide) (by decide) rfl (by decide) ?_
        refine z_aload_n 1 (zat dd_L_law_3 32 rfl) rfl rfl ?_
        refine z_aload_n 0 (zat dd_L_law_3 33 rfl) rfl rfl ?_
        refine z_iload_n 3 (zat dd_L_law_3 34 rfl) rfl rfl ?_
        refine z_iconst (x := 1) (zat dd_L_law_3 35 rfl) (by decide) ?_
        refine z_iadd (zat dd_L_law_3 36 rfl) ?_
        refine z_sld hsc (zat dd_L_law_3 37 rfl) (fun x61 => ?_)
        refine z_aload_n 0 (zat dd_L_law_3 38 rfl) rfl rfl ?_
        refine z_iload_n 3 (zat dd_L_law_3 39 rfl) rfl rfl ?_
        refine z_iconst (x := 2) (zat dd_L_law_3 40 rfl) (by decide) ?_
        refine z_iadd (zat dd_L_law_3 41 rfl) ?_
        refine z_sld hsc (zat dd_L_law_3 42 rfl) (fun x62 => ?_)
        refine z_callV_IL (M2 := M_X9_of) [.int x61, .int x62] (fun l D _ _ => m_X9_of l D v1 x61 x62 h) u_X9_of ql_L_56 qi_X9_of qs_X9_of (ci := 5) rfl rfl rfl (Nat.le_of_ble_eq_true rfl) (by decide) (by decide) rfl rfl (zat dd_L_law_3 43 rfl) (fun x63 h64 => ?_)
        refine z_aload_n 2 (zat dd_L_law_3 44 rfl) rfl rfl ?_
        refine z_aload_n 0 (zat dd_L_law_3 45 rfl) rfl rfl ?_
        refine z_iload_n 3 (zat dd_L_law_3 46 rfl) rfl rfl ?_
        refine z_iconst (x := 1) (zat dd_L_law_3 47 rfl) (by decide) ?_
        refine z_iadd (zat dd_L_law_3 48 rfl) ?_
        refine z_sld hsc (zat dd_L_law_3 49 rfl) (fun x65 => ?_)
        refine z_aload_n 0 (zat dd_L_law_4 0 rfl) rfl rfl ?_
        refine z_iload_n 3 (zat dd_L_law_4 1 rfl) rfl rfl ?_
        refine z_iconst (x := 2) (zat dd_L_law_4 2 rfl) (by decide) ?_
        refine z_iadd (zat dd_L_law_4 3 rfl) ?_
        refine z_sld hsc (zat dd_L_law_4 4 rfl) (fun x66 => ?_)
        refine z_callV_IL (M2 := M_X10_of) [.int x65, .int x66] (fun l D _ _ => m_X10_of l D v2 x65 x66 h64) u_X10_of ql_L_60 qi_X10_of qs_X10_of (ci := 6) rfl rfl rfl (Nat.le_of_ble_eq_true rfl) (by decide) (by decide) rfl rfl (zat dd_L_law_4 5 rfl) (fun x67 h68 => ?_)
        refine z_icmp_eq (tgt := 1012) (zat dd_L_law_4 6 rfl) (by decide) ?_ ?_
        · exact zb_L_law_1012 Y sb sN sx hsc (f_L_law_18 sN sx n) ih v1 v2 v3 h68
        · refine z_iconst (x := 0) (zat dd_L_law_4 7 rfl) (by decide) ?_
          exact z_zret rfl (zat dd_L_law_4 8 rfl)
      refine z_ite (fun c11 => ?_) (fun c11 => ?_)
      · refine z_tabIn (tgt := 445) 11 c11 (zat dd_L_law_0 21 rfl) (by decide) (by decide) rfl (by decide) ?_
        refine z_aload_n 1 (zat dd_L_law_4 9 rfl) rfl rfl ?_
        refine z_aload_n 0 (zat dd_L_law_4 10 rfl) rfl rfl ?_
        refine z_iload_n 3 (zat dd_L_law_4 11 rfl) rfl rfl ?_
        refine z_iconst (x := 1) (zat dd_L_law_4 12 rfl) (by decide) ?_
        refine z_iadd (zat dd_L_law_4 13 rfl) ?_
        refine z_sld hsc (zat dd_L_law_4 14 rfl) (fun x69 => ?_)
        refine z_callV_IL (M2 := M_X9_seen) [.int x69] (fun l D _ _ => m_X9_seen l D v1 x69 h) u_X9_seen ql_L_61 qi_X9_seen qs_X9_seen (ci := 5) rfl rfl rfl (Nat.le_of_ble_eq_true rfl) (by decide) (by decide) rfl rfl (zat dd_L_law_4 15 rfl) (fun x70 h71 => ?_)
        refine z_aload_n 2 (zat dd_L_law_4 16 rfl) rfl rfl ?_
        refine z_aload_n 0 (zat dd_L_law_4 17 rfl) rfl rfl ?_
        refine z_iload_n 3 (zat dd_L_law_4 18 rfl) rfl rfl ?_
        refine z_iconst (x := 1) (zat dd_L_law_4 19 rfl) (by decide) ?_
        refine z_iadd (zat dd_L_law_4 20 rfl) ?_
        refine z_sld hsc (zat dd_L_law_4 21 rfl) (fun x72 => ?_)
        refine z_callV_IL (M2 := M_X10_seen) [.int x72] (fun l D _ _ => m_X10_seen l D v2 x72 h71) u_X10_seen ql_L_64 qi_X10_seen qs_X10_seen (ci := 6) rfl rfl rfl (Nat.le_of_ble_eq_true rfl) (by decide) (by decide) rfl rfl (zat dd_L_law_4 22 rfl) (fun x73 h74 => ?_)
        refine z_icmp_eq (tgt := 1012) (zat dd_L_law_4 23 rfl) (by decide) ?_ ?_
        · exact zb_L_law_1012 Y sb sN sx hsc (f_L_law_18 sN sx n) ih v1 v2 v3 h74
        · refine z_iconst (x := 0) (zat dd_L_law_4 24 rfl) (by decide) ?_
          exact z_zret rfl (zat dd_L_law_4 25 rfl)
      refine z_ite (fun c12 => ?_) (fun c12 => ?_)
      · refine z_tabIn (tgt := 468) 12 c12 (zat dd_L_law_0 21 rfl) (by decide) (by decide) rfl (by decide) ?_
        refine z_aload_n 1 (zat dd_L_law_4 26 rfl) rfl rfl ?_
        refine z_callV_IL (M2 := M_X9_can) [] (fun l D _ _ => m_X9_can l D v1 h) u_X9_can ql_L_65 qi_X9_can qs_X9_can (ci := 5) rfl rfl rfl (Nat.le_of_ble_eq_true rfl) (by decide) (by decide) rfl rfl (zat dd_L_law_4 27 rfl) (fun x75 h76 => ?_)
        refine z_aload_n 2 (zat dd_L_law_4 28 rfl) rfl rfl ?_
        refine z_callV_IL (M2 := M_X10_can) [] (fun l D _ _ => m_X10_can l D v2 h76) u_X10_can ql_L_68 qi_X10_can qs_X10_can (ci := 6) rfl rfl rfl (Nat.le_of_ble_eq_true rfl) (by decide) (by decide) rfl rfl (zat dd_L_law_4 29 rfl) (fun x77 h78 => ?_)
        refine z_icmp_eq (tgt := 1012) (zat dd_L_law_4 30 rfl) (by decide) ?_ ?_
        · exact zb_L_law_1012 Y sb sN sx hsc (f_L_law_18 sN sx n) ih v1 v2 v3 h78
        · refine z_iconst (x := 0) (zat dd_L_law_4 31 rfl) (by decide) ?_
          exact z_zret rfl (zat dd_L_law_4 32 rfl)
      refine z_ite (fun c13 => ?_) (fun c13 => ?_)
      · refine z_tabIn (tgt := 481) 13 c13 (zat dd_L_law_0 21 rfl) (by decide) (by decide) rfl (by decide) ?_
        refine z_aload_n 1 (zat dd_L_law_4 33 rfl) rfl rfl ?_
        refine z_callV_IL (M2 := M_X9_off) [] (fun l D _ _ => m_X9_off l D v1 h) u_X9_off ql_L_69 qi_X9_off qs_X9_off (ci := 5) rfl rfl rfl (Nat.le_of_ble_eq_true rfl) (by decide) (by decide) rfl rfl (zat dd_L_law_4 34 rfl) (fun x79 h80 => ?_)
        refine z_aload_n 2 (zat dd_L_law_4 35 rfl) rfl rfl ?_
        refine z_callV_IL (M2 := M_X10_off) [] (fun l D _ _ => m_X10_off l D v2 h80) u_X10_off ql_L_72 qi_X10_off qs_X10_off (ci := 6) rfl rfl rfl (Nat.le_of_ble_eq_true rfl) (by decide) (by decide) rfl rfl (zat dd_L_law_4 36 rfl) (fun x81 h82 => ?_)
        refine z_icmp_eq (tgt := 1012) (zat dd_L_law_4 37 rfl) (by decide) ?_ ?_
        · exact zb_L_law_1012 Y sb sN sx hsc (f_L_law_18 sN sx n) ih v1 v2 v3 h82
        · refine z_iconst (x := 0) (zat dd_L_law_4 38 rfl) (by decide) ?_
          exact z_zret rfl (zat dd_L_law_4 39 rfl)
      refine z_ite (fun c14 => ?_) (fun c14 => ?_)
      · refine z_tabIn (tgt := 494) 14 c14 (zat dd_L_law_0 21 rfl) (by decide) (by decide) rfl (by decide) ?_
        refine z_aload_n 1 (zat dd_L_law_4 40 rfl) rfl rfl ?_
        refine z_aload_n 0 (zat dd_L_law_4 41 rfl) rfl rfl ?_
        refine z_iload_n 3 (zat dd_L_law_4 42 rfl) rfl rfl ?_
        refine z_iconst (x := 1) (zat dd_L_law_4 43 rfl) (by decide) ?_
        refine z_iadd (zat dd_L_law_4 44 rfl) ?_
        refine z_sld hsc (zat dd_L_law_4 45 rfl) (fun x83 => ?_)
        refine z_callV_IL (M2 := M_X9_going) [.int x83] (fun l D _ _ => m_X9_going l D v1 x83 h) u_X9_going ql_L_73 qi_X9_going qs_X9_going (ci := 5) rfl rfl rfl (Nat.le_of_ble_eq_true rfl) (by decide) (by decide) rfl rfl (zat dd_L_law_4 46 rfl) (fun x84 h85 => ?_)
        refine z_aload_n 2 (zat dd_L_law_4 47 rfl) rfl rfl ?_
        refine z_aload_n 0 (zat dd_L_law_4 48 rfl) rfl rfl ?_
        refine z_iload_n 3 (zat dd_L_law_4 49 rfl) rfl rfl ?_
        refine z_iconst (x := 1) (zat dd_L_law_5 0 rfl) (by decide) ?_
        refine z_iadd (zat dd_L_law_5 1 rfl) ?_
        refine z_sld hsc (zat dd_L_law_5 2 rfl) (fun x86 => ?_)
        refine z_callV_IL (M2 := M_X10_going) [.int x86] (fun l D _ _ => m_X10_going l D v2 x86 h85) u_X10_going ql_L_76 qi_X10_going qs_X10_going (ci := 6) rfl rfl rfl (Nat.le_of_ble_eq_true rfl) (by decide) (by decide) rfl rfl (zat dd_L_law_5 3 rfl) (fun x87 h88 => ?_)
        refine z_icmp_eq (tgt := 1012) (zat dd_L_law_5 4 rfl) (by decide) ?_ ?_
        · exact zb_L_law_1012 Y sb sN sx hsc (f_L_law_18 sN sx n) ih v1 v2 v3 h88
        · refine z_iconst (x := 0) (zat dd_L_law_5 5 rfl) (by decide) ?_
          exact z_zret rfl (zat dd_L_law_5 6 rfl)
      refine z_ite (fun c15 => ?_) (fun c15 => ?_)
      · refine z_tabIn (tgt := 517) 15 c15 (zat dd_L_law_0 21 rfl) (by decide) (by decide) rfl (by decide) ?_
        refine z_aload_n 1 (zat dd_L_law_5 7 rfl) rfl rfl ?_
        refine z_aload_n 0 (zat dd_L_law_5 8 rfl) rfl rfl ?_
        refine z_iload_n 3 (zat dd_L_law_5 9 rfl) rfl rfl ?_
        refine z_iconst (x := 1) (zat dd_L_law_5 10 rfl) (by decide) ?_
        refine z_iadd (zat dd_L_law_5 11 rfl) ?_
        refine z_sld hsc (zat dd_L_law_5 12 rfl) (fun x89 => ?_)
        refine z_callV_IL (M2 := M_X9_outfits) [.int x89] (fun l D _ _ => m_X9_outfits l D v1 x89 h) u_X9_outfits ql_L_77 qi_X9_outfits qs_X9_outfits (ci := 5) rfl rfl rfl (Nat.le_of_ble_eq_true rfl) (by decide) (by decide) rfl rfl (zat dd_L_law_5 13 rfl) (fun x90 h91 => ?_)
        refine z_aload_n 2 (zat dd_L_law_5 14 rfl) rfl rfl ?_
        refine z_aload_n 0 (zat dd_L_law_5 15 rfl) rfl rfl ?_
        refine z_iload_n 3 (zat dd_L_law_5 16 rfl) rfl rfl ?_
        refine z_iconst (x := 1) (zat dd_L_law_5 17 rfl) (by decide) ?_
        refine z_iadd (zat dd_L_law_5 18 rfl) ?_
        refine z_sld hsc (zat dd_L_law_5 19 rfl) (fun x92 => ?_)
        refine z_callV_IL (M2 := M_X10_outfits) [.int x92] (fun l D _ _ => m_X10_outfits l D v2 x92 h91) u_X10_outfits ql_L_80 qi_X10_outfits qs_X10_outfits (ci := 6) rfl rfl rfl (Nat.le_of_ble_eq_true rfl) (by decide) (by decide) rfl rfl (zat dd_L_law_5 20 rfl) (fun x93 h94 => ?_)
        refine z_icmp_eq (tgt := 1012) (zat dd_L_law_5 21 rfl) (by decide) ?_ ?_
        · exact zb_L_law_1012 Y sb sN sx hsc (f_L_law_18 sN sx n) ih v1 v2 v3 h94
        · refine z_iconst (x := 0) (zat dd_L_law_5 22 rfl) (by decide) ?_
          exact z_zret rfl (zat dd_L_law_5 23 rfl)
      refine z_ite (fun c16 => ?_) (fun c16 => ?_)
      · refine z_tabIn (tgt := 540) 16 c16 (zat dd_L_law_0 21 rfl) (by decide) (by decide) rfl (by decide) ?_
        refine z_aload_n 1 (zat dd_L_law_5 24 rfl) rfl rfl ?_
        refine z_aload_n 0 (zat dd_L_law_5 25 rfl) rfl rfl ?_
        refine z_iload_n 3 (zat dd_L_law_5 26 rfl) rfl rfl ?_
        refine z_iconst (x := 1) (zat dd_L_law_5 27 rfl) (by decide) ?_
        refine z_iadd (zat dd_L_law_5 28 rfl) ?_
        refine z_sld hsc (zat dd_L_law_5 29 rfl) (fun x95 => ?_)
        refine z_callV_IL (M2 := M_X9_lean) [.int x95] (fun l D _ _ => m_X9_lean l D v1 x95 h) u_X9_lean ql_L_81 qi_X9_lean qs_X9_lean (ci := 5) rfl rfl rfl (Nat.le_of_ble_eq_true rfl) (by decide) (by decide) rfl rfl (zat dd_L_law_5 30 rfl) (fun x96 h97 => ?_)
        refine z_aload_n 2 (zat dd_L_law_5 31 rfl) rfl rfl ?_
        refine z_aload_n 0 (zat dd_L_law_5 32 rfl) rfl rfl ?_
        refine z_iload_n 3 (zat dd_L_law_5 33 rfl) rfl rfl ?_
        refine z_iconst (x := 1) (zat dd_L_law_5 34 rfl) (by decide) ?_
        refine z_iadd (zat dd_L_law_5 35 rfl) ?_
        refine z_sld hsc (zat dd_L_law_5 36 rfl) (fun x98 => ?_)
        refine z_callV_IL (M2 := M_X10_lean) [.int x98] (fun l D _ _ => m_X10_lean l D v2 x98 h97) u_X10_lean ql_L_84 qi_X10_lean qs_X10_lean (ci := 6) rfl rfl rfl (Nat.le_of_ble_eq_true rfl) (by decide) (by decide) rfl rfl (zat dd_L_law_5 37 rfl) (fun x99 h100 => ?_)
        refine z_icmp_eq (tgt := 1012) (zat dd_L_law_5 38 rfl) (by decide) ?_ ?_
        · exact zb_L_law_1012 Y sb sN sx hsc (f_L_law_18 sN sx n) ih v1 v2 v3 h100
        · refine z_iconst (x := 0) (zat dd_L_law_5 39 rfl) (by decide) ?_
          exact z_zret rfl (zat dd_L_law_5 40 rfl)
      refine z_ite (fun c17 => ?_) (fun c17 => ?_)
      · refine z_tabIn (tgt := 563) 17 c17 (zat dd_L_law_0 21 rfl) (by decide) (by decide) rfl (by decide) ?_
        refine z_aload_n 1 (zat dd_L_law_5 41 rfl) rfl rfl ?_
        refine z_callV_IL (M2 := M_X9_days) [] (fun l D _ _ => m_X9_days l D v1 h) u_X9_days ql_L_85 qi_X9_days qs_X9_days (ci := 5) rfl rfl rfl (Nat.le_of_ble_eq_true rfl) (by decide) (by decide) rfl rfl (zat dd_L_law_5 42 rfl) (fun x101 h102 => ?_)
        refine z_aload_n 2 (zat dd_L_law_5 43 rfl) rfl rfl ?_
        refine z_callV_IL (M2 := M_X10_days) [] (fun l D _ _ => m_X10_days l D v2 h102) u_X10_days ql_L_88 qi_X10_days qs_X10_days (ci := 6) rfl rfl rfl (Nat.le_of_ble_eq_true rfl) (by decide) (by decide) rfl rfl (zat dd_L_law_5 44 rfl) (fun x103 h104 => ?_)
        refine z_icmp_eq (tgt := 1012) (zat dd_L_law_5 45 rfl) (by decide) ?_ ?_
        · exact zb_L_law_1012 Y sb sN sx hsc (f_L_law_18 sN sx n) ih v1 v2 v3 h104
        · refine z_iconst (x := 0) (zat dd_L_law_5 46 rfl) (by decide) ?_
          exact z_zret rfl (zat dd_L_law_5 47 rfl)
      refine z_ite (fun c18 => ?_) (fun c18 => ?_)
      · refine z_tabIn (tgt := 576) 18 c18 (zat dd_L_law_0 21 rfl) (by decide) (by decide) rfl (by decide) ?_
        refine z_aload_n 1 (zat dd_L_law_5 48 rfl) rfl rfl ?_
        refine z_callV_IL (M2 := M_X9_spared) [] (fun l D _ _ => m_X9_spared l D v1 h) u_X9_spared ql_L_89 qi_X9_spared qs_X9_spared (ci := 5) rfl rfl rfl (Nat.le_of_ble_eq_true rfl) (by decide) (by decide) rfl rfl (zat dd_L_law_5 49 rfl) (fun x105 h106 => ?_)
        refine z_aload_n 2 (zat dd_L_law_6 0 rfl) rfl rfl ?_
        refine z_callV_IL (M2 := M_X10_spared) [] (fun l D _ _ => m_X10_spared l D v2 h106) u_X10_spared ql_L_92 qi_X10_spared qs_X10_spared (ci := 6) rfl rfl rfl (Nat.le_of_ble_eq_true rfl) (by decide) (by decide) rfl rfl (zat dd_L_law_6 1 rfl) (fun x107 h108 => ?_)
        refine z_icmp_eq (tgt := 1012) (zat dd_L_law_6 2 rfl) (by decide) ?_ ?_
        · exact zb_L_law_1012 Y sb sN sx hsc (f_L_law_18 sN sx n) ih v1 v2 v3 h108
        · refine z_iconst (x := 0) (zat dd_L_law_6 3 rfl) (by decide) ?_
          exact z_zret rfl (zat dd_L_law_6 4 rfl)
      refine z_ite (fun c19 => ?_) (fun c19 => ?_)
      · refine z_tabIn (tgt := 589) 19 c19 (zat dd_L_law_0 21 rfl) (by decide) (by decide) rfl (by decide) ?_
        refine z_aload_n 1 (zat dd_L_law_6 5 rfl) rfl rfl ?_
        refine z_aload_n 0 (zat dd_L_law_6 6 rfl) rfl rfl ?_
        refine z_iload_n 3 (zat dd_L_law_6 7 rfl) rfl rfl ?_
        refine z_iconst (x := 1) (zat dd_L_law_6 8 rfl) (by decide) ?_
        refine z_iadd (zat dd_L_law_6 9 rfl) ?_
        refine z_sld hsc (zat dd_L_law_6 10 rfl) (fun x109 => ?_)
        refine z_callV_IL (M2 := M_X9_few) [.int x109] (fun l D _ _ => m_X9_few l D v1 x109 h) u_X9_few ql_L_93 qi_X9_few qs_X9_few (ci := 5) rfl rfl rfl (Nat.le_of_ble_eq_true rfl) (by decide) (by decide) rfl rfl (zat dd_L_law_6 11 rfl) (fun x110 h111 => ?_)
        refine z_aload_n 2 (zat dd_L_law_6 12 rfl) rfl rfl ?_
        refine z_aload_n 0 (zat dd_L_law_6 13 rfl) rfl rfl ?_
        refine z_iload_n 3 (zat dd_L_law_6 14 rfl) rfl rfl ?_
        refine z_iconst (x := 1) (zat dd_L_law_6 15 rfl) (by decide) ?_
        refine z_iadd (zat dd_L_law_6 16 rfl) ?_
        refine z_sld hsc (zat dd_L_law_6 17 rfl) (fun x112 => ?_)
        refine z_callV_IL (M2 := M_X10_few) [.int x112] (fun l D _ _ => m_X10_few l D v2 x112 h111) u_X10_few ql_L_96 qi_X10_few qs_X10_few (ci := 6) rfl rfl rfl (Nat.le_of_ble_eq_true rfl) (by decide) (by decide) rfl rfl (zat dd_L_law_6 18 rfl) (fun x113 h114 => ?_)
        refine z_icmp_eq (tgt := 1012) (zat dd_L_law_6 19 rfl) (by decide) ?_ ?_
        · exact zb_L_law_1012 Y sb sN sx hsc (f_L_law_18 sN sx n) ih v1 v2 v3 h114
        · refine z_iconst (x := 0) (zat dd_L_law_6 20 rfl) (by decide) ?_
          exact z_zret rfl (zat dd_L_law_6 21 rfl)
      refine z_ite (fun c20 => ?_) (fun c20 => ?_)
      · refine z_tabIn (tgt := 612) 20 c20 (zat dd_L_law_0 21 rfl) (by decide) (by decide) rfl (by decide) ?_
        refine z_aload_n 1 (zat dd_L_law_6 22 rfl) rfl rfl ?_
        refine z_aload_n 0 (zat dd_L_law_6 23 rfl) rfl rfl ?_
        refine z_iload_n 3 (zat dd_L_law_6 24 rfl) rfl rfl ?_
        refine z_iconst (x := 1) (zat dd_L_law_6 25 rfl) (by decide) ?_
        refine z_iadd (zat dd_L_law_6 26 rfl) ?_
        refine z_sld hsc (zat dd_L_law_6 27 rfl) (fun x115 => ?_)
        refine z_aload_n 0 (zat dd_L_law_6 28 rfl) rfl rfl ?_
        refine z_iload_n 3 (zat dd_L_law_6 29 rfl) rfl rfl ?_
        refine z_iconst (x := 2) (zat dd_L_law_6 30 rfl) (by decide) ?_
        refine z_iadd (zat dd_L_law_6 31 rfl) ?_
        refine z_sld hsc (zat dd_L_law_6 32 rfl) (fun x116 => ?_)
        refine z_aload_n 0 (zat dd_L_law_6 33 rfl) rfl rfl ?_
        refine z_iload_n 3 (zat dd_L_law_6 34 rfl) rfl rfl ?_
        refine z_iconst (x := 3) (zat dd_L_law_6 35 rfl) (by decide) ?_
        refine z_iadd (zat dd_L_law_6 36 rfl) ?_
        refine z_sld hsc (zat dd_L_law_6 37 rfl) (fun x117 => ?_)
        refine z_callV_IL (M2 := M_X9_note) [.int x115, .int x116, .int x117] (fun l D _ _ => m_X9_note l D v1 x115 x116 x117 h) u_X9_note ql_L_97 qi_X9_note qs_X9_note (ci := 5) rfl rfl rfl (Nat.le_of_ble_eq_true rfl) (by decide) (by decide) rfl rfl (zat dd_L_law_6 38 rfl) (fun x118 h119 => ?_)
        refine z_aload_n 2 (zat dd_L_law_6 39 rfl) rfl rfl ?_
        refine z_aload_n 0 (zat dd_L_law_6 40 rfl) rfl rfl ?_
        refine z_iload_n 3 (zat dd_L_law_6 41 rfl) rfl rfl ?_
        refine z_iconst (x := 1) (zat dd_L_law_6 42 rfl) (by decide) ?_
        refine z_iadd (zat dd_L_law_6 43 rfl) ?_
        refine z_sld hsc (zat dd_L_law_6 44 rfl) (fun x120 => ?_)
        refine z_aload_n 0 (zat dd_L_law_6 45 rfl) rfl rfl ?_
        refine z_iload_n 3 (zat dd_L_law_6 46 rfl) rfl rfl ?_
        refine z_iconst (x := 2) (zat dd_L_law_6 47 rfl) (by decide) ?_
        refine z_iadd (zat dd_L_law_6 48 rfl) ?_
        refine z_sld hsc (zat dd_L_law_6 49 rfl) (fun x121 => ?_)
        refine z_aload_n 0 (zat dd_L_law_7 0 rfl) rfl rfl ?_
        refine z_iload_n 3 (zat dd_L_law_7 1 rfl) rfl rfl ?_
        refine z_iconst (x := 3) (zat dd_L_law_7 2 rfl) (by decide) ?_
        refine z_iadd (zat dd_L_law_7 3 rfl) ?_
        refine z_sld hsc (zat dd_L_law_7 4 rfl) (fun x122 => ?_)
        refine z_callV_IL (M2 := M_X10_note) [.int x120, .int x121, .int x122] (fun l D _ _ => m_X10_note l D v2 x120 x121 x122 h119) u_X10_note ql_L_100 qi_X10_note qs_X10_note (ci := 6) rfl rfl rfl (Nat.le_of_ble_eq_true rfl) (by decide) (by decide) rfl rfl (zat dd_L_law_7 5 rfl) (fun x123 h124 => ?_)
        refine z_icmp_eq (tgt := 1012) (zat dd_L_law_7 6 rfl) (by decide) ?_ ?_
        · exact zb_L_law_1012 Y sb sN sx hsc (f_L_law_18 sN sx n) ih v1 v2 v3 h124
        · refine z_iconst (x := 0) (zat dd_L_law_7 7 rfl) (by decide) ?_
          exact z_zret rfl (zat dd_L_law_7 8 rfl)
      refine z_ite (fun c21 => ?_) (fun c21 => ?_)
      · refine z_tabIn (tgt := 655) 21 c21 (zat dd_L_law_0 21 rfl) (by decide) (by decide) rfl (by decide) ?_
        refine z_aload_n 1 (zat dd_L_law_7 9 rfl) rfl rfl ?_
        refine z_aload_n 0 (zat dd_L_law_7 10 rfl) rfl rfl ?_
        refine z_iload_n 3 (zat dd_L_law_7 11 rfl) rfl rfl ?_
        refine z_iconst (x := 1) (zat dd_L_law_7 12 rfl) (by decide) ?_
        refine z_iadd (zat dd_L_law_7 13 rfl) ?_
        refine z_sld hsc (zat dd_L_law_7 14 rfl) (fun x125 => ?_)
        refine z_aload_n 0 (zat dd_L_law_7 15 rfl) rfl rfl ?_
        refine z_iload_n 3 (zat dd_L_law_7 16 rfl) rfl rfl ?_
        refine z_iconst (x := 2) (zat dd_L_law_7 17 rfl) (by decide) ?_
        refine z_iadd (zat dd_L_law_7 18 rfl) ?_
        refine z_sld hsc (zat dd_L_law_7 19 rfl) (fun x126 => ?_)
        refine z_aload_n 0 (zat dd_L_law_7 20 rfl) rfl rfl ?_
        refine z_iload_n 3 (zat dd_L_law_7 21 rfl) rfl rfl ?_
        refine z_iconst (x := 3) (zat dd_L_law_7 22 rfl) (by decide) ?_
        refine z_iadd (zat dd_L_law_7 23 rfl) ?_
        refine z_sld hsc (zat dd_L_law_7 24 rfl) (fun x127 => ?_)
        refine z_aload_n 0 (zat dd_L_law_7 25 rfl) rfl rfl ?_
        refine z_iload_n 3 (zat dd_L_law_7 26 rfl) rfl rfl ?_
        refine z_iconst (x := 4) (zat dd_L_law_7 27 rfl) (by decide) ?_
        refine z_iadd (zat dd_L_law_7 28 rfl) ?_
        refine z_sld hsc (zat dd_L_law_7 29 rfl) (fun x128 => ?_)
        refine z_callV_IL (M2 := M_X9_mark) [.int x125, .int x126, .int x127, .int x128] (fun l D _ _ => m_X9_mark l D v1 x125 x126 x127 x128 h) u_X9_mark ql_L_101 qi_X9_mark qs_X9_mark (ci := 5) rfl rfl rfl (Nat.le_of_ble_eq_true rfl) (by decide) (by decide) rfl rfl (zat dd_L_law_7 30 rfl) (fun x129 h130 => ?_)
        refine z_aload_n 2 (zat dd_L_law_7 31 rfl) rfl rfl ?_
        refine z_aload_n 0 (zat dd_L_law_7 32 rfl) rfl rfl ?_
        refine z_iload_n 3 (zat dd_L_law_7 33 rfl) rfl rfl ?_
        refine z_iconst (x := 1) (zat dd_L_law_7 34 rfl) (by decide) ?_
        refine z_iadd (zat dd_L_law_7 35 rfl) ?_
        refine z_sld hsc (zat dd_L_law_7 36 rfl) (fun x131 => ?_)
        refine z_aload_n 0 (zat dd_L_law_7 37 rfl) rfl rfl ?_
        refine z_iload_n 3 (zat dd_L_law_7 38 rfl) rfl rfl ?_
        refine z_iconst (x := 2) (zat dd_L_law_7 39 rfl) (by decide) ?_
        refine z_iadd (zat dd_L_law_7 40 rfl) ?_
        refine z_sld hsc (zat dd_L_law_7 41 rfl) (fun x132 => ?_)
        refine z_aload_n 0 (zat dd_L_law_7 42 rfl) rfl rfl ?_
        refine z_iload_n 3 (zat dd_L_law_7 43 rfl) rfl rfl ?_
        refine z_iconst (x := 3) (zat dd_L_law_7 44 rfl) (by decide) ?_
        refine z_iadd (zat dd_L_law_7 45 rfl) ?_
        refine z_sld hsc (zat dd_L_law_7 46 rfl) (fun x133 => ?_)
        refine z_aload_n 0 (zat dd_L_law_7 47 rfl) rfl rfl ?_
        refine z_iload_n 3 (zat dd_L_law_7 48 rfl) rfl rfl ?_
        refine z_iconst (x := 4) (zat dd_L_law_7 49 rfl) (by decide) ?_
        refine z_iadd (zat dd_L_law_8 0 rfl) ?_
        refine z_sld hsc (zat dd_L_law_8 1 rfl) (fun x134 => ?_)
        refine z_callV_IL (M2 := M_X10_mark) [.int x131, .int x132, .int x133, .int x134] (fun l D _ _ => m_X10_mark l D v2 x131 x132 x133 x134 h130) u_X10_mark ql_L_105 qi_X10_mark qs_X10_mark (ci := 6) rfl rfl rfl (Nat.le_of_ble_eq_true rfl) (by decide) (by decide) rfl rfl (zat dd_L_law_8 2 rfl) (fun x135 h136 => ?_)
        refine z_icmp_eq (tgt := 1012) (zat dd_L_law_8 3 rfl) (by decide) ?_ ?_
        · exact zb_L_law_1012 Y sb sN sx hsc (f_L_law_18 sN sx n) ih v1 v2 v3 h136
        · refine z_iconst (x := 0) (zat dd_L_law_8 4 rfl) (by decide) ?_
          exact z_zret rfl (zat dd_L_law_8 5 rfl)
      refine z_ite (fun c22 => ?_) (fun c22 => ?_)
      · refine z_tabIn (tgt := 708) 22 c22 (zat dd_L_law_0 21 rfl) (by decide) (by decide) rfl (by decide) ?_
        refine z_aload_n 1 (zat dd_L_law_8 6 rfl) rfl rfl ?_
        refine z_aload_n 0 (zat dd_L_law_8 7 rfl) rfl rfl ?_
        refine z_iload_n 3 (zat dd_L_law_8 8 rfl) rfl rfl ?_
        refine z_iconst (x := 1) (zat dd_L_law_8 9 rfl) (by decide) ?_
        refine z_iadd (zat dd_L_law_8 10 rfl) ?_
        refine z_sld hsc (zat dd_L_law_8 11 rfl) (fun x137 => ?_)
        refine z_callV_IL (M2 := M_X9_forget) [.int x137] (fun l D _ _ => m_X9_forget l D v1 x137 h) u_X9_forget ql_L_106 qi_X9_forget qs_X9_forget (ci := 5) rfl rfl rfl (Nat.le_of_ble_eq_true rfl) (by decide) (by decide) rfl rfl (zat dd_L_law_8 12 rfl) (fun x138 h139 => ?_)
        refine z_aload_n 2 (zat dd_L_law_8 13 rfl) rfl rfl ?_
        refine z_aload_n 0 (zat dd_L_law_8 14 rfl) rfl rfl ?_
        refine z_iload_n 3 (zat dd_L_law_8 15 rfl) rfl rfl ?_
        refine z_iconst (x := 1) (zat dd_L_law_8 16 rfl) (by decide) ?_
        refine z_iadd (zat dd_L_law_8 17 rfl) ?_
        refine z_sld hsc (zat dd_L_law_8 18 rfl) (fun x140 => ?_)
        refine z_callV_IL (M2 := M_X10_forget) [.int x140] (fun l D _ _ => m_X10_forget l D v2 x140 h139) u_X10_forget ql_L_109 qi_X10_forget qs_X10_forget (ci := 6) rfl rfl rfl (Nat.le_of_ble_eq_true rfl) (by decide) (by decide) rfl rfl (zat dd_L_law_8 19 rfl) (fun x141 h142 => ?_)
        refine z_icmp_eq (tgt := 1012) (zat dd_L_law_8 20 rfl) (by decide) ?_ ?_
        · exact zb_L_law_1012 Y sb sN sx hsc (f_L_law_18 sN sx n) ih v1 v2 v3 h142
        · refine z_iconst (x := 0) (zat dd_L_law_8 21 rfl) (by decide) ?_
          exact z_zret rfl (zat dd_L_law_8 22 rfl)
      refine z_ite (fun c23 => ?_) (fun c23 => ?_)
      · refine z_tabIn (tgt := 731) 23 c23 (zat dd_L_law_0 21 rfl) (by decide) (by decide) rfl (by decide) ?_
        refine z_aload_n 1 (zat dd_L_law_8 23 rfl) rfl rfl ?_
        refine z_callV_IL (M2 := M_X9_is) [] (fun l D _ _ => m_X9_is l D v1 h) u_X9_is ql_L_110 qi_X9_is qs_X9_is (ci := 5) rfl rfl rfl (Nat.le_of_ble_eq_true rfl) (by decide) (by decide) rfl rfl (zat dd_L_law_8 24 rfl) (fun x143 h144 => ?_)
        refine z_aload_n 2 (zat dd_L_law_8 25 rfl) rfl rfl ?_
        refine z_callV_IL (M2 := M_X10_is) [] (fun l D _ _ => m_X10_is l D v2 h144) u_X10_is ql_L_113 qi_X10_is qs_X10_is (ci := 6) rfl rfl rfl (Nat.le_of_ble_eq_true rfl) (by decide) (by decide) rfl rfl (zat dd_L_law_8 26 rfl) (fun x145 h146 => ?_)
        refine z_icmp_eq (tgt := 1012) (zat dd_L_law_8 27 rfl) (by decide) ?_ ?_
        · exact zb_L_law_1012 Y sb sN sx hsc (f_L_law_18 sN sx n) ih v1 v2 v3 h146
        · refine z_iconst (x := 0) (zat dd_L_law_8 28 rfl) (by decide) ?_
          exact z_zret rfl (zat dd_L_law_8 29 rfl)
      refine z_ite (fun c24 => ?_) (fun c24 => ?_)
      · refine z_tabIn (tgt := 744) 24 c24 (zat dd_L_law_0 21 rfl) (by decide) (by decide) rfl (by decide) ?_
        refine z_aload_n 1 (zat dd_L_law_8 30 rfl) rfl rfl ?_
        refine z_callV_IL (M2 := M_X9_look) [] (fun l D _ _ => m_X9_look l D v1 h) u_X9_look ql_L_114 qi_X9_look qs_X9_look (ci := 5) rfl rfl rfl (Nat.le_of_ble_eq_true rfl) (by decide) (by decide) rfl rfl (zat dd_L_law_8 31 rfl) (fun x147 h148 => ?_)
        refine z_aload_n 2 (zat dd_L_law_8 32 rfl) rfl rfl ?_
        refine z_callV_IL (M2 := M_X10_look) [] (fun l D _ _ => m_X10_look l D v2 h148) u_X10_look ql_L_117 qi_X10_look qs_X10_look (ci := 6) rfl rfl rfl (Nat.le_of_ble_eq_true rfl) (by decide) (by decide) rfl rfl (zat dd_L_law_8 33 rfl) (fun x149 h150 => ?_)
        refine z_icmp_eq (tgt := 1012) (zat dd_L_law_8 34 rfl) (by decide) ?_ ?_
        · exact zb_L_law_1012 Y sb sN sx hsc (f_L_law_18 sN sx n) ih v1 v2 v3 h150
        · refine z_iconst (x := 0) (zat dd_L_law_8 35 rfl) (by decide) ?_
          exact z_zret rfl (zat dd_L_law_8 36 rfl)
      refine z_ite (fun c25 => ?_) (fun c25 => ?_)
      · refine z_tabIn (tgt := 757) 25 c25 (zat dd_L_law_0 21 rfl) (by decide) (by decide) rfl (by decide) ?_
        refine z_aload_n 1 (zat dd_L_law_8 37 rfl) rfl rfl ?_
        refine z_aload_n 0 (zat dd_L_law_8 38 rfl) rfl rfl ?_
        refine z_iload_n 3 (zat dd_L_law_8 39 rfl) rfl rfl ?_
        refine z_iconst (x := 1) (zat dd_L_law_8 40 rfl) (by decide) ?_
        refine z_iadd (zat dd_L_law_8 41 rfl) ?_
        refine z_sld hsc (zat dd_L_law_8 42 rfl) (fun x151 => ?_)
        refine z_callV_IL (M2 := M_X9_kinds) [.int x151] (fun l D _ _ => m_X9_kinds l D v1 x151 h) u_X9_kinds ql_L_118 qi_X9_kinds qs_X9_kinds (ci := 5) rfl rfl rfl (Nat.le_of_ble_eq_true rfl) (by decide) (by decide) rfl rfl (zat dd_L_law_8 43 rfl) (fun x152 h153 => ?_)
        refine z_aload_n 2 (zat dd_L_law_8 44 rfl) rfl rfl ?_
        refine z_aload_n 0 (zat dd_L_law_8 45 rfl) rfl rfl ?_
        refine z_iload_n 3 (zat dd_L_law_8 46 rfl) rfl rfl ?_
        refine z_iconst (x := 1) (zat dd_L_law_8 47 rfl) (by decide) ?_
        refine z_iadd (zat dd_L_law_8 48 rfl) ?_
        refine z_sld hsc (zat dd_L_law_8 49 rfl) (fun x154 => ?_)
        refine z_callV_IL (M2 := M_X10_kinds) [.int x154] (fun l D _ _ => m_X10_kinds l D v2 x154 h153) u_X10_kinds ql_L_121 qi_X10_kinds qs_X10_kinds (ci := 6) rfl rfl rfl (Nat.le_of_ble_eq_true rfl) (by decide) (by decide) rfl rfl (zat dd_L_law_9 0 rfl) (fun x155 h156 => ?_)
        refine z_icmp_eq (tgt := 1012) (zat dd_L_law_9 1 rfl) (by decide) ?_ ?_
        · exact zb_L_law_1012 Y sb sN sx hsc (f_L_law_18 sN sx n) ih v1 v2 v3 h156
        · refine z_iconst (x := 0) (zat dd_L_law_9 2 rfl) (by decide) ?_
          exact z_zret rfl (zat dd_L_law_9 3 rfl)
      refine z_ite (fun c26 => ?_) (fun c26 => ?_)
      · refine z_tabIn (tgt := 780) 26 c26 (zat dd_L_law_0 21 rfl) (by decide) (by decide) rfl (by decide) ?_
        refine z_aload_n 1 (zat dd_L_law_9 4 rfl) rfl rfl ?_
        refine z_aload_n 0 (zat dd_L_law_9 5 rfl) rfl rfl ?_
        refine z_iload_n 3 (zat dd_L_law_9 6 rfl) rfl rfl ?_
        refine z_iconst (x := 1) (zat dd_L_law_9 7 rfl) (by decide) ?_
        refine z_iadd (zat dd_L_law_9 8 rfl) ?_
        refine z_sld hsc (zat dd_L_law_9 9 rfl) (fun x157 => ?_)
        refine z_callV_IL (M2 := M_X9_ask) [.int x157] (fun l D _ _ => m_X9_ask l D v1 x157 h) u_X9_ask ql_L_122 qi_X9_ask qs_X9_ask (ci := 5) rfl rfl rfl (Nat.le_of_ble_eq_true rfl) (by decide) (by decide) rfl rfl (zat dd_L_law_9 10 rfl) (fun x158 h159 => ?_)
        refine z_aload_n 2 (zat dd_L_law_9 11 rfl) rfl rfl ?_
        refine z_aload_n 0 (zat dd_L_law_9 12 rfl) rfl rfl ?_
        refine z_iload_n 3 (zat dd_L_law_9 13 rfl) rfl rfl ?_
        refine z_iconst (x := 1) (zat dd_L_law_9 14 rfl) (by decide) ?_
        refine z_iadd (zat dd_L_law_9 15 rfl) ?_
        refine z_sld hsc (zat dd_L_law_9 16 rfl) (fun x160 => ?_)
        refine z_callV_IL (M2 := M_X10_ask) [.int x160] (fun l D _ _ => m_X10_ask l D v2 x160 h159) u_X10_ask ql_L_125 qi_X10_ask qs_X10_ask (ci := 6) rfl rfl rfl (Nat.le_of_ble_eq_true rfl) (by decide) (by decide) rfl rfl (zat dd_L_law_9 17 rfl) (fun x161 h162 => ?_)
        refine z_icmp_eq (tgt := 1012) (zat dd_L_law_9 18 rfl) (by decide) ?_ ?_
        · exact zb_L_law_1012 Y sb sN sx hsc (f_L_law_18 sN sx n) ih v1 v2 v3 h162
        · refine z_iconst (x := 0) (zat dd_L_law_9 19 rfl) (by decide) ?_
          exact z_zret rfl (zat dd_L_law_9 20 rfl)
      refine z_ite (fun c27 => ?_) (fun c27 => ?_)
      · refine z_tabIn (tgt := 803) 27 c27 (zat dd_L_law_0 21 rfl) (by decide) (by decide) rfl (by decide) ?_
        refine z_aload_n 1 (zat dd_L_law_9 21 rfl) rfl rfl ?_
        refine z_aload_n 0 (zat dd_L_law_9 22 rfl) rfl rfl ?_
        refine z_iload_n 3 (zat dd_L_law_9 23 rfl) rfl rfl ?_
        refine z_iconst (x := 1) (zat dd_L_law_9 24 rfl) (by decide) ?_
        refine z_iadd (zat dd_L_law_9 25 rfl) ?_
        refine z_sld hsc (zat dd_L_law_9 26 rfl) (fun x163 => ?_)
        refine z_callV_IL (M2 := M_X9_two) [.int x163] (fun l D _ _ => m_X9_two l D v1 x163 h) u_X9_two ql_L_126 qi_X9_two qs_X9_two (ci := 5) rfl rfl rfl (Nat.le_of_ble_eq_true rfl) (by decide) (by decide) rfl rfl (zat dd_L_law_9 27 rfl) (fun x164 h165 => ?_)
        refine z_aload_n 2 (zat dd_L_law_9 28 rfl) rfl rfl ?_
        refine z_aload_n 0 (zat dd_L_law_9 29 rfl) rfl rfl ?_
        refine z_iload_n 3 (zat dd_L_law_9 30 rfl) rfl rfl ?_
        refine z_iconst (x := 1) (zat dd_L_law_9 31 rfl) (by decide) ?_
        refine z_iadd (zat dd_L_law_9 32 rfl) ?_
        refine z_sld hsc (zat dd_L_law_9 33 rfl) (fun x166 => ?_)
        refine z_callV_IL (M2 := M_X10_two) [.int x166] (fun l D _ _ => m_X10_two l D v2 x166 h165) u_X10_two ql_L_129 qi_X10_two qs_X10_two (ci := 6) rfl rfl rfl (Nat.le_of_ble_eq_true rfl) (by decide) (by decide) rfl rfl (zat dd_L_law_9 34 rfl) (fun x167 h168 => ?_)
        refine z_icmp_eq (tgt := 1012) (zat dd_L_law_9 35 rfl) (by decide) ?_ ?_
        · exact zb_L_law_1012 Y sb sN sx hsc (f_L_law_18 sN sx n) ih v1 v2 v3 h168
        · refine z_iconst (x := 0) (zat dd_L_law_9 36 rfl) (by decide) ?_
          exact z_zret rfl (zat dd_L_law_9 37 rfl)
      refine z_ite (fun c28 => ?_) (fun c28 => ?_)
      · refine z_tabIn (tgt := 826) 28 c28 (zat dd_L_law_0 21 rfl) (by decide) (by decide) rfl (by decide) ?_
        refine z_aload_n 1 (zat dd_L_law_9 38 rfl) rfl rfl ?_
        refine z_aload_n 0 (zat dd_L_law_9 39 rfl) rfl rfl ?_
        refine z_iload_n 3 (zat dd_L_law_9 40 rfl) rfl rfl ?_
        refine z_iconst (x := 1) (zat dd_L_law_9 41 rfl) (by decide) ?_
        refine z_iadd (zat dd_L_law_9 42 rfl) ?_
        refine z_sld hsc (zat dd_L_law_9 43 rfl) (fun x169 => ?_)
        refine z_callV_IL (M2 := M_X9_luck) [.int x169] (fun l D _ _ => m_X9_luck l D v1 x169 h) u_X9_luck ql_L_130 qi_X9_luck qs_X9_luck (ci := 5) rfl rfl rfl (Nat.le_of_ble_eq_true rfl) (by decide) (by decide) rfl rfl (zat dd_L_law_9 44 rfl) (fun x170 h171 => ?_)
        refine z_aload_n 2 (zat dd_L_law_9 45 rfl) rfl rfl ?_
        refine z_aload_n 0 (zat dd_L_law_9 46 rfl) rfl rfl ?_
        refine z_iload_n 3 (zat dd_L_law_9 47 rfl) rfl rfl ?_
        refine z_iconst (x := 1) (zat dd_L_law_9 48 rfl) (by decide) ?_
        refine z_iadd (zat dd_L_law_9 49 rfl) ?_
        refine z_sld hsc (zat dd_L_law_10 0 rfl) (fun x172 => ?_)
        refine z_callV_IL (M2 := M_X10_luck) [.int x172] (fun l D _ _ => m_X10_luck l D v2 x172 h171) u_X10_luck ql_L_133 qi_X10_luck qs_X10_luck (ci := 6) rfl rfl rfl (Nat.le_of_ble_eq_true rfl) (by decide) (by decide) rfl rfl (zat dd_L_law_10 1 rfl) (fun x173 h174 => ?_)
        refine z_icmp_eq (tgt := 1012) (zat dd_L_law_10 2 rfl) (by decide) ?_ ?_
        · exact zb_L_law_1012 Y sb sN sx hsc (f_L_law_18 sN sx n) ih v1 v2 v3 h174
        · refine z_iconst (x := 0) (zat dd_L_law_10 3 rfl) (by decide) ?_
          exact z_zret rfl (zat dd_L_law_10 4 rfl)
      refine z_ite (fun c29 => ?_) (fun c29 => ?_)
      · refine z_tabIn (tgt := 849) 29 c29 (zat dd_L_law_0 21 rfl) (by decide) (by decide) rfl (by decide) ?_
        refine z_aload_n 1 (zat dd_L_law_10 5 rfl) rfl rfl ?_
        refine z_aload_n 0 (zat dd_L_law_10 6 rfl) rfl rfl ?_
        refine z_iload_n 3 (zat dd_L_law_10 7 rfl) rfl rfl ?_
        refine z_iconst (x := 1) (zat dd_L_law_10 8 rfl) (by decide) ?_
        refine z_iadd (zat dd_L_law_10 9 rfl) ?_
        refine z_sld hsc (zat dd_L_law_10 10 rfl) (fun x175 => ?_)
        refine z_aload_n 0 (zat dd_L_law_10 11 rfl) rfl rfl ?_
        refine z_iload_n 3 (zat dd_L_law_10 12 rfl) rfl rfl ?_
        refine z_iconst (x := 2) (zat dd_L_law_10 13 rfl) (by decide) ?_
        refine z_iadd (zat dd_L_law_10 14 rfl) ?_
        refine z_sld hsc (zat dd_L_law_10 15 rfl) (fun x176 => ?_)
        refine z_callV_IL (M2 := M_X9_evenings) [.int x175, .int x176] (fun l D _ _ => m_X9_evenings l D v1 x175 x176 h) u_X9_evenings ql_L_134 qi_X9_evenings qs_X9_evenings (ci := 5) rfl rfl rfl (Nat.le_of_ble_eq_true rfl) (by decide) (by decide) rfl rfl (zat dd_L_law_10 16 rfl) (fun x177 h178 => ?_)
        refine z_aload_n 2 (zat dd_L_law_10 17 rfl) rfl rfl ?_
        refine z_aload_n 0 (zat dd_L_law_10 18 rfl) rfl rfl ?_
        refine z_iload_n 3 (zat dd_L_law_10 19 rfl) rfl rfl ?_
        refine z_iconst (x := 1) (zat dd_L_law_10 20 rfl) (by decide) ?_
        refine z_iadd (zat dd_L_law_10 21 rfl) ?_
        refine z_sld hsc (zat dd_L_law_10 22 rfl) (fun x179 => ?_)
        refine z_aload_n 0 (zat dd_L_law_10 23 rfl) rfl rfl ?_
        refine z_iload_n 3 (zat dd_L_law_10 24 rfl) rfl rfl ?_
        refine z_iconst (x := 2) (zat dd_L_law_10 25 rfl) (by decide) ?_
        refine z_iadd (zat dd_L_law_10 26 rfl) ?_
        refine z_sld hsc (zat dd_L_law_10 27 rfl) (fun x180 => ?_)
        refine z_callV_IL (M2 := M_X10_evenings) [.int x179, .int x180] (fun l D _ _ => m_X10_evenings l D v2 x179 x180 h178) u_X10_evenings ql_L_137 qi_X10_evenings qs_X10_evenings (ci := 6) rfl rfl rfl (Nat.le_of_ble_eq_true rfl) (by decide) (by decide) rfl rfl (zat dd_L_law_10 28 rfl) (fun x181 h182 => ?_)
        refine z_icmp_eq (tgt := 1012) (zat dd_L_law_10 29 rfl) (by decide) ?_ ?_
        · exact zb_L_law_1012 Y sb sN sx hsc (f_L_law_18 sN sx n) ih v1 v2 v3 h182
        · refine z_iconst (x := 0) (zat dd_L_law_10 30 rfl) (by decide) ?_
          exact z_zret rfl (zat dd_L_law_10 31 rfl)
      refine z_ite (fun c30 => ?_) (fun c30 => ?_)
      · refine z_tabIn (tgt := 882) 30 c30 (zat dd_L_law_0 21 rfl) (by decide) (by decide) rfl (by decide) ?_
        refine z_aload_n 1 (zat dd_L_law_10 32 rfl) rfl rfl ?_
        refine z_aload_n 0 (zat dd_L_law_10 33 rfl) rfl rfl ?_
        refine z_iload_n 3 (zat dd_L_law_10 34 rfl) rfl rfl ?_
        refine z_iconst (x := 1) (zat dd_L_law_10 35 rfl) (by decide) ?_
        refine z_iadd (zat dd_L_law_10 36 rfl) ?_
        refine z_sld hsc (zat dd_L_law_10 37 rfl) (fun x183 => ?_)
        refine z_callV_JL (M2 := M_X9_part) [.int x183] (fun l D _ _ => m_X9_part l D v1 x183 h) u_X9_part ql_L_138 qi_X9_part qs_X9_part (ci := 5) rfl rfl rfl (Nat.le_of_ble_eq_true rfl) (by decide) (by decide) rfl rfl (zat dd_L_law_10 38 rfl) (fun x184 h185 => ?_)
        refine z_aload_n 2 (zat dd_L_law_10 39 rfl) rfl rfl ?_
        refine z_aload_n 0 (zat dd_L_law_10 40 rfl) rfl rfl ?_
        refine z_iload_n 3 (zat dd_L_law_10 41 rfl) rfl rfl ?_
        refine z_iconst (x := 1) (zat dd_L_law_10 42 rfl) (by decide) ?_
        refine z_iadd (zat dd_L_law_10 43 rfl) ?_
        refine z_sld hsc (zat dd_L_law_10 44 rfl) (fun x186 => ?_)
        refine z_callV_JL (M2 := M_X10_part) [.int x186] (fun l D _ _ => m_X10_part l D v2 x186 h185) u_X10_part ql_L_142 qi_X10_part qs_X10_part (ci := 6) rfl rfl rfl (Nat.le_of_ble_eq_true rfl) (by decide) (by decide) rfl rfl (zat dd_L_law_10 45 rfl) (fun x187 h188 => ?_)
        refine z_lcmp (zat dd_L_law_10 46 rfl) ?_
        refine z_if_eq (tgt := 1012) (zat dd_L_law_10 47 rfl) (by decide) ?_ ?_
        · exact zb_L_law_1012 Y sb sN sx hsc (f_L_law_18 sN sx n) ih v1 v2 v3 h188
        · refine z_iconst (x := 0) (zat dd_L_law_10 48 rfl) (by decide) ?_
          exact z_zret rfl (zat dd_L_law_10 49 rfl)
      refine z_ite (fun c31 => ?_) (fun c31 => ?_)
      · refine z_tabIn (tgt := 906) 31 c31 (zat dd_L_law_0 21 rfl) (by decide) (by decide) rfl (by decide) ?_
        refine z_aload_n 1 (zat dd_L_law_11 0 rfl) rfl rfl ?_
        refine z_aload_n 0 (zat dd_L_law_11 1 rfl) rfl rfl ?_
        refine z_iload_n 3 (zat dd_L_law_11 2 rfl) rfl rfl ?_
        refine z_iconst (x := 1) (zat dd_L_law_11 3 rfl) (by decide) ?_
        refine z_iadd (zat dd_L_law_11 4 rfl) ?_
        refine z_sld hsc (zat dd_L_law_11 5 rfl) (fun x189 => ?_)
        refine z_callV_IL (M2 := M_X9_image) [.int x189] (fun l D _ _ => m_X9_image l D v1 x189 h) u_X9_image ql_L_143 qi_X9_image qs_X9_image (ci := 5) rfl rfl rfl (Nat.le_of_ble_eq_true rfl) (by decide) (by decide) rfl rfl (zat dd_L_law_11 6 rfl) (fun x190 h191 => ?_)
        refine z_aload_n 2 (zat dd_L_law_11 7 rfl) rfl rfl ?_
        refine z_aload_n 0 (zat dd_L_law_11 8 rfl) rfl rfl ?_
        refine z_iload_n 3 (zat dd_L_law_11 9 rfl) rfl rfl ?_
        refine z_iconst (x := 1) (zat dd_L_law_11 10 rfl) (by decide) ?_
        refine z_iadd (zat dd_L_law_11 11 rfl) ?_
        refine z_sld hsc (zat dd_L_law_11 12 rfl) (fun x192 => ?_)
        refine z_callV_IL (M2 := M_X10_image) [.int x192] (fun l D _ _ => m_X10_image l D v2 x192 h191) u_X10_image ql_L_146 qi_X10_image qs_X10_image (ci := 6) rfl rfl rfl (Nat.le_of_ble_eq_true rfl) (by decide) (by decide) rfl rfl (zat dd_L_law_11 13 rfl) (fun x193 h194 => ?_)
        refine z_icmp_eq (tgt := 1012) (zat dd_L_law_11 14 rfl) (by decide) ?_ ?_
        · exact zb_L_law_1012 Y sb sN sx hsc (f_L_law_18 sN sx n) ih v1 v2 v3 h194
        · refine z_iconst (x := 0) (zat dd_L_law_11 15 rfl) (by decide) ?_
          exact z_zret rfl (zat dd_L_law_11 16 rfl)
      refine z_ite (fun c32 => ?_) (fun c32 => ?_)
      · refine z_tabIn (tgt := 929) 32 c32 (zat dd_L_law_0 21 rfl) (by decide) (by decide) rfl (by decide) ?_
        refine z_aload_n 1 (zat dd_L_law_11 17 rfl) rfl rfl ?_
        refine z_aload_n 0 (zat dd_L_law_11 18 rfl) rfl rfl ?_
        refine z_iload_n 3 (zat dd_L_law_11 19 rfl) rfl rfl ?_
        refine z_iconst (x := 1) (zat dd_L_law_11 20 rfl) (by decide) ?_
        refine z_iadd (zat dd_L_law_11 21 rfl) ?_
        refine z_sld hsc (zat dd_L_law_11 22 rfl) (fun x195 => ?_)
        refine z_callV_IL (M2 := M_X9_from) [.int x195] (fun l D _ _ => m_X9_from l D v1 x195 h) u_X9_from ql_L_147 qi_X9_from qs_X9_from (ci := 5) rfl rfl rfl (Nat.le_of_ble_eq_true rfl) (by decide) (by decide) rfl rfl (zat dd_L_law_11 23 rfl) (fun x196 h197 => ?_)
        refine z_aload_n 2 (zat dd_L_law_11 24 rfl) rfl rfl ?_
        refine z_aload_n 0 (zat dd_L_law_11 25 rfl) rfl rfl ?_
        refine z_iload_n 3 (zat dd_L_law_11 26 rfl) rfl rfl ?_
        refine z_iconst (x := 1) (zat dd_L_law_11 27 rfl) (by decide) ?_
        refine z_iadd (zat dd_L_law_11 28 rfl) ?_
        refine z_sld hsc (zat dd_L_law_11 29 rfl) (fun x198 => ?_)
        refine z_callV_IL (M2 := M_X10_from) [.int x198] (fun l D _ _ => m_X10_from l D v2 x198 h197) u_X10_from ql_L_150 qi_X10_from qs_X10_from (ci := 6) rfl rfl rfl (Nat.le_of_ble_eq_true rfl) (by decide) (by decide) rfl rfl (zat dd_L_law_11 30 rfl) (fun x199 h200 => ?_)
        refine z_icmp_eq (tgt := 1012) (zat dd_L_law_11 31 rfl) (by decide) ?_ ?_
        · exact zb_L_law_1012 Y sb sN sx hsc (f_L_law_18 sN sx n) ih v1 v2 v3 h200
        · refine z_iconst (x := 0) (zat dd_L_law_11 32 rfl) (by decide) ?_
          exact z_zret rfl (zat dd_L_law_11 33 rfl)
      refine z_ite (fun c33 => ?_) (fun c33 => ?_)
      · refine z_tabIn (tgt := 952) 33 c33 (zat dd_L_law_0 21 rfl) (by decide) (by decide) rfl (by decide) ?_
        refine z_aload_n 1 (zat dd_L_law_11 34 rfl) rfl rfl ?_
        refine z_aload_n 0 (zat dd_L_law_11 35 rfl) rfl rfl ?_
        refine z_iload_n 3 (zat dd_L_law_11 36 rfl) rfl rfl ?_
        refine z_iconst (x := 1) (zat dd_L_law_11 37 rfl) (by decide) ?_
        refine z_iadd (zat dd_L_law_11 38 rfl) ?_
        refine z_sld hsc (zat dd_L_law_11 39 rfl) (fun x201 => ?_)
        refine z_callV_IL (M2 := M_X9_status) [.int x201] (fun l D _ _ => m_X9_status l D v1 x201 h) u_X9_status ql_L_151 qi_X9_status qs_X9_status (ci := 5) rfl rfl rfl (Nat.le_of_ble_eq_true rfl) (by decide) (by decide) rfl rfl (zat dd_L_law_11 40 rfl) (fun x202 h203 => ?_)
        refine z_aload_n 2 (zat dd_L_law_11 41 rfl) rfl rfl ?_
        refine z_aload_n 0 (zat dd_L_law_11 42 rfl) rfl rfl ?_
        refine z_iload_n 3 (zat dd_L_law_11 43 rfl) rfl rfl ?_
        refine z_iconst (x := 1) (zat dd_L_law_11 44 rfl) (by decide) ?_
        refine z_iadd (zat dd_L_law_11 45 rfl) ?_
        refine z_sld hsc (zat dd_L_law_11 46 rfl) (fun x204 => ?_)
        refine z_callV_IL (M2 := M_X10_status) [.int x204] (fun l D _ _ => m_X10_status l D v2 x204 h203) u_X10_status ql_L_154 qi_X10_status qs_X10_status (ci := 6) rfl rfl rfl (Nat.le_of_ble_eq_true rfl) (by decide) (by decide) rfl rfl (zat dd_L_law_11 47 rfl) (fun x205 h206 => ?_)
        refine z_icmp_eq (tgt := 1012) (zat dd_L_law_11 48 rfl) (by decide) ?_ ?_
        · exact zb_L_law_1012 Y sb sN sx hsc (f_L_law_18 sN sx n) ih v1 v2 v3 h206
        · refine z_iconst (x := 0) (zat dd_L_law_11 49 rfl) (by decide) ?_
          exact z_zret rfl (zat dd_L_law_12 0 rfl)
      refine z_ite (fun c34 => ?_) (fun c34 => ?_)
      · refine z_tabIn (tgt := 975) 34 c34 (zat dd_L_law_0 21 rfl) (by decide) (by decide) rfl (by decide) ?_
        refine z_aload_n 1 (zat dd_L_law_12 1 rfl) rfl rfl ?_
        refine z_aload_n 0 (zat dd_L_law_12 2 rfl) rfl rfl ?_
        refine z_iload_n 3 (zat dd_L_law_12 3 rfl) rfl rfl ?_
        refine z_iconst (x := 1) (zat dd_L_law_12 4 rfl) (by decide) ?_
        refine z_iadd (zat dd_L_law_12 5 rfl) ?_
        refine z_sld hsc (zat dd_L_law_12 6 rfl) (fun x207 => ?_)
        refine z_callV_IL (M2 := M_X9_count) [.int x207] (fun l D _ _ => m_X9_count l D v1 x207 h) u_X9_count ql_L_155 qi_X9_count qs_X9_count (ci := 5) rfl rfl rfl (Nat.le_of_ble_eq_true rfl) (by decide) (by decide) rfl rfl (zat dd_L_law_12 7 rfl) (fun x208 h209 => ?_)
        refine z_aload_n 2 (zat dd_L_law_12 8 rfl) rfl rfl ?_
        refine z_aload_n 0 (zat dd_L_law_12 9 rfl) rfl rfl ?_
        refine z_iload_n 3 (zat dd_L_law_12 10 rfl) rfl rfl ?_
        refine z_iconst (x := 1) (zat dd_L_law_12 11 rfl) (by decide) ?_
        refine z_iadd (zat dd_L_law_12 12 rfl) ?_
        refine z_sld hsc (zat dd_L_law_12 13 rfl) (fun x210 => ?_)
        refine z_callV_IL (M2 := M_X10_count) [.int x210] (fun l D _ _ => m_X10_count l D v2 x210 h209) u_X10_count ql_L_158 qi_X10_count qs_X10_count (ci := 6) rfl rfl rfl (Nat.le_of_ble_eq_true rfl) (by decide) (by decide) rfl rfl (zat dd_L_law_12 14 rfl) (fun x211 h212 => ?_)
        refine z_icmp_eq (tgt := 1012) (zat dd_L_law_12 15 rfl) (by decide) ?_ ?_
        · exact zb_L_law_1012 Y sb sN sx hsc (f_L_law_18 sN sx n) ih v1 v2 v3 h212
        · refine z_iconst (x := 0) (zat dd_L_law_12 16 rfl) (by decide) ?_
          exact z_zret rfl (zat dd_L_law_12 17 rfl)
      refine z_ite (fun c35 => ?_) (fun c35 => ?_)
      · refine z_tabIn (tgt := 998) 35 c35 (zat dd_L_law_0 21 rfl) (by decide) (by decide) rfl (by decide) ?_
        refine z_aload_n 1 (zat dd_L_law_12 18 rfl) rfl rfl ?_
        refine z_callV_JL (M2 := M_X9_digest) [] (fun l D _ _ => m_X9_digest l D v1 h) u_X9_digest ql_L_159 qi_X9_digest qs_X9_digest (ci := 5) rfl rfl rfl (Nat.le_of_ble_eq_true rfl) (by decide) (by decide) rfl rfl (zat dd_L_law_12 19 rfl) (fun x213 h214 => ?_)
        refine z_aload_n 2 (zat dd_L_law_12 20 rfl) rfl rfl ?_
        refine z_callV_JL (M2 := M_X10_digest) [] (fun l D _ _ => m_X10_digest l D v2 h214) u_X10_digest ql_L_163 qi_X10_digest qs_X10_digest (ci := 6) rfl rfl rfl (Nat.le_of_ble_eq_true rfl) (by decide) (by decide) rfl rfl (zat dd_L_law_12 21 rfl) (fun x215 h216 => ?_)
        refine z_lcmp (zat dd_L_law_12 22 rfl) ?_
        refine z_if_eq (tgt := 1012) (zat dd_L_law_12 23 rfl) (by decide) ?_ ?_
        · exact zb_L_law_1012 Y sb sN sx hsc (f_L_law_18 sN sx n) ih v1 v2 v3 h216
        · refine z_iconst (x := 0) (zat dd_L_law_12 24 rfl) (by decide) ?_
          exact z_zret rfl (zat dd_L_law_12 25 rfl)
      refine z_tabOut (tgt := 1012) (zat dd_L_law_0 21 rfl) (by have g0 := lv_neT (a := 0) c0 rfl; have g1 := lv_neT (a := 1) c1 rfl; have g2 := lv_neT (a := 2) c2 rfl; have g3 := lv_neT (a := 3) c3 rfl; have g4 := lv_neT (a := 4) c4 rfl; have g5 := lv_neT (a := 5) c5 rfl; have g6 := lv_neT (a := 6) c6 rfl; have g7 := lv_neT (a := 7) c7 rfl; have g8 := lv_neT (a := 8) c8 rfl; have g9 := lv_neT (a := 9) c9 rfl; have g10 := lv_neT (a := 10) c10 rfl; have g11 := lv_neT (a := 11) c11 rfl; have g12 := lv_neT (a := 12) c12 rfl; have g13 := lv_neT (a := 13) c13 rfl; have g14 := lv_neT (a := 14) c14 rfl; have g15 := lv_neT (a := 15) c15 rfl; have g16 := lv_neT (a := 16) c16 rfl; have g17 := lv_neT (a := 17) c17 rfl; have g18 := lv_neT (a := 18) c18 rfl; have g19 := lv_neT (a := 19) c19 rfl; have g20 := lv_neT (a := 20) c20 rfl; have g21 := lv_neT (a := 21) c21 rfl; have g22 := lv_neT (a := 22) c22 rfl; have g23 := lv_neT (a := 23) c23 rfl; have g24 := lv_neT (a := 24) c24 rfl; have g25 := lv_neT (a := 25) c25 rfl; have g26 := lv_neT (a := 26) c26 rfl; have g27 := lv_neT (a := 27) c27 rfl; have g28 := lv_neT (a := 28) c28 rfl; have g29 := lv_neT (a := 29) c29 rfl; have g30 := lv_neT (a := 30) c30 rfl; have g31 := lv_neT (a := 31) c31 rfl; have g32 := lv_neT (a := 32) c32 rfl; have g33 := lv_neT (a := 33) c33 rfl; have g34 := lv_neT (a := 34) c34 rfl; have g35 := lv_neT (a := 35) c35 rfl; omega) (by decide) ?_
      exact zb_L_law_1012 Y sb sN sx hsc (f_L_law_18 sN sx n) ih v1 v2 v3 h
def f_L_law (sN : Nat) (sx : Nat → Int32) (h : zH) : zR :=
  zN h (.inr (5, [.null, .null, .null, .null, .null, .null, .null, .null, .null, .int 0, .long 0, .long 0, .int 0, .int 0, .int 0])) fun a1 h2 =>
  zcV (f_X9_init a1 h2) fun h3 =>
  zN h3 (.inr (6, [.null, .null, .null, .int 0, .null, .null, .null, .int 0, .int 0, .null, .long 0, .long 0, .null, .int 0, .int 0, .int 0, .int 0, .null, .null])) fun a4 h5 =>
  zcV (f_X10_init a4 h5) fun h6 =>
  f_L_law_18 sN sx zF a1 a4 0 h6
set_option maxRecDepth 100000 in
set_option maxHeartbeats 4000000 in
theorem m_L_law (Y : zY) (sb sN : Nat) (sx : Nat → Int32) (hsc : zScr Y sb sN sx) (h : zH) : Z Y M_L_law 0 0 0 [(0, .ref sb)] [] h (f_L_law sN sx h) := by
  rw [f_L_law]
  refine z_newN (cells2 := 1) (slots2 := 15) nw_L_7 (by decide) (by decide) rfl rfl (zat dd_L_law_0 0 rfl) (fun a1 h2 => ?_)
  refine z_dup (zat dd_L_law_0 1 rfl) rfl ?_
  refine z_callI_VA (cells2 := 159) (slots2 := 1399) (M2 := M_X9_init) [] (fun l D _ _ => m_X9_init l D a1 h2) u_X9_init ql_L_9 qi_X9_init rfl rfl rfl rfl (Nat.le_of_ble_eq_true rfl) (by decide) (by decide) (by decide) rfl rfl (zat dd_L_law_0 2 rfl) (fun h3 => ?_)
  refine z_astore_n (lv' := [(1, .ref a1), (0, .ref sb)]) (zat dd_L_law_0 3 rfl) rfl (Nat.le_of_ble_eq_true rfl) rfl ?_
  refine z_newN (cells2 := 160) (slots2 := 1418) nw_L_10 (by decide) (by decide) rfl rfl (zat dd_L_law_0 4 rfl) (fun a4 h5 => ?_)
  refine z_dup (zat dd_L_law_0 5 rfl) rfl ?_
  refine z_callI_VA (cells2 := 170) (slots2 := 2621) (M2 := M_X10_init) [] (fun l D _ _ => m_X10_init l D a4 h5) u_X10_init ql_L_12 qi_X10_init rfl rfl rfl rfl (Nat.le_of_ble_eq_true rfl) (by decide) (by decide) (by decide) rfl rfl (zat dd_L_law_0 6 rfl) (fun h6 => ?_)
  refine z_astore_n (lv' := [(2, .ref a4), (1, .ref a1), (0, .ref sb)]) (zat dd_L_law_0 7 rfl) rfl (Nat.le_of_ble_eq_true rfl) rfl ?_
  refine z_iconst (x := 0) (zat dd_L_law_0 8 rfl) (by decide) ?_
  refine z_istore_n (lv' := [(3, .int 0), (2, .ref a4), (1, .ref a1), (0, .ref sb)]) (zat dd_L_law_0 9 rfl) rfl (Nat.le_of_ble_eq_true rfl) rfl ?_
  refine z_sub [3, 2, 1, 0] rfl ?_
  exact zb_L_law_18 Y sb sN sx hsc zF a1 a4 0 h6
