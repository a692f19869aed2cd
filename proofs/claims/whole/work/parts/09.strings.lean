/-! STRING CONSTANTS: String.length, String.charAt on the reader's five words -/
section ZS2
variable {Y : zY} {M : zM} {cells slots pc : Nat} {lv lv' : List (Nat × Value)} {st : List Value} {h : zH} {r r1 r2 : zR}
theorem z_ldcS {i idx : Nat} {tx : String} (hi : zStrs[i]? = some (idx, tx)) (hd : decode M.1 pc = .ok (.ldc idx, 2)) (k : Z Y M cells slots (pc + 2) lv (.ref (Y.2.1.2.2.1 i) :: st) h r) (hM : M.2.1 = "PaperDolls$Reader" := by rfl) : Z Y M cells slots pc lv st h r := by
  obtain ⟨⟨p, l, e, R, s, m, args, below, meth, c⟩, D, A, Q⟩ := Y
  intro o1 o2 v h' hr hz H locs ls hR hS hv
  have ho := o1.2.2.2.1
  rw [hM] at ho
  exact va_ldcS o1.1 o1.2.1 ho (o1.2.2.2.2.2.2.2.1.2.2.2.2.2.1 i _ hi) hd (k o1 o2 v h' hr hz H locs ls hR hS hv)
theorem z_gets {idx : Nat} (hM : Cond.fieldLink M.2.1 idx "java/lang/String" "COMPACT_STRINGS" "Z" ∈ zTb) (hd : decode M.1 pc = .ok (.getstatic idx, 3)) (k : Z Y M cells slots (pc + 3) lv (.int 1 :: st) h r) : Z Y M cells slots pc lv st h r := by
  obtain ⟨⟨p, l, e, R, s, m, args, below, meth, c⟩, D, A, Q⟩ := Y
  intro o1 o2 v h' hr hz H locs ls hR hS hv
  exact va_gets o1.1 o1.2.1 o1.2.2.2.2.2.2.2.1.2.2.2.2.2.2.1 hS o1.2.2.2.1 (o1.2.2.2.2.2.1 _ hM) (fun _ q => q) hd (k o1 o2 v h' hr hz H locs ls hR hS hv)
theorem z_getsq {idx : Nat} (hM : Cond.fieldLink M.2.1 idx "jdk/internal/util/Preconditions" "SIOOBE_FORMATTER" "Ljava/util/function/BiFunction;" ∈ zTb) (hd : decode M.1 pc = .ok (.getstatic idx, 3)) (k1 : Z Y M cells slots (pc + 3) lv (.null :: st) h r) (k2 : ∀ t, Z Y M cells slots (pc + 3) lv (.ref t :: st) h r) : Z Y M cells slots pc lv st h r := by
  obtain ⟨⟨p, l, e, R, s, m, args, below, meth, c⟩, D, A, Q⟩ := Y
  intro o1 o2 v h' hr hz H locs ls hR hS hv
  rcases o1.2.2.2.2.2.2.2.1.2.2.2.2.2.2.2 with hq | ⟨t, hq⟩
  · exact va_gets o1.1 o1.2.1 hq hS o1.2.2.2.1 (o1.2.2.2.2.2.1 _ hM) (fun _ q => q) hd (k1 o1 o2 v h' hr hz H locs ls hR hS hv)
  · exact va_gets o1.1 o1.2.1 hq hS o1.2.2.2.1 (o1.2.2.2.2.2.1 _ hM) (fun _ q => q) hd (k2 t o1 o2 v h' hr hz H locs ls hR hS hv)
theorem z_sgetV {idx i : Nat} (hi : i < 5) (hM : Cond.fieldLink M.2.1 idx "java/lang/String" "value" "[B" ∈ zTb) (hd : decode M.1 pc = .ok (.getfield idx, 3)) (k : Z Y M cells slots (pc + 3) lv (.ref (Y.2.1.2.2.2 i) :: st) h r) : Z Y M cells slots pc lv (.ref (Y.2.1.2.2.1 i) :: st) h r := by
  obtain ⟨⟨p, l, e, R, s, m, args, below, meth, c⟩, D, A, Q⟩ := Y
  intro o1 o2 v h' hr hz H locs ls hR hS hv
  exact vk_getf o1.1 o1.2.1 (o1.2.2.2.2.2.2.2.1.2.2.2.2.1.1 i hi).2.2.1 hS o1.2.2.2.1 (o1.2.2.2.2.2.1 _ hM) (fun _ q => q) hd (k o1 o2 v h' hr hz H locs ls hR hS hv)
theorem z_sgetC {idx i : Nat} (hi : i < 5) (hM : Cond.fieldLink M.2.1 idx "java/lang/String" "coder" "B" ∈ zTb) (hd : decode M.1 pc = .ok (.getfield idx, 3)) (k : Z Y M cells slots (pc + 3) lv (.int 0 :: st) h r) : Z Y M cells slots pc lv (.ref (Y.2.1.2.2.1 i) :: st) h r := by
  obtain ⟨⟨p, l, e, R, s, m, args, below, meth, c⟩, D, A, Q⟩ := Y
  intro o1 o2 v h' hr hz H locs ls hR hS hv
  exact vk_getf o1.1 o1.2.1 (o1.2.2.2.2.2.2.2.1.2.2.2.2.1.1 i hi).2.1 hS o1.2.2.2.1 (o1.2.2.2.2.2.1 _ hM) (fun _ q => q) hd (k o1 o2 v h' hr hz H locs ls hR hS hv)
theorem z_tlen {i : Nat} (hi : i < 5) (hd : decode M.1 pc = .ok (.arraylength, 1)) (k : Z Y M cells slots (pc + 1) lv (.int (Int32.ofNat (zLen.getD i 0)) :: st) h r) : Z Y M cells slots pc lv (.ref (Y.2.1.2.2.2 i) :: st) h r := by
  obtain ⟨⟨p, l, e, R, s, m, args, below, meth, c⟩, D, A, Q⟩ := Y
  intro o1 o2 v h' hr hz H locs ls hR hS hv
  exact va_tlen o1.1 o1.2.1 (o1.2.2.2.2.2.2.2.1.2.2.2.2.1.1 i hi).2.2.2 hS rfl hd (k o1 o2 v h' hr hz H locs ls hR hS hv)
theorem z_tb {i : Nat} {x : Int32} (hi : i < 5) (hin : vp_in x (zLen.getD i 0)) (hd : decode M.1 pc = .ok (.baload, 1)) (k : Z Y M cells slots (pc + 1) lv (.int ((zByt.getD i []).getD x.toNatClampNeg 0) :: st) h r) : Z Y M cells slots pc lv (.int x :: .ref (Y.2.1.2.2.2 i) :: st) h r := by
  obtain ⟨⟨p, l, e, R, s, m, args, below, meth, c⟩, D, A, Q⟩ := Y
  intro o1 o2 v h' hr hz H locs ls hR hS hv
  exact va_tb o1.1 o1.2.1 (o1.2.2.2.2.2.2.2.1.2.2.2.2.1.1 i hi).2.2.2 hS hin rfl hd (k o1 o2 v h' hr hz H locs ls hR hS hv)
theorem z_if_eq_f {x : Int32} {off : Int} {tgt : Nat} (hd : decode M.1 pc = .ok (.ifCond .eq off, 3)) (ht : (pc : Int) + off = (tgt : Int)) (hc : ¬ x = 0) (k2 : Z Y M cells slots (pc + 3) lv st h r) : Z Y M cells slots pc lv (.int x :: st) h r := by
  have := z_if_eq (x := x) (r1 := none) hd ht z_none k2
  rwa [if_neg hc] at this
theorem z_if_ne_f {x : Int32} {off : Int} {tgt : Nat} (hd : decode M.1 pc = .ok (.ifCond .ne off, 3)) (ht : (pc : Int) + off = (tgt : Int)) (hc : x = 0) (k2 : Z Y M cells slots (pc + 3) lv st h r) : Z Y M cells slots pc lv (.int x :: st) h r := by
  have := z_if_ne (x := x) (r1 := none) hd ht z_none k2
  rwa [if_pos hc] at this
theorem z_i2c {x : Int32} (hd : decode M.1 pc = .ok (.i2c, 1)) (k : Z Y M cells slots (pc + 1) lv (.int (x.toUInt32 % 65536).toInt32 :: st) h r) : Z Y M cells slots pc lv (.int x :: st) h r := by
  obtain ⟨⟨p, l, e, R, s, m, args, below, meth, c⟩, D, A, Q⟩ := Y
  intro o1 o2 v h' hr hz H locs ls hR hS hv
  exact lv_i2c o1.1 o1.2.1 hd rfl (k o1 o2 v h' hr hz H locs ls hR hS hv)
theorem z_xret {x : Int32} {ty : FieldType} (hret : M.2.2.2.2.1 = some ty) (hn : narrow ty (.int x) = .int x) (hd : decode M.1 pc = .ok (.ireturn, 1)) : Z Y M M.2.2.2.2.2.2.1 M.2.2.2.2.2.2.2 pc lv [.int x] h (zrI x h) := by
  obtain ⟨⟨p, l, e, R, s, m, args, below, meth, c⟩, D, A, Q⟩ := Y
  intro o1 o2 v h' hr hz H locs ls hR hS hv
  cases hr
  exact o2.1 ty x h H locs ls pc hret hn hd hz hR hS
theorem z_aloadN {i : Fin 4} {j : Nat} (q : Nat) (hd : decode M.1 pc = .ok (.aload_n i, 1)) (hj : (i : Nat) = j) (hq : lv[q]? = some (j, .null)) (k : Z Y M cells slots (pc + 1) lv (.null :: st) h r) : Z Y M cells slots pc lv st h r := by
  obtain ⟨⟨p, l, e, R, s, m, args, below, meth, c⟩, D, A, Q⟩ := Y
  intro o1 o2 v h' hr hz H locs ls hR hS hv
  exact lv_aload_nN o1.1 o1.2.1 hd hj (lv_at hv q hq) (k o1 o2 v h' hr hz H locs ls hR hS hv)
theorem z_callVS_I {y : MethodName} {M2 : zM} {n idx : Nat} {b : Nat} {K : Int32 → zH → zR} (av : List Value) {st0 : List Value} (hM : ∀ (l : Launch) (D : zD), l = Y.1.2.1 → D = Y.2.1 → zMet l D y M2 (.ref b :: av) h r) (hu : zCal y M2 n) (hl : Cond.methodLink M.2.1 idx y ∈ zTb) (hsx : Cond.instanceMethod y ∈ zTb) (hse : Cond.selects y.cls y y ∈ zTb) {i : Nat} (hi : i < 5) (hcl : y.cls = "java/lang/String") (hb : b = Y.2.1.2.2.1 i) (hn : av.length = n) (hst0 : st0 = av.reverse ++ .ref b :: st) (hrm : (st.map fun v => v.category).sum ≤ 8) (hlev : M2.2.2.2.2.2.1 + 1 ≤ M.2.2.2.2.2.1) (hcs : cells + M2.2.2.2.2.2.2.1 ≤ M.2.2.2.2.2.2.1 ∧ slots + M2.2.2.2.2.2.2.2 ≤ M.2.2.2.2.2.2.2) (hd : decode M.1 pc = .ok (.invokevirtual idx, 3)) (kk : ∀ x h1, Z Y M (cells + M2.2.2.2.2.2.2.1) (slots + M2.2.2.2.2.2.2.2) (pc + 3) lv (.int x :: st) h1 (K x h1)) : Z Y M cells slots pc lv st0 h (zcI r K) := by
  obtain ⟨⟨p, l, e, R, s, m, args, below, meth, c⟩, D, A, Q⟩ := Y
  intro o1 o2 v h' hr hz H locs ls hR hS hv
  obtain ⟨x, h1, hr0, hr⟩ := zcI_some hr
  subst hst0
  have hM' := hM l D rfl rfl _ h1 hr0
  obtain ⟨u1, u2, u3, u4⟩ := hu
  have w5 := o1.2.2.2.2.2.1
  have w6 := o1.2.2.2.2.2.2.1
  have w5c := w5
  have hG := zcode_nil u1
  have hRo : (zrm M2).frames + 1 ≤ R.frames ∧ 8 + (M2.2.2.2.1 + 11) + (zrm M2).locals ≤ R.locals := by
    refine ⟨?_, ?_⟩
    · show M2.2.2.2.2.2.1 + 1 + 1 ≤ _
      omega
    · show 8 + (M2.2.2.2.1 + 11) + 60 * (M2.2.2.2.2.2.1 + 1) ≤ _
      omega
  have hfit : cells + M2.2.2.2.2.2.2.1 ≤ R.cells ∧ slots + M2.2.2.2.2.2.2.2 ≤ R.slots := ⟨Nat.le_trans hcs.1 w6.2.2.1, Nat.le_trans hcs.2 w6.2.2.2⟩
  have hAA := hR.zA hS o1.2.2.2.2.2.2.2.2
  have hRecv : ∃ cellB : Cell, H[b]? = some cellB ∧ cellB.vm.isStatics = false ∧ s.vm.findClass y.cls = some cellB.cls := by
    rw [hb, hcl]
    exact vk_recv o1.2.2.2.2.2.2.2.1.2.2.2.2.1 hi hS
  have hPre : ∀ U : State, U.heap = H → s.WarmedH U.vm → zPc D ((.ref b :: av)) h ((.ref b :: av)).toArray U := fun U hU hW => ⟨rfl, by rw [hU]; exact hR.narrow, zK.warm hW hAA (fun a q1 q2 => by rw [hU]; exact hS.2.1 a q1 q2) o1.2.2.2.2.2.2.2.1⟩
  have hst' : (F0 m pc ls (av.reverse ++ .ref b :: st)).stack = av.reverse ++ .ref b :: st := rfl
  have hrun := va_runV (e := e) (locs := locs) (below := below) (meth := meth) (g := F0 m pc ls (av.reverse ++ .ref b :: st)) (Ts := zTb) (C := y.cls) (b := b) (As := av) (rest := st) ⟨o1.1, o1.2.1, o1.2.2.1, o1.2.2.2.1, w5⟩ hM' ⟨callB_of (ws' := zTb) n w5c hG rfl rfl rfl (w5 _ u2) (w5 _ hl) u3 hRo, w5 _ hsx, w5 _ hse⟩ ⟨zPc.blind, hRecv, hPre⟩ rfl hn hv.1 hst' (lv_room hrm) hd hfit
  intro T hT X
  obtain ⟨v0, st₀, t, T', L, h0, X', hL, e1, e2, ⟨⟨hv0, hRt, hzt⟩, hFz, hFk⟩, stp⟩ := hrun T hT X
  cases hv0
  rw [h0] at hFz hFk
  have hS' : va_S A s.heap T'.heap (locs ++ L) := ⟨Nat.le_trans hS.1 (by rw [e1]; exact hFz), fun q q1 q2 => by rw [e1, hFk q (Nat.lt_of_lt_of_le q1 hS.1) (fun z => q2 (hAA q z))]; exact hS.2.1 q q1 q2, fun q hq => by
    rcases List.mem_append.mp hq with hh | hh
    · exact hS.2.2 q hh
    · exact hAA _ (hL q hh)⟩
  have hR' : zRel D A h1 T'.heap := by rw [e1]; exact hRt.weaken hAA
  obtain ⟨t2, a1, b1⟩ := kk x h1 o1 o2 v h' hr (by rw [hzt, hz]; omega) T'.heap (locs ++ L) ls hR' hS' hv T' rfl X'
  exact ⟨t2, stp t2 a1, b1⟩
theorem z_callVS_I0 {y : MethodName} {M2 : zM} {n idx b i : Nat} {K : Int32 → zH → zR} (av : List Value) {st0 : List Value} (hM : ∀ (l : Launch) (D : zD), l = Y.1.2.1 → D = Y.2.1 → zMet l D y M2 (.ref b :: av) h r) (hu : zCal y M2 n) (hl : Cond.methodLink M.2.1 idx y ∈ zTb) (hsx : Cond.instanceMethod y ∈ zTb) (hse : Cond.selects y.cls y y ∈ zTb) (hi : i < 5) (hcl : y.cls = "java/lang/String") (hb : b = Y.2.1.2.2.1 i) (hn : av.length = n) (hst0 : st0 = av.reverse ++ .ref b :: st) (hrm : (st.map fun v => v.category).sum ≤ 8) (hlev : M2.2.2.2.2.2.1 + 1 ≤ M.2.2.2.2.2.1) (hm0 : M2.2.2.2.2.2.2.1 = 0) (hm1 : M2.2.2.2.2.2.2.2 = 0) (hd : decode M.1 pc = .ok (.invokevirtual idx, 3)) (kk : ∀ x h1, Z Y M 0 0 (pc + 3) lv (.int x :: st) h1 (K x h1)) : Z Y M 0 0 pc lv st0 h (zcI r K) := z_callVS_I av hM hu hl hsx hse hi hcl hb hn hst0 hrm hlev (by rw [hm0, hm1]; exact ⟨Nat.zero_le _, Nat.zero_le _⟩) hd (fun x h1 => by rw [hm0, hm1]; exact kk x h1)
end ZS2
theorem fs_J0_38 : Cond.fieldLink RJ0 38 "java/lang/String" "COMPACT_STRINGS" "Z" ∈ zTb := zmem 364 (by decide +kernel) rfl
theorem fs_J0_15 : Cond.fieldLink RJ0 15 "java/lang/String" "coder" "B" ∈ zTb := zmem 1209 (by decide +kernel) rfl
theorem fs_J0_9 : Cond.fieldLink RJ0 9 "java/lang/String" "value" "[B" ∈ zTb := zmem 1208 (by decide +kernel) rfl
theorem fs_J0_1053 : Cond.fieldLink RJ0 1053 "jdk/internal/util/Preconditions" "SIOOBE_FORMATTER" "Ljava/util/function/BiFunction;" ∈ zTb := zmem 380 (by decide +kernel) rfl
theorem ql_J0_335 : Cond.methodLink RJ0 335 yJ0_coder_7d493 ∈ zTb := zmem 360 (by decide +kernel) rfl
theorem ql_J0_492 : Cond.methodLink RJ0 492 yJ0_isLatin1_aae02 ∈ zTb := zmem 370 (by decide +kernel) rfl
theorem ql_J0_495 : Cond.methodLink RJ0 495 yJ1_charAt_3b067 ∈ zTb := zmem 374 (by decide +kernel) rfl
theorem ql_J0_1059 : Cond.methodLink RJ0 1059 yJ3_checkIndex_8e157 ∈ zTb := zmem 382 (by decide +kernel) rfl
theorem ql_J1_9 : Cond.methodLink RJ1 9 yJ0_checkIndex_df160 ∈ zTb := zmem 377 (by decide +kernel) rfl
theorem ql_X5_105 : Cond.methodLink RX5 105 yJ0_length_8abf5 ∈ zTb := zmem 356 (by decide +kernel) rfl
theorem ql_X5_110 : Cond.methodLink RX5 110 yJ0_charAt_5068e ∈ zTb := zmem 366 (by decide +kernel) rfl
def L_J0_coder_7d493 : List (Nat × Instr × Nat) := [(0, .getstatic 38, 3), (3, .ifCond .eq 10, 3), (6, .aload_n 0, 1), (7, .getfield 15, 3), (10, .goto 4, 3), (13, .iconst 1, 1), (14, .ireturn, 1)]
theorem dd_J0_coder_7d493 : ∀ q ∈ L_J0_coder_7d493, decode cJ0_coder_7d493 q.1 = .ok q.2 := by decide +kernel
abbrev M_J0_coder_7d493 : zM := (cJ0_coder_7d493, RJ0, "coder", 1, some .byte, 0, 0, 0)
theorem u_J0_coder_7d493 : zCal yJ0_coder_7d493 M_J0_coder_7d493 0 := ⟨zmem 363 (by decide +kernel) rfl, zmem 65 (by decide +kernel) rfl, by decide +kernel, by decide⟩
theorem qi_J0_coder_7d493 : Cond.instanceMethod yJ0_coder_7d493 ∈ zTb := zmem 361 (by decide +kernel) rfl
theorem qs_J0_coder_7d493 : Cond.selects yJ0_coder_7d493.cls yJ0_coder_7d493 yJ0_coder_7d493 ∈ zTb := zmem 362 (by decide +kernel) rfl
set_option maxRecDepth 100000 in
set_option maxHeartbeats 4000000 in
theorem m_J0_coder_7d493 (l : Launch) (D : zD) (i : Nat) (h : zH) : zMet l D yJ0_coder_7d493 M_J0_coder_7d493 [.ref (D.2.2.1 i)] h (if i < 5 then zrI 0 h else none) := by
  refine zMet.of (by decide +kernel) ⟨rfl, rfl⟩ (Nat.le_of_ble_eq_true rfl) (fun Y hl hD => ?_)
  subst hD
  show Z Y M_J0_coder_7d493 0 0 0 [(0, .ref (Y.2.1.2.2.1 i))] [] h _
  refine z_ite (fun hi => ?_) (fun _ => z_none)
  refine z_gets fs_J0_38 (zat dd_J0_coder_7d493 0 rfl) ?_
  refine z_if_eq_f (tgt := 13) (zat dd_J0_coder_7d493 1 rfl) (by decide) (by decide) ?_
  refine z_aload_n 0 (zat dd_J0_coder_7d493 2 rfl) rfl rfl ?_
  refine z_sgetC hi fs_J0_15 (zat dd_J0_coder_7d493 3 rfl) ?_
  refine z_goto (tgt := 14) (zat dd_J0_coder_7d493 4 rfl) (by decide) ?_
  exact z_xret rfl (by decide +kernel) (zat dd_J0_coder_7d493 6 rfl)
def L_J0_isLatin1_aae02 : List (Nat × Instr × Nat) := [(0, .getstatic 38, 3), (3, .ifCond .eq 14, 3), (6, .aload_n 0, 1), (7, .getfield 15, 3), (10, .ifCond .ne 7, 3), (13, .iconst 1, 1), (14, .goto 4, 3), (17, .iconst 0, 1), (18, .ireturn, 1)]
theorem dd_J0_isLatin1_aae02 : ∀ q ∈ L_J0_isLatin1_aae02, decode cJ0_isLatin1_aae02 q.1 = .ok q.2 := by decide +kernel
abbrev M_J0_isLatin1_aae02 : zM := (cJ0_isLatin1_aae02, RJ0, "isLatin1", 1, some .boolean, 0, 0, 0)
theorem u_J0_isLatin1_aae02 : zCal yJ0_isLatin1_aae02 M_J0_isLatin1_aae02 0 := ⟨zmem 373 (by decide +kernel) rfl, zmem 65 (by decide +kernel) rfl, by decide +kernel, by decide⟩
theorem qi_J0_isLatin1_aae02 : Cond.instanceMethod yJ0_isLatin1_aae02 ∈ zTb := zmem 371 (by decide +kernel) rfl
theorem qs_J0_isLatin1_aae02 : Cond.selects yJ0_isLatin1_aae02.cls yJ0_isLatin1_aae02 yJ0_isLatin1_aae02 ∈ zTb := zmem 372 (by decide +kernel) rfl
set_option maxRecDepth 100000 in
set_option maxHeartbeats 4000000 in
theorem m_J0_isLatin1_aae02 (l : Launch) (D : zD) (i : Nat) (h : zH) : zMet l D yJ0_isLatin1_aae02 M_J0_isLatin1_aae02 [.ref (D.2.2.1 i)] h (if i < 5 then zrI 1 h else none) := by
  refine zMet.of (by decide +kernel) ⟨rfl, rfl⟩ (Nat.le_of_ble_eq_true rfl) (fun Y hl hD => ?_)
  subst hD
  show Z Y M_J0_isLatin1_aae02 0 0 0 [(0, .ref (Y.2.1.2.2.1 i))] [] h _
  refine z_ite (fun hi => ?_) (fun _ => z_none)
  refine z_gets fs_J0_38 (zat dd_J0_isLatin1_aae02 0 rfl) ?_
  refine z_if_eq_f (tgt := 17) (zat dd_J0_isLatin1_aae02 1 rfl) (by decide) (by decide) ?_
  refine z_aload_n 0 (zat dd_J0_isLatin1_aae02 2 rfl) rfl rfl ?_
  refine z_sgetC hi fs_J0_15 (zat dd_J0_isLatin1_aae02 3 rfl) ?_
  refine z_if_ne_f (tgt := 17) (zat dd_J0_isLatin1_aae02 4 rfl) (by decide) rfl ?_
  refine z_iconst (x := 1) (zat dd_J0_isLatin1_aae02 5 rfl) (by decide) ?_
  refine z_goto (tgt := 18) (zat dd_J0_isLatin1_aae02 6 rfl) (by decide) ?_
  exact z_xret rfl (by decide +kernel) (zat dd_J0_isLatin1_aae02 8 rfl)
def L_J0_length_8abf5 : List (Nat × Instr × Nat) := [(0, .aload_n 0, 1), (1, .getfield 9, 3), (4, .arraylength, 1), (5, .aload_n 0, 1), (6, .invokevirtual 335, 3), (9, .ishr, 1), (10, .ireturn, 1)]
theorem dd_J0_length_8abf5 : ∀ q ∈ L_J0_length_8abf5, decode cJ0_length_8abf5 q.1 = .ok q.2 := by decide +kernel
abbrev M_J0_length_8abf5 : zM := (cJ0_length_8abf5, RJ0, "length", 1, some .int, 1, 0, 0)
theorem u_J0_length_8abf5 : zCal yJ0_length_8abf5 M_J0_length_8abf5 0 := ⟨zmem 359 (by decide +kernel) rfl, zmem 65 (by decide +kernel) rfl, by decide +kernel, by decide⟩
theorem qi_J0_length_8abf5 : Cond.instanceMethod yJ0_length_8abf5 ∈ zTb := zmem 357 (by decide +kernel) rfl
theorem qs_J0_length_8abf5 : Cond.selects yJ0_length_8abf5.cls yJ0_length_8abf5 yJ0_length_8abf5 ∈ zTb := zmem 358 (by decide +kernel) rfl
set_option maxRecDepth 100000 in
set_option maxHeartbeats 4000000 in
theorem m_J0_length_8abf5 (l : Launch) (D : zD) (i : Nat) (h : zH) : zMet l D yJ0_length_8abf5 M_J0_length_8abf5 [.ref (D.2.2.1 i)] h (if i < 5 then zcI (if i < 5 then zrI 0 h else none) (fun x h1 => zrI (Int32.ofNat (zLen.getD i 0) >>> (x &&& 31)) h1) else none) := by
  refine zMet.of (by decide +kernel) ⟨rfl, rfl⟩ (Nat.le_of_ble_eq_true rfl) (fun Y hl hD => ?_)
  subst hD
  show Z Y M_J0_length_8abf5 0 0 0 [(0, .ref (Y.2.1.2.2.1 i))] [] h _
  refine z_ite (fun hi => ?_) (fun _ => z_none)
  refine z_aload_n 0 (zat dd_J0_length_8abf5 0 rfl) rfl rfl ?_
  refine z_sgetV hi fs_J0_9 (zat dd_J0_length_8abf5 1 rfl) ?_
  refine z_tlen hi (zat dd_J0_length_8abf5 2 rfl) ?_
  refine z_aload_n 0 (zat dd_J0_length_8abf5 3 rfl) rfl rfl ?_
  refine z_callVS_I0 (M2 := M_J0_coder_7d493) [] (fun l D _ hD => by subst hD; exact m_J0_coder_7d493 l _ i h) u_J0_coder_7d493 ql_J0_335 qi_J0_coder_7d493 qs_J0_coder_7d493 hi rfl rfl rfl rfl (Nat.le_of_ble_eq_true rfl) (by decide) rfl rfl (zat dd_J0_length_8abf5 4 rfl) (fun x h1 => ?_)
  refine z_ishr (zat dd_J0_length_8abf5 5 rfl) ?_
  exact z_iret rfl (zat dd_J0_length_8abf5 6 rfl)
def L_J3_checkIndex_8e157 : List (Nat × Instr × Nat) := [(0, .iload_n 0, 1), (1, .ifCond .lt 8, 3), (4, .iload_n 0, 1), (5, .iload_n 1, 1), (6, .if_icmp .lt 10, 3), (9, .aload_n 2, 1), (10, .iload_n 0, 1), (11, .iload_n 1, 1), (12, .invokestatic 95, 3), (15, .athrow, 1), (16, .iload_n 0, 1), (17, .ireturn, 1)]
theorem dd_J3_checkIndex_8e157 : ∀ q ∈ L_J3_checkIndex_8e157, decode cJ3_checkIndex_8e157 q.1 = .ok q.2 := by decide +kernel
abbrev M_J3_checkIndex_8e157 : zM := (cJ3_checkIndex_8e157, RJ3, "checkIndex", 3, some .int, 0, 0, 0)
theorem u_J3_checkIndex_8e157 : zCal yJ3_checkIndex_8e157 M_J3_checkIndex_8e157 3 := ⟨zmem 384 (by decide +kernel) rfl, zmem 67 (by decide +kernel) rfl, by decide +kernel, by decide⟩
theorem qi_J3_checkIndex_8e157 : Cond.static yJ3_checkIndex_8e157 ∈ zTb := zmem 383 (by decide +kernel) rfl
set_option maxRecDepth 100000 in
set_option maxHeartbeats 4000000 in
theorem m_J3_checkIndex_8e157 (l : Launch) (D : zD) (x y : Int32) (h : zH) : zMet l D yJ3_checkIndex_8e157 M_J3_checkIndex_8e157 [.int x, .int y, .null] h (if x < 0 then none else if x < y then zrI x h else none) := by
  refine zMet.of (by decide +kernel) ⟨rfl, rfl⟩ (Nat.le_of_ble_eq_true rfl) (fun Y hl hD => ?_)
  show Z Y M_J3_checkIndex_8e157 0 0 0 [(0, .int x), (1, .int y), (2, .null)] [] h _
  refine z_iload_n 0 (zat dd_J3_checkIndex_8e157 0 rfl) rfl rfl ?_
  refine z_if_lt (tgt := 9) (zat dd_J3_checkIndex_8e157 1 rfl) (by decide) z_none ?_
  refine z_iload_n 0 (zat dd_J3_checkIndex_8e157 2 rfl) rfl rfl ?_
  refine z_iload_n 1 (zat dd_J3_checkIndex_8e157 3 rfl) rfl rfl ?_
  refine z_icmp_lt (tgt := 16) (zat dd_J3_checkIndex_8e157 4 rfl) (by decide) ?_ z_none
  refine z_iload_n 0 (zat dd_J3_checkIndex_8e157 10 rfl) rfl rfl ?_
  exact z_iret rfl (zat dd_J3_checkIndex_8e157 11 rfl)
set_option maxRecDepth 100000 in
set_option maxHeartbeats 4000000 in
theorem mr_J3_checkIndex_8e157 (l : Launch) (D : zD) (x y : Int32) (t : Nat) (h : zH) : zMet l D yJ3_checkIndex_8e157 M_J3_checkIndex_8e157 [.int x, .int y, .ref t] h (if x < 0 then none else if x < y then zrI x h else none) := by
  refine zMet.of (by decide +kernel) ⟨rfl, rfl⟩ (Nat.le_of_ble_eq_true rfl) (fun Y hl hD => ?_)
  show Z Y M_J3_checkIndex_8e157 0 0 0 [(0, .int x), (1, .int y), (2, .ref t)] [] h _
  refine z_iload_n 0 (zat dd_J3_checkIndex_8e157 0 rfl) rfl rfl ?_
  refine z_if_lt (tgt := 9) (zat dd_J3_checkIndex_8e157 1 rfl) (by decide) z_none ?_
  refine z_iload_n 0 (zat dd_J3_checkIndex_8e157 2 rfl) rfl rfl ?_
  refine z_iload_n 1 (zat dd_J3_checkIndex_8e157 3 rfl) rfl rfl ?_
  refine z_icmp_lt (tgt := 16) (zat dd_J3_checkIndex_8e157 4 rfl) (by decide) ?_ z_none
  refine z_iload_n 0 (zat dd_J3_checkIndex_8e157 10 rfl) rfl rfl ?_
  exact z_iret rfl (zat dd_J3_checkIndex_8e157 11 rfl)
def L_J0_checkIndex_df160 : List (Nat × Instr × Nat) := [(0, .iload_n 0, 1), (1, .iload_n 1, 1), (2, .getstatic 1053, 3), (5, .invokestatic 1059, 3), (8, .pop, 1), (9, .return_, 1)]
theorem dd_J0_checkIndex_df160 : ∀ q ∈ L_J0_checkIndex_df160, decode cJ0_checkIndex_df160 q.1 = .ok q.2 := by decide +kernel
abbrev M_J0_checkIndex_df160 : zM := (cJ0_checkIndex_df160, RJ0, "checkIndex", 2, none, 1, 0, 0)
theorem u_J0_checkIndex_df160 : zCal yJ0_checkIndex_df160 M_J0_checkIndex_df160 2 := ⟨zmem 379 (by decide +kernel) rfl, zmem 65 (by decide +kernel) rfl, by decide +kernel, by decide⟩
theorem qi_J0_checkIndex_df160 : Cond.static yJ0_checkIndex_df160 ∈ zTb := zmem 378 (by decide +kernel) rfl
set_option maxRecDepth 100000 in
set_option maxHeartbeats 4000000 in
theorem m_J0_checkIndex_df160 (l : Launch) (D : zD) (x y : Int32) (h : zH) : zMet l D yJ0_checkIndex_df160 M_J0_checkIndex_df160 [.int x, .int y] h (zcI (if x < 0 then none else if x < y then zrI x h else none) (fun _ h1 => zrV h1)) := by
  refine zMet.of (by decide +kernel) ⟨rfl, rfl⟩ (Nat.le_of_ble_eq_true rfl) (fun Y hl hD => ?_)
  show Z Y M_J0_checkIndex_df160 0 0 0 [(0, .int x), (1, .int y)] [] h _
  refine z_iload_n 0 (zat dd_J0_checkIndex_df160 0 rfl) rfl rfl ?_
  refine z_iload_n 1 (zat dd_J0_checkIndex_df160 1 rfl) rfl rfl ?_
  refine z_getsq fs_J0_1053 (zat dd_J0_checkIndex_df160 2 rfl) ?_ (fun t => ?_)
  · refine z_callS_I0 (M2 := M_J3_checkIndex_8e157) [.int x, .int y, .null] (fun l D _ _ => m_J3_checkIndex_8e157 l D x y h) u_J3_checkIndex_8e157 ql_J0_1059 qi_J3_checkIndex_8e157 rfl rfl (Nat.le_of_ble_eq_true rfl) (by decide) rfl rfl (zat dd_J0_checkIndex_df160 3 rfl) (fun z h1 => ?_)
    refine z_pop (zat dd_J0_checkIndex_df160 4 rfl) rfl ?_
    exact z_vret rfl (zat dd_J0_checkIndex_df160 5 rfl)
  · refine z_callS_I0 (M2 := M_J3_checkIndex_8e157) [.int x, .int y, .ref t] (fun l D _ _ => mr_J3_checkIndex_8e157 l D x y t h) u_J3_checkIndex_8e157 ql_J0_1059 qi_J3_checkIndex_8e157 rfl rfl (Nat.le_of_ble_eq_true rfl) (by decide) rfl rfl (zat dd_J0_checkIndex_df160 3 rfl) (fun z h1 => ?_)
    refine z_pop (zat dd_J0_checkIndex_df160 4 rfl) rfl ?_
    exact z_vret rfl (zat dd_J0_checkIndex_df160 5 rfl)
/-- the sign at a place of a word -/
def zch (i : Nat) (x : Int32) : Int32 := ((((zByt.getD i []).getD x.toNatClampNeg 0) &&& 255).toUInt32 % 65536).toInt32
def L_J1_charAt_3b067 : List (Nat × Instr × Nat) := [(0, .iload_n 1, 1), (1, .aload_n 0, 1), (2, .arraylength, 1), (3, .invokestatic 9, 3), (6, .aload_n 0, 1), (7, .iload_n 1, 1), (8, .baload, 1), (9, .sipush 255, 3), (12, .iand, 1), (13, .i2c, 1), (14, .ireturn, 1)]
theorem dd_J1_charAt_3b067 : ∀ q ∈ L_J1_charAt_3b067, decode cJ1_charAt_3b067 q.1 = .ok q.2 := by decide +kernel
abbrev M_J1_charAt_3b067 : zM := (cJ1_charAt_3b067, RJ1, "charAt", 2, some .char, 2, 0, 0)
theorem u_J1_charAt_3b067 : zCal yJ1_charAt_3b067 M_J1_charAt_3b067 2 := ⟨zmem 376 (by decide +kernel) rfl, zmem 66 (by decide +kernel) rfl, by decide +kernel, by decide⟩
theorem qi_J1_charAt_3b067 : Cond.static yJ1_charAt_3b067 ∈ zTb := zmem 375 (by decide +kernel) rfl
set_option maxRecDepth 100000 in
set_option maxHeartbeats 4000000 in
theorem m_J1_charAt_3b067 (l : Launch) (D : zD) (i : Nat) (x : Int32) (h : zH) : zMet l D yJ1_charAt_3b067 M_J1_charAt_3b067 [.ref (D.2.2.2 i), .int x] h (if i < 5 then (if ¬ (x < 0 ∨ zLen.getD i 0 ≤ x.toNatClampNeg) then zcV (zcI (if x < 0 then none else if x < Int32.ofNat (zLen.getD i 0) then zrI x h else none) (fun _ h1 => zrV h1)) (fun h1 => zrI (zch i x) h1) else none) else none) := by
  refine zMet.of (by decide +kernel) ⟨rfl, rfl⟩ (Nat.le_of_ble_eq_true rfl) (fun Y hl hD => ?_)
  subst hD
  show Z Y M_J1_charAt_3b067 0 0 0 [(0, .ref (Y.2.1.2.2.2 i)), (1, .int x)] [] h _
  refine z_ite (fun hi => ?_) (fun _ => z_none)
  refine z_ite (fun hin => ?_) (fun _ => z_none)
  refine z_iload_n 1 (zat dd_J1_charAt_3b067 0 rfl) rfl rfl ?_
  refine z_aload_n 0 (zat dd_J1_charAt_3b067 1 rfl) rfl rfl ?_
  refine z_tlen hi (zat dd_J1_charAt_3b067 2 rfl) ?_
  refine z_callS_V0 (M2 := M_J0_checkIndex_df160) [.int x, .int (Int32.ofNat (zLen.getD i 0))] (fun l D _ _ => m_J0_checkIndex_df160 l D x (Int32.ofNat (zLen.getD i 0)) h) u_J0_checkIndex_df160 ql_J1_9 qi_J0_checkIndex_df160 rfl rfl (Nat.le_of_ble_eq_true rfl) (by decide) rfl rfl (zat dd_J1_charAt_3b067 3 rfl) (fun h1 => ?_)
  refine z_aload_n 0 (zat dd_J1_charAt_3b067 4 rfl) rfl rfl ?_
  refine z_iload_n 1 (zat dd_J1_charAt_3b067 5 rfl) rfl rfl ?_
  refine z_tb hi hin (zat dd_J1_charAt_3b067 6 rfl) ?_
  refine z_sipush (x := 255) (zat dd_J1_charAt_3b067 7 rfl) (by decide) ?_
  refine z_iand (zat dd_J1_charAt_3b067 8 rfl) ?_
  refine z_i2c (zat dd_J1_charAt_3b067 9 rfl) ?_
  exact z_xret rfl (pk_nc _) (zat dd_J1_charAt_3b067 10 rfl)
def L_J0_charAt_5068e : List (Nat × Instr × Nat) := [(0, .aload_n 0, 1), (1, .invokevirtual 492, 3), (4, .ifCond .eq 12, 3), (7, .aload_n 0, 1), (8, .getfield 9, 3), (11, .iload_n 1, 1), (12, .invokestatic 495, 3), (15, .ireturn, 1), (16, .aload_n 0, 1), (17, .getfield 9, 3), (20, .iload_n 1, 1), (21, .invokestatic 498, 3), (24, .ireturn, 1)]
theorem dd_J0_charAt_5068e : ∀ q ∈ L_J0_charAt_5068e, decode cJ0_charAt_5068e q.1 = .ok q.2 := by decide +kernel
abbrev M_J0_charAt_5068e : zM := (cJ0_charAt_5068e, RJ0, "charAt", 2, some .char, 3, 0, 0)
theorem u_J0_charAt_5068e : zCal yJ0_charAt_5068e M_J0_charAt_5068e 1 := ⟨zmem 369 (by decide +kernel) rfl, zmem 65 (by decide +kernel) rfl, by decide +kernel, by decide⟩
theorem qi_J0_charAt_5068e : Cond.instanceMethod yJ0_charAt_5068e ∈ zTb := zmem 367 (by decide +kernel) rfl
theorem qs_J0_charAt_5068e : Cond.selects yJ0_charAt_5068e.cls yJ0_charAt_5068e yJ0_charAt_5068e ∈ zTb := zmem 368 (by decide +kernel) rfl
set_option maxRecDepth 100000 in
set_option maxHeartbeats 4000000 in
theorem m_J0_charAt_5068e (l : Launch) (D : zD) (i : Nat) (x : Int32) (h : zH) : zMet l D yJ0_charAt_5068e M_J0_charAt_5068e [.ref (D.2.2.1 i), .int x] h (if i < 5 then zcI (if i < 5 then zrI 1 h else none) (fun x0 h1 => if x0 = 0 then none else zcI (if i < 5 then (if ¬ (x < 0 ∨ zLen.getD i 0 ≤ x.toNatClampNeg) then zcV (zcI (if x < 0 then none else if x < Int32.ofNat (zLen.getD i 0) then zrI x h1 else none) (fun _ h1 => zrV h1)) (fun h1 => zrI (zch i x) h1) else none) else none) (fun x2 h3 => if narrow .char (.int x2) = .int x2 then zrI x2 h3 else none)) else none) := by
  refine zMet.of (by decide +kernel) ⟨rfl, rfl⟩ (Nat.le_of_ble_eq_true rfl) (fun Y hl hD => ?_)
  subst hD
  show Z Y M_J0_charAt_5068e 0 0 0 [(0, .ref (Y.2.1.2.2.1 i)), (1, .int x)] [] h _
  refine z_ite (fun hi => ?_) (fun _ => z_none)
  refine z_aload_n 0 (zat dd_J0_charAt_5068e 0 rfl) rfl rfl ?_
  refine z_callVS_I0 (M2 := M_J0_isLatin1_aae02) [] (fun l D _ hD => by subst hD; exact m_J0_isLatin1_aae02 l _ i h) u_J0_isLatin1_aae02 ql_J0_492 qi_J0_isLatin1_aae02 qs_J0_isLatin1_aae02 hi rfl rfl rfl rfl (Nat.le_of_ble_eq_true rfl) (by decide) rfl rfl (zat dd_J0_charAt_5068e 1 rfl) (fun x0 h1 => ?_)
  refine z_if_eq (tgt := 16) (zat dd_J0_charAt_5068e 2 rfl) (by decide) z_none ?_
  refine z_aload_n 0 (zat dd_J0_charAt_5068e 3 rfl) rfl rfl ?_
  refine z_sgetV hi fs_J0_9 (zat dd_J0_charAt_5068e 4 rfl) ?_
  refine z_iload_n 1 (zat dd_J0_charAt_5068e 5 rfl) rfl rfl ?_
  refine z_callS_I0 (M2 := M_J1_charAt_3b067) [.ref (Y.2.1.2.2.2 i), .int x] (fun l D _ hD => by subst hD; exact m_J1_charAt_3b067 l _ i x h1) u_J1_charAt_3b067 ql_J0_495 qi_J1_charAt_3b067 rfl rfl (Nat.le_of_ble_eq_true rfl) (by decide) rfl rfl (zat dd_J0_charAt_5068e 6 rfl) (fun x2 h3 => ?_)
  refine z_ite (fun hn => ?_) (fun _ => z_none)
  exact z_xret rfl hn (zat dd_J0_charAt_5068e 7 rfl)
/-- length() and charAt() of a word, as the reader sees them -/
def zsl (i : Nat) (h : zH) (K : Int32 → zR) : zR := if i < 5 then K (Int32.ofNat (zLen.getD i 0)) else none
def zsch (i : Nat) (x : Int32) (h : zH) (K : Int32 → zR) : zR := if i < 5 ∧ ¬ (x < 0 ∨ zLen.getD i 0 ≤ x.toNatClampNeg) then K (zch i x) else none
section ZS3
variable {Y : zY} {M : zM} {pc : Nat} {lv lv' : List (Nat × Value)} {st : List Value} {h : zH}
theorem zch_nar (i : Nat) (x : Int32) : narrow .char (.int (zch i x)) = .int (zch i x) := pk_nc _
theorem zLen_lt : ∀ i, i < 5 → zLen.getD i 0 < 100 := by decide
theorem z_slenS {idx i : Nat} {K : Int32 → zR} (hl : Cond.methodLink M.2.1 idx yJ0_length_8abf5 ∈ zTb) (hlev : 2 ≤ M.2.2.2.2.2.1) (hd : decode M.1 pc = .ok (.invokevirtual idx, 3)) (kk : ∀ x, Z Y M 0 0 (pc + 3) lv (.int x :: st) h (K x)) (hrm : (st.map fun v => v.category).sum ≤ 8 := by exact Nat.le_of_ble_eq_true rfl) : Z Y M 0 0 pc lv (.ref (Y.2.1.2.2.1 i) :: st) h (zsl i h K) := by
  refine z_ite (fun hi => ?_) (fun _ => z_none)
  have k := z_callVS_I0 (Y := Y) (M := M) (lv := lv) (st := st) (K := fun x h1 => @ite zR (h1 = h) (Classical.propDecidable _) (K x) none) [] (fun l D _ hD => by subst hD; exact m_J0_length_8abf5 l _ i h) u_J0_length_8abf5 hl qi_J0_length_8abf5 qs_J0_length_8abf5 hi rfl rfl rfl rfl hrm hlev rfl rfl hd (fun x h1 => by
    by_cases e : h1 = h
    · subst e; rw [if_pos rfl]; exact kk x
    · rw [if_neg e]; exact z_none)
  rw [if_pos hi, if_pos hi] at k
  have e1 : Int32.ofNat (zLen.getD i 0) >>> ((0 : Int32) &&& 31) = Int32.ofNat (zLen.getD i 0) := sb_shr0 _
  simp only [zcI, zrI, e1, if_true] at k
  exact k
theorem z_schS {idx i : Nat} {x : Int32} {K : Int32 → zR} (hl : Cond.methodLink M.2.1 idx yJ0_charAt_5068e ∈ zTb) (hlev : 4 ≤ M.2.2.2.2.2.1) (hd : decode M.1 pc = .ok (.invokevirtual idx, 3)) (kk : ∀ x, Z Y M 0 0 (pc + 3) lv (.int x :: st) h (K x)) (hrm : (st.map fun v => v.category).sum ≤ 8 := by exact Nat.le_of_ble_eq_true rfl) : Z Y M 0 0 pc lv (.int x :: .ref (Y.2.1.2.2.1 i) :: st) h (zsch i x h K) := by
  refine z_ite (fun hi => ?_) (fun _ => z_none)
  obtain ⟨hi, hin⟩ := hi
  have k := z_callVS_I0 (Y := Y) (M := M) (lv := lv) (st := st) (K := fun x h1 => @ite zR (h1 = h) (Classical.propDecidable _) (K x) none) [.int x] (fun l D _ hD => by subst hD; exact m_J0_charAt_5068e l _ i x h) u_J0_charAt_5068e hl qi_J0_charAt_5068e qs_J0_charAt_5068e hi rfl rfl rfl rfl hrm hlev rfl rfl hd (fun x h1 => by
    by_cases e : h1 = h
    · subst e; rw [if_pos rfl]; exact kk x
    · rw [if_neg e]; exact z_none)
  have hx0 : ¬ x < 0 := fun q => hin (Or.inl q)
  have hx1 : x < Int32.ofNat (zLen.getD i 0) := by
    obtain ⟨j, hj, rfl⟩ := vp_in_of (zin hin) (Nat.lt_trans (zLen_lt i hi) (by decide))
    exact nI_lt hj (Nat.lt_trans (zLen_lt i hi) (by decide))
  have hx2 : ¬ zLen.getD i 0 ≤ x.toNatClampNeg := fun q => hin (Or.inr q)
  simp only [zcI, zcV, zrI, zrV, hi, hx0, hx1, hx2, or_self, zch_nar, if_true, if_false, not_false_eq_true, show ¬ (1 : Int32) = 0 by decide] at k
  exact k
end ZS3
