/-! ROWS: NEW CELLS, CALLS, METHODS -/
theorem zRel.push {D : zD} {A : Nat → Prop} {h : zH} {H H1 : Heap} {e1 : zE} (hR : zRel D A h H) (hz : H1.size = h.1 + 1) (oq : ∀ q : Nat, q < H.size → H1[q]? = H[q]?) (hA : A h.1) (he : va_at D.1 vwCl (h.1, zcell D e1) H1) : zRel D A (zpush h e1) H1 := by
  obtain ⟨z1, ws, hP, hD, m1, m2⟩ := hR
  have hlt : ∀ (k : Nat) (q : Nat × va_E), ws[k]? = some q → q.1 < H.size := fun k q hq => (hP k q hq).lt
  refine ⟨hz, ws ++ [(h.1, zcell D e1)], (hP.kept (fun k q hq => oq q.1 (hlt k q hq))).app (fun k q hq => ?_), hD.push hP z1.symm hA, fun b e hb => ?_, fun k q hq => ?_⟩
  · have hk : k < 1 := (List.getElem?_eq_some_iff.mp hq).1
    rw [show k = 0 by omega] at hq
    cases hq
    exact he
  · by_cases hba : b = h.1
    · subst hba
      simp only [zpush, if_true] at hb
      cases hb
      exact ⟨ws.length, by simp⟩
    · simp only [zpush, if_neg hba] at hb
      obtain ⟨k, hk⟩ := m1 b e hb
      exact ⟨k, by rw [List.getElem?_append_left (List.getElem?_eq_some_iff.mp hk).1]; exact hk⟩
  · by_cases hk : k < ws.length
    · rw [List.getElem?_append_left hk] at hq
      obtain ⟨e, h1, h2⟩ := m2 k q hq
      have hne : ¬ q.1 = h.1 := by have := hlt k q hq; omega
      exact ⟨e, by simp only [zpush, if_neg hne]; exact h1, h2⟩
    · rw [List.getElem?_append_right (by omega)] at hq
      have hk1 : k - ws.length < 1 := (List.getElem?_eq_some_iff.mp hq).1
      rw [show k - ws.length = 0 by omega] at hq
      cases hq
      exact ⟨e1, by simp [zpush], rfl⟩
theorem va_S.more {A : Nat → Prop} {H0 H H1 : Heap} {locs : List Loc} (hS : va_S A H0 H locs) (z1 : H.size ≤ H1.size) (o1 : ∀ q : Nat, q < H.size → H1[q]? = H[q]?) : va_S A H0 H1 locs := ⟨Nat.le_trans hS.1 z1, fun x h1 h2 => (o1 x (Nat.lt_of_lt_of_le h1 hS.1)).trans (hS.2.1 x h1 h2), hS.2.2⟩
def zNew (own : String) (idx ci N : Nat) (fs : List Value) : Prop := ∃ (C : String) (T : u_T) (ty : Nat → FieldType), vwCl[ci]? = some (C, T, N) ∧ (∀ w ∈ u_ws C T N, w ∈ zTb) ∧ (∀ k, k < N → parseFieldDescriptor (T k).2.2.1 = some (ty k)) ∧ Cond.classLink own idx C ∈ zTb ∧ Cond.instantiable C N ∈ zTb ∧ Cond.initialized C ∈ zTb ∧ ∀ j, j < N → defaultValue (ty j) = vp_V fs j
/-- a callee's words: static, or of an object -/
def zCal (y : MethodName) (M2 : zM) (n : Nat) : Prop := Cond.code y M2.1 M2.2.2.2.1 M2.2.2.2.2.1 ∈ zTb ∧ Cond.initialized y.cls ∈ zTb ∧ (y.cls ≠ "java/lang/invoke/MethodHandle" ∧ y.cls ≠ "java/lang/invoke/VarHandle" ∧ (parseMethodDescriptor y.desc).map (fun d => d.parameters.length) = some n) ∧ M2.2.2.2.1 + 19 ≤ 60
def zA (h : zH) : Nat → Prop := fun q => (∃ e, h.2 q = some e) ∨ h.1 ≤ q
def zPc (D : zD) (av : List Value) (h : zH) : Array Value → State → Prop := va_Pc av (fun U => zRel D (zA h) h U.heap ∧ zK D (zA h) U)
def zQc (D : zD) (h : zH) (mc : Nat) (v : Option Value) (h' : zH) : Array Value → State → Outcome → State → Prop := fun _ st oc t => (oc = .returned v ∧ zRel D (zA h) h' t.heap ∧ h'.1 = h.1 + mc) ∧ va_F (zA h) st t
def zrm (M : zM) : Room := { frames := M.2.2.2.2.2.1 + 1, cells := M.2.2.2.2.2.2.1, slots := M.2.2.2.2.2.2.2, locals := 60 * (M.2.2.2.2.2.1 + 1) }
def zMet (l : Launch) (D : zD) (y : MethodName) (M : zM) (av : List Value) (h : zH) (r : zR) : Prop := ∀ (v : Option Value) (h' : zH), r = some (v, h') → Met l y (.code y M.1 M.2.2.2.1 M.2.2.2.2.1 :: zTb) (zrm M) (zPc D av h) (zQc D h M.2.2.2.2.2.2.1 v h') M.2.2.2.2.2.2.1 M.2.2.2.2.2.2.2 (zA h)
theorem zPc.blind {D : zD} {av : List Value} {h : zH} : FrameBlind (zPc D av h) := fun a U g mk q => ⟨q.1, q.2.1, zK.calling q.2.2⟩
theorem zRel.narrow {D : zD} {A : Nat → Prop} {h : zH} {H : Heap} (hR : zRel D A h H) : zRel D (zA h) h H := by
  obtain ⟨z1, ws, hP, hD, m1, m2⟩ := hR
  refine ⟨z1, ws, hP, ⟨hD.1, fun k q hq => ?_⟩, m1, m2⟩
  obtain ⟨e, he, -⟩ := m2 k q hq
  exact Or.inl ⟨e, he⟩
theorem zRel.inA {D : zD} {A : Nat → Prop} {h : zH} {H : Heap} (hR : zRel D A h H) {q : Nat} {e : zE} (hq : h.2 q = some e) : A q := by
  obtain ⟨z1, ws, hP, hD, m1, m2⟩ := hR
  obtain ⟨k, hk⟩ := m1 q e hq
  exact hD.2 k _ hk
theorem zRel.zA {D : zD} {A : Nat → Prop} {h : zH} {H H0 : Heap} {locs : List Loc} (hR : zRel D A h H) (hS : va_S A H0 H locs) (hA : ∀ q, H0.size ≤ q → A q) : ∀ q, zA h q → A q := by
  intro q hq
  rcases hq with ⟨e, he⟩ | hq
  · exact hR.inA he
  · exact hA q (Nat.le_trans hS.1 (by rw [hR.1]; exact hq))
theorem zRel.weaken {D : zD} {A B : Nat → Prop} {h : zH} {H : Heap} (hR : zRel D A h H) (hAB : ∀ q, A q → B q) : zRel D B h H := by
  obtain ⟨z1, ws, hP, hD, m1, m2⟩ := hR
  exact ⟨z1, ws, hP, ⟨hD.1, fun k q hq => hAB _ (hD.2 k q hq)⟩, m1, m2⟩
section ZC
variable {Y : zY} {M : zM} {cells slots pc : Nat} {lv lv' : List (Nat × Value)} {st : List Value} {h : zH} {r r1 r2 : zR}
theorem z_new {idx ci N : Nat} {fs : List Value} (hN : zNew M.2.1 idx ci N fs) (hcells : cells + 1 ≤ M.2.2.2.2.2.2.1) (hslots : slots + N ≤ M.2.2.2.2.2.2.2) (hd : decode M.1 pc = .ok (.new idx, 3)) (k : Z Y M (cells + 1) (slots + N) (pc + 3) lv (.ref h.1 :: st) (zpush h (.inr (ci, fs))) r) : Z Y M cells slots pc lv st h r := by
  obtain ⟨⟨p, l, e, R, s, m, args, below, meth, c⟩, D, A, Q⟩ := Y
  intro o1 o2 v h' hr hz H locs ls hR hS hv
  obtain ⟨C, T, ty, f1, f2, f3, f4, f5, f6, f7⟩ := hN
  have w5 := o1.2.2.2.2.2.1
  have hKn := o1.2.2.2.2.2.2.2.1.1.1 ci _ f1
  refine W.newcK (h := h.1) o1.1 o1.2.1 o1.2.2.2.1 (w5 _ f4) (w5 _ f5) (w5 _ f6) rfl hd (Nat.le_trans hcells o1.2.2.2.2.2.2.1.2.2.1) (Nat.le_trans hslots o1.2.2.2.2.2.2.1.2.2.2) hKn.2.1 hR.1 fun H1 kC hkC e1 z1 q1 => ?_
  have q2 : ∀ q : Nat, q < H.size → H1[q]? = H[q]? := fun q hq => q1 q (by rw [← hR.1]; exact hq)
  refine k o1 o2 v h' hr (by show h.1 + 1 = _; omega) H1 locs ls (hR.push z1 q2 (o1.2.2.2.2.2.2.2.2 _ (by rw [← hR.1]; exact hS.1)) ⟨_, f1, (u_born ty w5 f2 hKn hkC e1 f3).to f7⟩) (hS.more (by rw [z1, hR.1]; omega) q2) hv
theorem z_newarr0 {n : Int32} {N : Nat} (hw : Cond.arrayClass .int ∈ zTb) (hn : ¬ n < 0) (hN : n.toNatClampNeg = N) (hb : N * componentBytes .int ≤ 536870912) (hcells : cells + 1 ≤ M.2.2.2.2.2.2.1) (hslots : slots + N ≤ M.2.2.2.2.2.2.2) (hd : decode M.1 pc = .ok (.newarray .int, 2)) (k : Z Y M (cells + 1) (slots + N) (pc + 2) lv (.ref h.1 :: st) (zpush h (.inl (0, N, .inl fun _ => 0))) r) : Z Y M cells slots pc lv (.int n :: st) h r := by
  obtain ⟨⟨p, l, e, R, s, m, args, below, meth, c⟩, D, A, Q⟩ := Y
  intro o1 o2 v h' hr hz H locs ls hR hS hv
  have w5 := o1.2.2.2.2.2.1
  refine va_newaK (h := h.1) (atype := .int) o1.1 o1.2.1 (w5 _ hw) rfl hd rfl hn hN hb (Nat.le_trans hcells o1.2.2.2.2.2.2.1.2.2.1) (Nat.le_trans hslots o1.2.2.2.2.2.2.1.2.2.2) hR.1 fun H1 cA e1 z1 q1 hAr hNm => ?_
  have q2 : ∀ q : Nat, q < H.size → H1[q]? = H[q]? := fun q hq => q1 q (by rw [← hR.1]; exact hq)
  have hcA : cA = D.2.1 0 := Option.some.inj (hNm.symm.trans (o1.2.2.2.2.2.2.2.1.1.2 0 (D.2.1 0, .int) rfl).2)
  subst hcA
  exact k o1 o2 v h' hr (by show h.1 + 1 = _; omega) H1 locs ls (hR.push z1 q2 (o1.2.2.2.2.2.2.2.2 _ (by rw [← hR.1]; exact hS.1)) e1) (hS.more (by rw [z1, hR.1]; omega) q2) hv
theorem z_newarr1 {n : Int32} {N : Nat} (hw : Cond.arrayClass .byte ∈ zTb) (hn : ¬ n < 0) (hN : n.toNatClampNeg = N) (hb : N * componentBytes .byte ≤ 536870912) (hcells : cells + 1 ≤ M.2.2.2.2.2.2.1) (hslots : slots + N ≤ M.2.2.2.2.2.2.2) (hd : decode M.1 pc = .ok (.newarray .byte, 2)) (k : Z Y M (cells + 1) (slots + N) (pc + 2) lv (.ref h.1 :: st) (zpush h (.inl (1, N, .inl fun _ => 0))) r) : Z Y M cells slots pc lv (.int n :: st) h r := by
  obtain ⟨⟨p, l, e, R, s, m, args, below, meth, c⟩, D, A, Q⟩ := Y
  intro o1 o2 v h' hr hz H locs ls hR hS hv
  have w5 := o1.2.2.2.2.2.1
  refine va_newaK (h := h.1) (atype := .byte) o1.1 o1.2.1 (w5 _ hw) rfl hd rfl hn hN hb (Nat.le_trans hcells o1.2.2.2.2.2.2.1.2.2.1) (Nat.le_trans hslots o1.2.2.2.2.2.2.1.2.2.2) hR.1 fun H1 cA e1 z1 q1 hAr hNm => ?_
  have q2 : ∀ q : Nat, q < H.size → H1[q]? = H[q]? := fun q hq => q1 q (by rw [← hR.1]; exact hq)
  have hcA : cA = D.2.1 1 := Option.some.inj (hNm.symm.trans (o1.2.2.2.2.2.2.2.1.1.2 1 (D.2.1 1, .byte) rfl).2)
  subst hcA
  exact k o1 o2 v h' hr (by show h.1 + 1 = _; omega) H1 locs ls (hR.push z1 q2 (o1.2.2.2.2.2.2.2.2 _ (by rw [← hR.1]; exact hS.1)) e1) (hS.more (by rw [z1, hR.1]; omega) q2) hv
theorem z_newarr2 {n : Int32} {N : Nat} (hw : Cond.arrayClass .boolean ∈ zTb) (hn : ¬ n < 0) (hN : n.toNatClampNeg = N) (hb : N * componentBytes .boolean ≤ 536870912) (hcells : cells + 1 ≤ M.2.2.2.2.2.2.1) (hslots : slots + N ≤ M.2.2.2.2.2.2.2) (hd : decode M.1 pc = .ok (.newarray .boolean, 2)) (k : Z Y M (cells + 1) (slots + N) (pc + 2) lv (.ref h.1 :: st) (zpush h (.inl (2, N, .inl fun _ => 0))) r) : Z Y M cells slots pc lv (.int n :: st) h r := by
  obtain ⟨⟨p, l, e, R, s, m, args, below, meth, c⟩, D, A, Q⟩ := Y
  intro o1 o2 v h' hr hz H locs ls hR hS hv
  have w5 := o1.2.2.2.2.2.1
  refine va_newaK (h := h.1) (atype := .boolean) o1.1 o1.2.1 (w5 _ hw) rfl hd rfl hn hN hb (Nat.le_trans hcells o1.2.2.2.2.2.2.1.2.2.1) (Nat.le_trans hslots o1.2.2.2.2.2.2.1.2.2.2) hR.1 fun H1 cA e1 z1 q1 hAr hNm => ?_
  have q2 : ∀ q : Nat, q < H.size → H1[q]? = H[q]? := fun q hq => q1 q (by rw [← hR.1]; exact hq)
  have hcA : cA = D.2.1 2 := Option.some.inj (hNm.symm.trans (o1.2.2.2.2.2.2.2.1.1.2 2 (D.2.1 2, .boolean) rfl).2)
  subst hcA
  exact k o1 o2 v h' hr (by show h.1 + 1 = _; omega) H1 locs ls (hR.push z1 q2 (o1.2.2.2.2.2.2.2.2 _ (by rw [← hR.1]; exact hS.1)) e1) (hS.more (by rw [z1, hR.1]; omega) q2) hv
theorem z_newarr3 {idx : Nat} {n : Int32} {N : Nat} (hw : Cond.classLink M.2.1 idx "PaperDolls$Wear" ∈ zTb) (hn : ¬ n < 0) (hN : n.toNatClampNeg = N) (hb : N * 4 ≤ 536870912) (hcells : cells + 1 ≤ M.2.2.2.2.2.2.1) (hslots : slots + N ≤ M.2.2.2.2.2.2.2) (hd : decode M.1 pc = .ok (.anewarray idx, 3)) (k : Z Y M (cells + 1) (slots + N) (pc + 3) lv (.ref h.1 :: st) (zpush h (.inl (3, N, .inr fun _ => none))) r) : Z Y M cells slots pc lv (.int n :: st) h r := by
  obtain ⟨⟨p, l, e, R, s, m, args, below, meth, c⟩, D, A, Q⟩ := Y
  intro o1 o2 v h' hr hz H locs ls hR hS hv
  have w5 := o1.2.2.2.2.2.1
  subst hN
  refine W.anew o1.1 o1.2.1 o1.2.2.2.1 (w5 _ hw) (va_AO.use o1.2.2.2.2.2.2.2.1.2.2.1) rfl hd rfl hn hb (Nat.le_trans hcells o1.2.2.2.2.2.2.1.2.2.1) (Nat.le_trans hslots o1.2.2.2.2.2.2.1.2.2.2) fun cA kA comp f1 f2 f3 f4 => ?_
  generalize hH1 : H.push ({ cls := cA, slots := Array.replicate n.toNatClampNeg .null, vm := .none } : Cell) = H1
  have z1 : H1.size = h.1 + 1 := by rw [← hH1, Array.size_push, hR.1]
  have e1 : H1[h.1]? = some (arrV cA n.toNatClampNeg (fun _ => .null)) := by rw [← hR.1, ← hH1, Array.getElem?_push_size, ← arrV_new]
  have q2 : ∀ q : Nat, q < H.size → H1[q]? = H[q]? := fun q hq => by rw [← hH1, Array.getElem?_push, if_neg (Nat.ne_of_lt hq)]
  obtain ⟨kA', comp', g1, g2, g3, g4⟩ := (o1.2.2.2.2.2.2.2.1.1.2 3 (D.2.1 3, .object "PaperDolls$Wear") rfl).2
  have hcA : cA = D.2.1 3 := Option.some.inj (f1.symm.trans g4)
  subst hcA
  rw [hR.1]
  exact k o1 o2 v h' hr (by show h.1 + 1 = _; omega) H1 locs ls (hR.push z1 q2 (o1.2.2.2.2.2.2.2.2 _ (by rw [← hR.1]; exact hS.1)) e1) (hS.more (by rw [z1, hR.1]; omega) q2) hv
theorem z_newarr4 {idx : Nat} {n : Int32} {N : Nat} (hw : Cond.classLink M.2.1 idx "PaperDolls$Doll" ∈ zTb) (hn : ¬ n < 0) (hN : n.toNatClampNeg = N) (hb : N * 4 ≤ 536870912) (hcells : cells + 1 ≤ M.2.2.2.2.2.2.1) (hslots : slots + N ≤ M.2.2.2.2.2.2.2) (hd : decode M.1 pc = .ok (.anewarray idx, 3)) (k : Z Y M (cells + 1) (slots + N) (pc + 3) lv (.ref h.1 :: st) (zpush h (.inl (4, N, .inr fun _ => none))) r) : Z Y M cells slots pc lv (.int n :: st) h r := by
  obtain ⟨⟨p, l, e, R, s, m, args, below, meth, c⟩, D, A, Q⟩ := Y
  intro o1 o2 v h' hr hz H locs ls hR hS hv
  have w5 := o1.2.2.2.2.2.1
  subst hN
  refine W.anew o1.1 o1.2.1 o1.2.2.2.1 (w5 _ hw) (va_AO.use o1.2.2.2.2.2.2.2.1.2.2.2.1) rfl hd rfl hn hb (Nat.le_trans hcells o1.2.2.2.2.2.2.1.2.2.1) (Nat.le_trans hslots o1.2.2.2.2.2.2.1.2.2.2) fun cA kA comp f1 f2 f3 f4 => ?_
  generalize hH1 : H.push ({ cls := cA, slots := Array.replicate n.toNatClampNeg .null, vm := .none } : Cell) = H1
  have z1 : H1.size = h.1 + 1 := by rw [← hH1, Array.size_push, hR.1]
  have e1 : H1[h.1]? = some (arrV cA n.toNatClampNeg (fun _ => .null)) := by rw [← hR.1, ← hH1, Array.getElem?_push_size, ← arrV_new]
  have q2 : ∀ q : Nat, q < H.size → H1[q]? = H[q]? := fun q hq => by rw [← hH1, Array.getElem?_push, if_neg (Nat.ne_of_lt hq)]
  obtain ⟨kA', comp', g1, g2, g3, g4⟩ := (o1.2.2.2.2.2.2.2.1.1.2 4 (D.2.1 4, .object "PaperDolls$Doll") rfl).2
  have hcA : cA = D.2.1 4 := Option.some.inj (f1.symm.trans g4)
  subst hcA
  rw [hR.1]
  exact k o1 o2 v h' hr (by show h.1 + 1 = _; omega) H1 locs ls (hR.push z1 q2 (o1.2.2.2.2.2.2.2.2 _ (by rw [← hR.1]; exact hS.1)) e1) (hS.more (by rw [z1, hR.1]; omega) q2) hv
theorem z_objInit {idx a : Nat} (hw : Cond.methodLink M.2.1 idx Lib.objectInit ∈ zTb) (hw1 : Cond.instanceMethod Lib.objectInit ∈ zTb) (hw2 : Cond.code Lib.objectInit ⟨#[0xb1]⟩ 1 none ∈ zTb) (hst : (st.map fun v => v.category).sum ≤ 8) (hd : decode M.1 pc = .ok (.invokespecial idx, 3)) (k : Z Y M cells slots (pc + 3) lv st h r) : Z Y M cells slots pc lv (.ref a :: st) h r := by
  obtain ⟨⟨p, l, e, R, s, m, args, below, meth, c⟩, D, A, Q⟩ := Y
  intro o1 o2 v h' hr hz H locs ls hR hS hv
  have w5 := o1.2.2.2.2.2.1
  have w6 := o1.2.2.2.2.2.2.1
  refine W.objInit o1.1 o1.2.1 o1.2.2.2.1 (w5 _ hw) (w5 _ hw1) (w5 _ hw2) rfl (by rw [o1.2.2.1]; exact hv.1) rfl hd (by omega) ?_ ?_
  · show 2 * 0 + (st.map fun v => v.category).sum + 12 ≤ _
    omega
  · exact k o1 o2 v h' hr hz H locs ls hR hS hv
theorem zcode_nil {y : Cond} (hy : y ∈ zTb) : GoodIn zTb (y :: zTb) := by
  intro w hw
  have h1 : w ∈ zTb := by
    rcases List.mem_cons.mp hw with h | h
    · rw [h]; exact hy
    · exact h
  exact ⟨h1, good_of_word (List.mem_filter.mp h1).2⟩
theorem z_callS_I {y : MethodName} {M2 : zM} {n idx : Nat} {K : Int32 → zH → zR} (av : List Value) {st0 : List Value} (hM : ∀ (l : Launch) (D : zD), l = Y.1.2.1 → D = Y.2.1 → zMet l D y M2 av h r) (hu : zCal y M2 n) (hl : Cond.methodLink M.2.1 idx y ∈ zTb) (hsx : Cond.static y ∈ zTb) (hn : av.length = n) (hst0 : st0 = av.reverse ++ st) (hrm : (st.map fun v => v.category).sum ≤ 8) (hlev : M2.2.2.2.2.2.1 + 1 ≤ M.2.2.2.2.2.1) (hcs : cells + M2.2.2.2.2.2.2.1 ≤ M.2.2.2.2.2.2.1 ∧ slots + M2.2.2.2.2.2.2.2 ≤ M.2.2.2.2.2.2.2) (hd : decode M.1 pc = .ok (.invokestatic idx, 3)) (kk : ∀ x h1, Z Y M (cells + M2.2.2.2.2.2.2.1) (slots + M2.2.2.2.2.2.2.2) (pc + 3) lv (.int x :: st) h1 (K x h1)) : Z Y M cells slots pc lv st0 h (zcI r K) := by
  obtain ⟨⟨p, l, e, R, s, m, args, below, meth, c⟩, D, A, Q⟩ := Y
  intro o1 o2 v h' hr hz H locs ls hR hS hv
  obtain ⟨x, h1, hr0, hr⟩ := zcI_some hr
  subst hst0
  have hM' := hM l D rfl rfl _ h1 hr0
  obtain ⟨u1, u2, u3, u4⟩ := hu
  have w5 := o1.2.2.2.2.2.1
  have w6 := o1.2.2.2.2.2.2.1
  have w5c := w5
  have hG := zcode_nil u1
  have hRo : (zrm M2).frames + 1 ≤ R.frames ∧ 8 + (M2.2.2.2.1 + 11) + (zrm M2).locals ≤ R.locals := by
    refine ⟨?_, ?_⟩
    · show M2.2.2.2.2.2.1 + 1 + 1 ≤ _
      omega
    · show 8 + (M2.2.2.2.1 + 11) + 60 * (M2.2.2.2.2.2.1 + 1) ≤ _
      omega
  have hfit : cells + M2.2.2.2.2.2.2.1 ≤ R.cells ∧ slots + M2.2.2.2.2.2.2.2 ≤ R.slots := ⟨Nat.le_trans hcs.1 w6.2.2.1, Nat.le_trans hcs.2 w6.2.2.2⟩
  have hAA := hR.zA hS o1.2.2.2.2.2.2.2.2
  have hPre : ∀ U : State, U.heap = H → s.WarmedH U.vm → zPc D (av) h (av).toArray U := fun U hU hW => ⟨rfl, by rw [hU]; exact hR.narrow, zK.warm hW hAA (fun a q1 q2 => by rw [hU]; exact hS.2.1 a q1 q2) o1.2.2.2.2.2.2.2.1⟩
  have hst' : (F0 m pc ls (av.reverse ++ st)).stack = av.reverse ++ st := rfl
  have hrun := va_runS (e := e) (locs := locs) (below := below) (meth := meth) (g := F0 m pc ls (av.reverse ++ st)) (Ts := zTb) (As := av) (rest := st) ⟨o1.1, o1.2.1, o1.2.2.1, o1.2.2.2.1, w5⟩ hM' ⟨callB_of (ws' := zTb) n w5c hG rfl rfl rfl (w5 _ u2) (w5 _ hl) u3 hRo, w5 _ hsx⟩ ⟨zPc.blind, hPre⟩ rfl hn hv.1 hst' (lv_room hrm) hd hfit
  intro T hT X
  obtain ⟨v0, st₀, t, T', L, h0, X', hL, e1, e2, ⟨⟨hv0, hRt, hzt⟩, hFz, hFk⟩, stp⟩ := hrun T hT X
  cases hv0
  rw [h0] at hFz hFk
  have hS' : va_S A s.heap T'.heap (locs ++ L) := ⟨Nat.le_trans hS.1 (by rw [e1]; exact hFz), fun q q1 q2 => by rw [e1, hFk q (Nat.lt_of_lt_of_le q1 hS.1) (fun z => q2 (hAA q z))]; exact hS.2.1 q q1 q2, fun q hq => by
    rcases List.mem_append.mp hq with hh | hh
    · exact hS.2.2 q hh
    · exact hAA _ (hL q hh)⟩
  have hR' : zRel D A h1 T'.heap := by rw [e1]; exact hRt.weaken hAA
  obtain ⟨t2, a1, b1⟩ := kk x h1 o1 o2 v h' hr (by rw [hzt, hz]; omega) T'.heap (locs ++ L) ls hR' hS' hv T' rfl X'
  exact ⟨t2, stp t2 a1, b1⟩
theorem z_callS_J {y : MethodName} {M2 : zM} {n idx : Nat} {K : Int64 → zH → zR} (av : List Value) {st0 : List Value} (hM : ∀ (l : Launch) (D : zD), l = Y.1.2.1 → D = Y.2.1 → zMet l D y M2 av h r) (hu : zCal y M2 n) (hl : Cond.methodLink M.2.1 idx y ∈ zTb) (hsx : Cond.static y ∈ zTb) (hn : av.length = n) (hst0 : st0 = av.reverse ++ st) (hrm : (st.map fun v => v.category).sum ≤ 8) (hlev : M2.2.2.2.2.2.1 + 1 ≤ M.2.2.2.2.2.1) (hcs : cells + M2.2.2.2.2.2.2.1 ≤ M.2.2.2.2.2.2.1 ∧ slots + M2.2.2.2.2.2.2.2 ≤ M.2.2.2.2.2.2.2) (hd : decode M.1 pc = .ok (.invokestatic idx, 3)) (kk : ∀ x h1, Z Y M (cells + M2.2.2.2.2.2.2.1) (slots + M2.2.2.2.2.2.2.2) (pc + 3) lv (.long x :: st) h1 (K x h1)) : Z Y M cells slots pc lv st0 h (zcJ r K) := by
  obtain ⟨⟨p, l, e, R, s, m, args, below, meth, c⟩, D, A, Q⟩ := Y
  intro o1 o2 v h' hr hz H locs ls hR hS hv
  obtain ⟨x, h1, hr0, hr⟩ := zcJ_some hr
  subst hst0
  have hM' := hM l D rfl rfl _ h1 hr0
  obtain ⟨u1, u2, u3, u4⟩ := hu
  have w5 := o1.2.2.2.2.2.1
  have w6 := o1.2.2.2.2.2.2.1
  have w5c := w5
  have hG := zcode_nil u1
  have hRo : (zrm M2).frames + 1 ≤ R.frames ∧ 8 + (M2.2.2.2.1 + 11) + (zrm M2).locals ≤ R.locals := by
    refine ⟨?_, ?_⟩
    · show M2.2.2.2.2.2.1 + 1 + 1 ≤ _
      omega
    · show 8 + (M2.2.2.2.1 + 11) + 60 * (M2.2.2.2.2.2.1 + 1) ≤ _
      omega
  have hfit : cells + M2.2.2.2.2.2.2.1 ≤ R.cells ∧ slots + M2.2.2.2.2.2.2.2 ≤ R.slots := ⟨Nat.le_trans hcs.1 w6.2.2.1, Nat.le_trans hcs.2 w6.2.2.2⟩
  have hAA := hR.zA hS o1.2.2.2.2.2.2.2.2
  have hPre : ∀ U : State, U.heap = H → s.WarmedH U.vm → zPc D (av) h (av).toArray U := fun U hU hW => ⟨rfl, by rw [hU]; exact hR.narrow, zK.warm hW hAA (fun a q1 q2 => by rw [hU]; exact hS.2.1 a q1 q2) o1.2.2.2.2.2.2.2.1⟩
  have hst' : (F0 m pc ls (av.reverse ++ st)).stack = av.reverse ++ st := rfl
  have hrun := va_runS (e := e) (locs := locs) (below := below) (meth := meth) (g := F0 m pc ls (av.reverse ++ st)) (Ts := zTb) (As := av) (rest := st) ⟨o1.1, o1.2.1, o1.2.2.1, o1.2.2.2.1, w5⟩ hM' ⟨callB_of (ws' := zTb) n w5c hG rfl rfl rfl (w5 _ u2) (w5 _ hl) u3 hRo, w5 _ hsx⟩ ⟨zPc.blind, hPre⟩ rfl hn hv.1 hst' (lv_room hrm) hd hfit
  intro T hT X
  obtain ⟨v0, st₀, t, T', L, h0, X', hL, e1, e2, ⟨⟨hv0, hRt, hzt⟩, hFz, hFk⟩, stp⟩ := hrun T hT X
  cases hv0
  rw [h0] at hFz hFk
  have hS' : va_S A s.heap T'.heap (locs ++ L) := ⟨Nat.le_trans hS.1 (by rw [e1]; exact hFz), fun q q1 q2 => by rw [e1, hFk q (Nat.lt_of_lt_of_le q1 hS.1) (fun z => q2 (hAA q z))]; exact hS.2.1 q q1 q2, fun q hq => by
    rcases List.mem_append.mp hq with hh | hh
    · exact hS.2.2 q hh
    · exact hAA _ (hL q hh)⟩
  have hR' : zRel D A h1 T'.heap := by rw [e1]; exact hRt.weaken hAA
  obtain ⟨t2, a1, b1⟩ := kk x h1 o1 o2 v h' hr (by rw [hzt, hz]; omega) T'.heap (locs ++ L) ls hR' hS' hv T' rfl X'
  exact ⟨t2, stp t2 a1, b1⟩
theorem z_callS_V {y : MethodName} {M2 : zM} {n idx : Nat} {K : zH → zR} (av : List Value) {st0 : List Value} (hM : ∀ (l : Launch) (D : zD), l = Y.1.2.1 → D = Y.2.1 → zMet l D y M2 av h r) (hu : zCal y M2 n) (hl : Cond.methodLink M.2.1 idx y ∈ zTb) (hsx : Cond.static y ∈ zTb) (hn : av.length = n) (hst0 : st0 = av.reverse ++ st) (hrm : (st.map fun v => v.category).sum ≤ 8) (hlev : M2.2.2.2.2.2.1 + 1 ≤ M.2.2.2.2.2.1) (hcs : cells + M2.2.2.2.2.2.2.1 ≤ M.2.2.2.2.2.2.1 ∧ slots + M2.2.2.2.2.2.2.2 ≤ M.2.2.2.2.2.2.2) (hd : decode M.1 pc = .ok (.invokestatic idx, 3)) (kk : ∀ h1, Z Y M (cells + M2.2.2.2.2.2.2.1) (slots + M2.2.2.2.2.2.2.2) (pc + 3) lv (st) h1 (K h1)) : Z Y M cells slots pc lv st0 h (zcV r K) := by
  obtain ⟨⟨p, l, e, R, s, m, args, below, meth, c⟩, D, A, Q⟩ := Y
  intro o1 o2 v h' hr hz H locs ls hR hS hv
  obtain ⟨h1, hr0, hr⟩ := zcV_some hr
  subst hst0
  have hM' := hM l D rfl rfl _ h1 hr0
  obtain ⟨u1, u2, u3, u4⟩ := hu
  have w5 := o1.2.2.2.2.2.1
  have w6 := o1.2.2.2.2.2.2.1
  have w5c := w5
  have hG := zcode_nil u1
  have hRo : (zrm M2).frames + 1 ≤ R.frames ∧ 8 + (M2.2.2.2.1 + 11) + (zrm M2).locals ≤ R.locals := by
    refine ⟨?_, ?_⟩
    · show M2.2.2.2.2.2.1 + 1 + 1 ≤ _
      omega
    · show 8 + (M2.2.2.2.1 + 11) + 60 * (M2.2.2.2.2.2.1 + 1) ≤ _
      omega
  have hfit : cells + M2.2.2.2.2.2.2.1 ≤ R.cells ∧ slots + M2.2.2.2.2.2.2.2 ≤ R.slots := ⟨Nat.le_trans hcs.1 w6.2.2.1, Nat.le_trans hcs.2 w6.2.2.2⟩
  have hAA := hR.zA hS o1.2.2.2.2.2.2.2.2
  have hPre : ∀ U : State, U.heap = H → s.WarmedH U.vm → zPc D (av) h (av).toArray U := fun U hU hW => ⟨rfl, by rw [hU]; exact hR.narrow, zK.warm hW hAA (fun a q1 q2 => by rw [hU]; exact hS.2.1 a q1 q2) o1.2.2.2.2.2.2.2.1⟩
  have hst' : (F0 m pc ls (av.reverse ++ st)).stack = av.reverse ++ st := rfl
  have hrun := va_runS (e := e) (locs := locs) (below := below) (meth := meth) (g := F0 m pc ls (av.reverse ++ st)) (Ts := zTb) (As := av) (rest := st) ⟨o1.1, o1.2.1, o1.2.2.1, o1.2.2.2.1, w5⟩ hM' ⟨callB_of (ws' := zTb) n w5c hG rfl rfl rfl (w5 _ u2) (w5 _ hl) u3 hRo, w5 _ hsx⟩ ⟨zPc.blind, hPre⟩ rfl hn hv.1 hst' (lv_room hrm) hd hfit
  intro T hT X
  obtain ⟨v0, st₀, t, T', L, h0, X', hL, e1, e2, ⟨⟨hv0, hRt, hzt⟩, hFz, hFk⟩, stp⟩ := hrun T hT X
  cases hv0
  rw [h0] at hFz hFk
  have hS' : va_S A s.heap T'.heap (locs ++ L) := ⟨Nat.le_trans hS.1 (by rw [e1]; exact hFz), fun q q1 q2 => by rw [e1, hFk q (Nat.lt_of_lt_of_le q1 hS.1) (fun z => q2 (hAA q z))]; exact hS.2.1 q q1 q2, fun q hq => by
    rcases List.mem_append.mp hq with hh | hh
    · exact hS.2.2 q hh
    · exact hAA _ (hL q hh)⟩
  have hR' : zRel D A h1 T'.heap := by rw [e1]; exact hRt.weaken hAA
  obtain ⟨t2, a1, b1⟩ := kk h1 o1 o2 v h' hr (by rw [hzt, hz]; omega) T'.heap (locs ++ L) ls hR' hS' hv T' rfl X'
  exact ⟨t2, stp t2 a1, b1⟩
theorem z_callV_I {y : MethodName} {M2 : zM} {n idx : Nat} {b : Nat} {K : Int32 → zH → zR} (av : List Value) {st0 : List Value} (hM : ∀ (l : Launch) (D : zD), l = Y.1.2.1 → D = Y.2.1 → zMet l D y M2 (.ref b :: av) h r) (hu : zCal y M2 n) (hl : Cond.methodLink M.2.1 idx y ∈ zTb) (hsx : Cond.instanceMethod y ∈ zTb) (hse : Cond.selects y.cls y y ∈ zTb) {ci : Nat} {T : u_T} {N : Nat} (hci : vwCl[ci]? = some (y.cls, T, N)) (hn : av.length = n) (hst0 : st0 = av.reverse ++ .ref b :: st) (hrm : (st.map fun v => v.category).sum ≤ 8) (hlev : M2.2.2.2.2.2.1 + 1 ≤ M.2.2.2.2.2.1) (hcs : cells + M2.2.2.2.2.2.2.1 ≤ M.2.2.2.2.2.2.1 ∧ slots + M2.2.2.2.2.2.2.2 ≤ M.2.2.2.2.2.2.2) (hd : decode M.1 pc = .ok (.invokevirtual idx, 3)) (kk : ∀ x h1, Z Y M (cells + M2.2.2.2.2.2.2.1) (slots + M2.2.2.2.2.2.2.2) (pc + 3) lv (.int x :: st) h1 (K x h1)) : Z Y M cells slots pc lv st0 h (zoc h b ci (zcI r K)) := by
  obtain ⟨⟨p, l, e, R, s, m, args, below, meth, c⟩, D, A, Q⟩ := Y
  intro o1 o2 v h' hr hz H locs ls hR hS hv
  obtain ⟨fsb, hb1, hr⟩ := zgO_some hr
  obtain ⟨x, h1, hr0, hr⟩ := zcI_some hr
  subst hst0
  have hM' := hM l D rfl rfl _ h1 hr0
  obtain ⟨u1, u2, u3, u4⟩ := hu
  have w5 := o1.2.2.2.2.2.1
  have w6 := o1.2.2.2.2.2.2.1
  have w5c := w5
  have hG := zcode_nil u1
  have hRo : (zrm M2).frames + 1 ≤ R.frames ∧ 8 + (M2.2.2.2.1 + 11) + (zrm M2).locals ≤ R.locals := by
    refine ⟨?_, ?_⟩
    · show M2.2.2.2.2.2.1 + 1 + 1 ≤ _
      omega
    · show 8 + (M2.2.2.2.1 + 11) + 60 * (M2.2.2.2.2.2.1 + 1) ≤ _
      omega
  have hfit : cells + M2.2.2.2.2.2.2.1 ≤ R.cells ∧ slots + M2.2.2.2.2.2.2.2 ≤ R.slots := ⟨Nat.le_trans hcs.1 w6.2.2.1, Nat.le_trans hcs.2 w6.2.2.2⟩
  have hAA := hR.zA hS o1.2.2.2.2.2.2.2.2
  have hRecv : ∃ cellB : Cell, H[b]? = some cellB ∧ cellB.vm.isStatics = false ∧ s.vm.findClass y.cls = some cellB.cls := by
    obtain ⟨z1, ws, hP, hD, m1, m2⟩ := id hR
    obtain ⟨k0, hk0⟩ := m1 b _ hb1
    exact va_recv o1.2.2.2.2.2.2.2.1.1 hP hci hk0
  have hPre : ∀ U : State, U.heap = H → s.WarmedH U.vm → zPc D ((.ref b :: av)) h ((.ref b :: av)).toArray U := fun U hU hW => ⟨rfl, by rw [hU]; exact hR.narrow, zK.warm hW hAA (fun a q1 q2 => by rw [hU]; exact hS.2.1 a q1 q2) o1.2.2.2.2.2.2.2.1⟩
  have hst' : (F0 m pc ls (av.reverse ++ .ref b :: st)).stack = av.reverse ++ .ref b :: st := rfl
  have hrun := va_runV (e := e) (locs := locs) (below := below) (meth := meth) (g := F0 m pc ls (av.reverse ++ .ref b :: st)) (Ts := zTb) (C := y.cls) (b := b) (As := av) (rest := st) ⟨o1.1, o1.2.1, o1.2.2.1, o1.2.2.2.1, w5⟩ hM' ⟨callB_of (ws' := zTb) n w5c hG rfl rfl rfl (w5 _ u2) (w5 _ hl) u3 hRo, w5 _ hsx, w5 _ hse⟩ ⟨zPc.blind, hRecv, hPre⟩ rfl hn hv.1 hst' (lv_room hrm) hd hfit
  intro T hT X
  obtain ⟨v0, st₀, t, T', L, h0, X', hL, e1, e2, ⟨⟨hv0, hRt, hzt⟩, hFz, hFk⟩, stp⟩ := hrun T hT X
  cases hv0
  rw [h0] at hFz hFk
  have hS' : va_S A s.heap T'.heap (locs ++ L) := ⟨Nat.le_trans hS.1 (by rw [e1]; exact hFz), fun q q1 q2 => by rw [e1, hFk q (Nat.lt_of_lt_of_le q1 hS.1) (fun z => q2 (hAA q z))]; exact hS.2.1 q q1 q2, fun q hq => by
    rcases List.mem_append.mp hq with hh | hh
    · exact hS.2.2 q hh
    · exact hAA _ (hL q hh)⟩
  have hR' : zRel D A h1 T'.heap := by rw [e1]; exact hRt.weaken hAA
  obtain ⟨t2, a1, b1⟩ := kk x h1 o1 o2 v h' hr (by rw [hzt, hz]; omega) T'.heap (locs ++ L) ls hR' hS' hv T' rfl X'
  exact ⟨t2, stp t2 a1, b1⟩
theorem z_callV_J {y : MethodName} {M2 : zM} {n idx : Nat} {b : Nat} {K : Int64 → zH → zR} (av : List Value) {st0 : List Value} (hM : ∀ (l : Launch) (D : zD), l = Y.1.2.1 → D = Y.2.1 → zMet l D y M2 (.ref b :: av) h r) (hu : zCal y M2 n) (hl : Cond.methodLink M.2.1 idx y ∈ zTb) (hsx : Cond.instanceMethod y ∈ zTb) (hse : Cond.selects y.cls y y ∈ zTb) {ci : Nat} {T : u_T} {N : Nat} (hci : vwCl[ci]? = some (y.cls, T, N)) (hn : av.length = n) (hst0 : st0 = av.reverse ++ .ref b :: st) (hrm : (st.map fun v => v.category).sum ≤ 8) (hlev : M2.2.2.2.2.2.1 + 1 ≤ M.2.2.2.2.2.1) (hcs : cells + M2.2.2.2.2.2.2.1 ≤ M.2.2.2.2.2.2.1 ∧ slots + M2.2.2.2.2.2.2.2 ≤ M.2.2.2.2.2.2.2) (hd : decode M.1 pc = .ok (.invokevirtual idx, 3)) (kk : ∀ x h1, Z Y M (cells + M2.2.2.2.2.2.2.1) (slots + M2.2.2.2.2.2.2.2) (pc + 3) lv (.long x :: st) h1 (K x h1)) : Z Y M cells slots pc lv st0 h (zoc h b ci (zcJ r K)) := by
  obtain ⟨⟨p, l, e, R, s, m, args, below, meth, c⟩, D, A, Q⟩ := Y
  intro o1 o2 v h' hr hz H locs ls hR hS hv
  obtain ⟨fsb, hb1, hr⟩ := zgO_some hr
  obtain ⟨x, h1, hr0, hr⟩ := zcJ_some hr
  subst hst0
  have hM' := hM l D rfl rfl _ h1 hr0
  obtain ⟨u1, u2, u3, u4⟩ := hu
  have w5 := o1.2.2.2.2.2.1
  have w6 := o1.2.2.2.2.2.2.1
  have w5c := w5
  have hG := zcode_nil u1
  have hRo : (zrm M2).frames + 1 ≤ R.frames ∧ 8 + (M2.2.2.2.1 + 11) + (zrm M2).locals ≤ R.locals := by
    refine ⟨?_, ?_⟩
    · show M2.2.2.2.2.2.1 + 1 + 1 ≤ _
      omega
    · show 8 + (M2.2.2.2.1 + 11) + 60 * (M2.2.2.2.2.2.1 + 1) ≤ _
      omega
  have hfit : cells + M2.2.2.2.2.2.2.1 ≤ R.cells ∧ slots + M2.2.2.2.2.2.2.2 ≤ R.slots := ⟨Nat.le_trans hcs.1 w6.2.2.1, Nat.le_trans hcs.2 w6.2.2.2⟩
  have hAA := hR.zA hS o1.2.2.2.2.2.2.2.2
  have hRecv : ∃ cellB : Cell, H[b]? = some cellB ∧ cellB.vm.isStatics = false ∧ s.vm.findClass y.cls = some cellB.cls := by
    obtain ⟨z1, ws, hP, hD, m1, m2⟩ := id hR
    obtain ⟨k0, hk0⟩ := m1 b _ hb1
    exact va_recv o1.2.2.2.2.2.2.2.1.1 hP hci hk0
  have hPre : ∀ U : State, U.heap = H → s.WarmedH U.vm → zPc D ((.ref b :: av)) h ((.ref b :: av)).toArray U := fun U hU hW => ⟨rfl, by rw [hU]; exact hR.narrow, zK.warm hW hAA (fun a q1 q2 => by rw [hU]; exact hS.2.1 a q1 q2) o1.2.2.2.2.2.2.2.1⟩
  have hst' : (F0 m pc ls (av.reverse ++ .ref b :: st)).stack = av.reverse ++ .ref b :: st := rfl
  have hrun := va_runV (e := e) (locs := locs) (below := below) (meth := meth) (g := F0 m pc ls (av.reverse ++ .ref b :: st)) (Ts := zTb) (C := y.cls) (b := b) (As := av) (rest := st) ⟨o1.1, o1.2.1, o1.2.2.1, o1.2.2.2.1, w5⟩ hM' ⟨callB_of (ws' := zTb) n w5c hG rfl rfl rfl (w5 _ u2) (w5 _ hl) u3 hRo, w5 _ hsx, w5 _ hse⟩ ⟨zPc.blind, hRecv, hPre⟩ rfl hn hv.1 hst' (lv_room hrm) hd hfit
  intro T hT X
  obtain ⟨v0, st₀, t, T', L, h0, X', hL, e1, e2, ⟨⟨hv0, hRt, hzt⟩, hFz, hFk⟩, stp⟩ := hrun T hT X
  cases hv0
  rw [h0] at hFz hFk
  have hS' : va_S A s.heap T'.heap (locs ++ L) := ⟨Nat.le_trans hS.1 (by rw [e1]; exact hFz), fun q q1 q2 => by rw [e1, hFk q (Nat.lt_of_lt_of_le q1 hS.1) (fun z => q2 (hAA q z))]; exact hS.2.1 q q1 q2, fun q hq => by
    rcases List.mem_append.mp hq with hh | hh
    · exact hS.2.2 q hh
    · exact hAA _ (hL q hh)⟩
  have hR' : zRel D A h1 T'.heap := by rw [e1]; exact hRt.weaken hAA
  obtain ⟨t2, a1, b1⟩ := kk x h1 o1 o2 v h' hr (by rw [hzt, hz]; omega) T'.heap (locs ++ L) ls hR' hS' hv T' rfl X'
  exact ⟨t2, stp t2 a1, b1⟩
theorem z_callV_V {y : MethodName} {M2 : zM} {n idx : Nat} {b : Nat} {K : zH → zR} (av : List Value) {st0 : List Value} (hM : ∀ (l : Launch) (D : zD), l = Y.1.2.1 → D = Y.2.1 → zMet l D y M2 (.ref b :: av) h r) (hu : zCal y M2 n) (hl : Cond.methodLink M.2.1 idx y ∈ zTb) (hsx : Cond.instanceMethod y ∈ zTb) (hse : Cond.selects y.cls y y ∈ zTb) {ci : Nat} {T : u_T} {N : Nat} (hci : vwCl[ci]? = some (y.cls, T, N)) (hn : av.length = n) (hst0 : st0 = av.reverse ++ .ref b :: st) (hrm : (st.map fun v => v.category).sum ≤ 8) (hlev : M2.2.2.2.2.2.1 + 1 ≤ M.2.2.2.2.2.1) (hcs : cells + M2.2.2.2.2.2.2.1 ≤ M.2.2.2.2.2.2.1 ∧ slots + M2.2.2.2.2.2.2.2 ≤ M.2.2.2.2.2.2.2) (hd : decode M.1 pc = .ok (.invokevirtual idx, 3)) (kk : ∀ h1, Z Y M (cells + M2.2.2.2.2.2.2.1) (slots + M2.2.2.2.2.2.2.2) (pc + 3) lv (st) h1 (K h1)) : Z Y M cells slots pc lv st0 h (zoc h b ci (zcV r K)) := by
  obtain ⟨⟨p, l, e, R, s, m, args, below, meth, c⟩, D, A, Q⟩ := Y
  intro o1 o2 v h' hr hz H locs ls hR hS hv
  obtain ⟨fsb, hb1, hr⟩ := zgO_some hr
  obtain ⟨h1, hr0, hr⟩ := zcV_some hr
  subst hst0
  have hM' := hM l D rfl rfl _ h1 hr0
  obtain ⟨u1, u2, u3, u4⟩ := hu
  have w5 := o1.2.2.2.2.2.1
  have w6 := o1.2.2.2.2.2.2.1
  have w5c := w5
  have hG := zcode_nil u1
  have hRo : (zrm M2).frames + 1 ≤ R.frames ∧ 8 + (M2.2.2.2.1 + 11) + (zrm M2).locals ≤ R.locals := by
    refine ⟨?_, ?_⟩
    · show M2.2.2.2.2.2.1 + 1 + 1 ≤ _
      omega
    · show 8 + (M2.2.2.2.1 + 11) + 60 * (M2.2.2.2.2.2.1 + 1) ≤ _
      omega
  have hfit : cells + M2.2.2.2.2.2.2.1 ≤ R.cells ∧ slots + M2.2.2.2.2.2.2.2 ≤ R.slots := ⟨Nat.le_trans hcs.1 w6.2.2.1, Nat.le_trans hcs.2 w6.2.2.2⟩
  have hAA := hR.zA hS o1.2.2.2.2.2.2.2.2
  have hRecv : ∃ cellB : Cell, H[b]? = some cellB ∧ cellB.vm.isStatics = false ∧ s.vm.findClass y.cls = some cellB.cls := by
    obtain ⟨z1, ws, hP, hD, m1, m2⟩ := id hR
    obtain ⟨k0, hk0⟩ := m1 b _ hb1
    exact va_recv o1.2.2.2.2.2.2.2.1.1 hP hci hk0
  have hPre : ∀ U : State, U.heap = H → s.WarmedH U.vm → zPc D ((.ref b :: av)) h ((.ref b :: av)).toArray U := fun U hU hW => ⟨rfl, by rw [hU]; exact hR.narrow, zK.warm hW hAA (fun a q1 q2 => by rw [hU]; exact hS.2.1 a q1 q2) o1.2.2.2.2.2.2.2.1⟩
  have hst' : (F0 m pc ls (av.reverse ++ .ref b :: st)).stack = av.reverse ++ .ref b :: st := rfl
  have hrun := va_runV (e := e) (locs := locs) (below := below) (meth := meth) (g := F0 m pc ls (av.reverse ++ .ref b :: st)) (Ts := zTb) (C := y.cls) (b := b) (As := av) (rest := st) ⟨o1.1, o1.2.1, o1.2.2.1, o1.2.2.2.1, w5⟩ hM' ⟨callB_of (ws' := zTb) n w5c hG rfl rfl rfl (w5 _ u2) (w5 _ hl) u3 hRo, w5 _ hsx, w5 _ hse⟩ ⟨zPc.blind, hRecv, hPre⟩ rfl hn hv.1 hst' (lv_room hrm) hd hfit
  intro T hT X
  obtain ⟨v0, st₀, t, T', L, h0, X', hL, e1, e2, ⟨⟨hv0, hRt, hzt⟩, hFz, hFk⟩, stp⟩ := hrun T hT X
  cases hv0
  rw [h0] at hFz hFk
  have hS' : va_S A s.heap T'.heap (locs ++ L) := ⟨Nat.le_trans hS.1 (by rw [e1]; exact hFz), fun q q1 q2 => by rw [e1, hFk q (Nat.lt_of_lt_of_le q1 hS.1) (fun z => q2 (hAA q z))]; exact hS.2.1 q q1 q2, fun q hq => by
    rcases List.mem_append.mp hq with hh | hh
    · exact hS.2.2 q hh
    · exact hAA _ (hL q hh)⟩
  have hR' : zRel D A h1 T'.heap := by rw [e1]; exact hRt.weaken hAA
  obtain ⟨t2, a1, b1⟩ := kk h1 o1 o2 v h' hr (by rw [hzt, hz]; omega) T'.heap (locs ++ L) ls hR' hS' hv T' rfl X'
  exact ⟨t2, stp t2 a1, b1⟩
theorem z_callI_V {y : MethodName} {M2 : zM} {n idx : Nat} {b : Nat} {K : zH → zR} (av : List Value) {st0 : List Value} (hM : ∀ (l : Launch) (D : zD), l = Y.1.2.1 → D = Y.2.1 → zMet l D y M2 (.ref b :: av) h r) (hu : zCal y M2 n) (hl : Cond.methodLink M.2.1 idx y ∈ zTb) (hsx : Cond.instanceMethod y ∈ zTb) (hyi : y.name = "<init>") (hret : M2.2.2.2.2.1 = none) (hn : av.length = n) (hst0 : st0 = av.reverse ++ .ref b :: st) (hrm : (st.map fun v => v.category).sum ≤ 8) (hlev : M2.2.2.2.2.2.1 + 1 ≤ M.2.2.2.2.2.1) (hcs : cells + M2.2.2.2.2.2.2.1 ≤ M.2.2.2.2.2.2.1 ∧ slots + M2.2.2.2.2.2.2.2 ≤ M.2.2.2.2.2.2.2) (hd : decode M.1 pc = .ok (.invokespecial idx, 3)) (kk : ∀ h1, Z Y M (cells + M2.2.2.2.2.2.2.1) (slots + M2.2.2.2.2.2.2.2) (pc + 3) lv (st) h1 (K h1)) : Z Y M cells slots pc lv st0 h (zcV r K) := by
  obtain ⟨⟨p, l, e, R, s, m, args, below, meth, c⟩, D, A, Q⟩ := Y
  intro o1 o2 v h' hr hz H locs ls hR hS hv
  obtain ⟨h1, hr0, hr⟩ := zcV_some hr
  subst hst0
  have hM' := hM l D rfl rfl _ h1 hr0
  obtain ⟨u1, u2, u3, u4⟩ := hu
  rw [hret] at u1 hM'
  have w5 := o1.2.2.2.2.2.1
  have w6 := o1.2.2.2.2.2.2.1
  have w5c := w5
  have hG := zcode_nil u1
  have hRo : (zrm M2).frames + 1 ≤ R.frames ∧ 8 + (M2.2.2.2.1 + 11) + (zrm M2).locals ≤ R.locals := by
    refine ⟨?_, ?_⟩
    · show M2.2.2.2.2.2.1 + 1 + 1 ≤ _
      omega
    · show 8 + (M2.2.2.2.1 + 11) + 60 * (M2.2.2.2.2.2.1 + 1) ≤ _
      omega
  have hfit : cells + M2.2.2.2.2.2.2.1 ≤ R.cells ∧ slots + M2.2.2.2.2.2.2.2 ≤ R.slots := ⟨Nat.le_trans hcs.1 w6.2.2.1, Nat.le_trans hcs.2 w6.2.2.2⟩
  have hAA := hR.zA hS o1.2.2.2.2.2.2.2.2
  have hPre : ∀ U : State, U.heap = H → s.WarmedH U.vm → zPc D ((.ref b :: av)) h ((.ref b :: av)).toArray U := fun U hU hW => ⟨rfl, by rw [hU]; exact hR.narrow, zK.warm hW hAA (fun a q1 q2 => by rw [hU]; exact hS.2.1 a q1 q2) o1.2.2.2.2.2.2.2.1⟩
  have hst' : (F0 m pc ls (av.reverse ++ .ref b :: st)).stack = av.reverse ++ .ref b :: st := rfl
  have hrun := va_runI (e := e) (locs := locs) (below := below) (meth := meth) (g := F0 m pc ls (av.reverse ++ .ref b :: st)) (Ts := zTb) (b := b) (As := av) (rest := st) ⟨o1.1, o1.2.1, o1.2.2.1, o1.2.2.2.1, w5⟩ hM' ⟨callB_of (ws' := zTb) n w5c hG rfl rfl rfl (w5 _ u2) (w5 _ hl) u3 hRo, hyi, w5 _ hsx⟩ ⟨zPc.blind, hPre⟩ rfl hn hv.1 hst' (lv_room hrm) hd hfit
  intro T hT X
  obtain ⟨v0, st₀, t, T', L, h0, X', hL, e1, e2, ⟨⟨hv0, hRt, hzt⟩, hFz, hFk⟩, stp⟩ := hrun T hT X
  cases hv0
  rw [h0] at hFz hFk
  have hS' : va_S A s.heap T'.heap (locs ++ L) := ⟨Nat.le_trans hS.1 (by rw [e1]; exact hFz), fun q q1 q2 => by rw [e1, hFk q (Nat.lt_of_lt_of_le q1 hS.1) (fun z => q2 (hAA q z))]; exact hS.2.1 q q1 q2, fun q hq => by
    rcases List.mem_append.mp hq with hh | hh
    · exact hS.2.2 q hh
    · exact hAA _ (hL q hh)⟩
  have hR' : zRel D A h1 T'.heap := by rw [e1]; exact hRt.weaken hAA
  obtain ⟨t2, a1, b1⟩ := kk h1 o1 o2 v h' hr (by rw [hzt, hz]; omega) T'.heap (locs ++ L) ls hR' hS' hv T' rfl X'
  exact ⟨t2, stp t2 a1, b1⟩
theorem z_callIN_V {y : MethodName} {M2 : zM} {n idx : Nat} {b : Nat} {K : zH → zR} (av : List Value) {st0 : List Value} (hM : ∀ (l : Launch) (D : zD), l = Y.1.2.1 → D = Y.2.1 → zMet l D y M2 (.ref b :: av) h r) (hu : zCal y M2 n) (hl : (M.2.1, idx, y) ∈ zNest) (hsx : Cond.instanceMethod y ∈ zTb) (hyi : y.name = "<init>") (hret : M2.2.2.2.2.1 = none) (hn : av.length = n) (hst0 : st0 = av.reverse ++ .ref b :: st) (hrm : (st.map fun v => v.category).sum ≤ 8) (hlev : M2.2.2.2.2.2.1 + 1 ≤ M.2.2.2.2.2.1) (hcs : cells + M2.2.2.2.2.2.2.1 ≤ M.2.2.2.2.2.2.1 ∧ slots + M2.2.2.2.2.2.2.2 ≤ M.2.2.2.2.2.2.2) (hd : decode M.1 pc = .ok (.invokespecial idx, 3)) (kk : ∀ h1, Z Y M (cells + M2.2.2.2.2.2.2.1) (slots + M2.2.2.2.2.2.2.2) (pc + 3) lv (st) h1 (K h1)) : Z Y M cells slots pc lv st0 h (zcV r K) := by
  obtain ⟨⟨p, l, e, R, s, m, args, below, meth, c⟩, D, A, Q⟩ := Y
  intro o1 o2 v h' hr hz H locs ls hR hS hv
  obtain ⟨h1, hr0, hr⟩ := zcV_some hr
  subst hst0
  have hM' := hM l D rfl rfl _ h1 hr0
  obtain ⟨u1, u2, u3, u4⟩ := hu
  rw [hret] at u1 hM'
  have w5 := o1.2.2.2.2.2.1
  have w6 := o1.2.2.2.2.2.2.1
  have w5c := w5
  have hG := zcode_nil u1
  have hRo : (zrm M2).frames + 1 ≤ R.frames ∧ 8 + (M2.2.2.2.1 + 11) + (zrm M2).locals ≤ R.locals := by
    refine ⟨?_, ?_⟩
    · show M2.2.2.2.2.2.1 + 1 + 1 ≤ _
      omega
    · show 8 + (M2.2.2.2.1 + 11) + 60 * (M2.2.2.2.2.2.1 + 1) ≤ _
      omega
  have hfit : cells + M2.2.2.2.2.2.2.1 ≤ R.cells ∧ slots + M2.2.2.2.2.2.2.2 ≤ R.slots := ⟨Nat.le_trans hcs.1 w6.2.2.1, Nat.le_trans hcs.2 w6.2.2.2⟩
  have hAA := hR.zA hS o1.2.2.2.2.2.2.2.2
  have hPre : ∀ U : State, U.heap = H → s.WarmedH U.vm → zPc D ((.ref b :: av)) h ((.ref b :: av)).toArray U := fun U hU hW => ⟨rfl, by rw [hU]; exact hR.narrow, zK.warm hW hAA (fun a q1 q2 => by rw [hU]; exact hS.2.1 a q1 q2) o1.2.2.2.2.2.2.2.1⟩
  have hst' : (F0 m pc ls (av.reverse ++ .ref b :: st)).stack = av.reverse ++ .ref b :: st := rfl
  have hrun := va_runIN (e := e) (locs := locs) (below := below) (meth := meth) (g := F0 m pc ls (av.reverse ++ .ref b :: st)) (Ts := zTb) (host := "PaperDolls") (b := b) (As := av) (rest := st) ⟨o1.1, o1.2.1, o1.2.2.1, o1.2.2.2.1, w5⟩ hM' ⟨va_cnB (ws' := zTb) n w5c hG rfl rfl rfl (o1.2.2.2.2.2.2.2.1.2.1 _ hl) (w5 _ u2) u3 hRo, hyi, w5 _ hsx⟩ ⟨zPc.blind, hPre⟩ rfl hn hv.1 hst' (lv_room hrm) hd hfit
  intro T hT X
  obtain ⟨v0, st₀, t, T', L, h0, X', hL, e1, e2, ⟨⟨hv0, hRt, hzt⟩, hFz, hFk⟩, stp⟩ := hrun T hT X
  cases hv0
  rw [h0] at hFz hFk
  have hS' : va_S A s.heap T'.heap (locs ++ L) := ⟨Nat.le_trans hS.1 (by rw [e1]; exact hFz), fun q q1 q2 => by rw [e1, hFk q (Nat.lt_of_lt_of_le q1 hS.1) (fun z => q2 (hAA q z))]; exact hS.2.1 q q1 q2, fun q hq => by
    rcases List.mem_append.mp hq with hh | hh
    · exact hS.2.2 q hh
    · exact hAA _ (hL q hh)⟩
  have hR' : zRel D A h1 T'.heap := by rw [e1]; exact hRt.weaken hAA
  obtain ⟨t2, a1, b1⟩ := kk h1 o1 o2 v h' hr (by rw [hzt, hz]; omega) T'.heap (locs ++ L) ls hR' hS' hv T' rfl X'
  exact ⟨t2, stp t2 a1, b1⟩
theorem z_callSN_I {y : MethodName} {M2 : zM} {n idx : Nat} {K : Int32 → zH → zR} (av : List Value) {st0 : List Value} (hM : ∀ (l : Launch) (D : zD), l = Y.1.2.1 → D = Y.2.1 → zMet l D y M2 av h r) (hu : zCal y M2 n) (hl : (M.2.1, idx, y) ∈ zNest) (hsx : Cond.static y ∈ zTb) (hn : av.length = n) (hst0 : st0 = av.reverse ++ st) (hrm : (st.map fun v => v.category).sum ≤ 8) (hlev : M2.2.2.2.2.2.1 + 1 ≤ M.2.2.2.2.2.1) (hcs : cells + M2.2.2.2.2.2.2.1 ≤ M.2.2.2.2.2.2.1 ∧ slots + M2.2.2.2.2.2.2.2 ≤ M.2.2.2.2.2.2.2) (hd : decode M.1 pc = .ok (.invokestatic idx, 3)) (kk : ∀ x h1, Z Y M (cells + M2.2.2.2.2.2.2.1) (slots + M2.2.2.2.2.2.2.2) (pc + 3) lv (.int x :: st) h1 (K x h1)) : Z Y M cells slots pc lv st0 h (zcI r K) := by
  obtain ⟨⟨p, l, e, R, s, m, args, below, meth, c⟩, D, A, Q⟩ := Y
  intro o1 o2 v h' hr hz H locs ls hR hS hv
  obtain ⟨x, h1, hr0, hr⟩ := zcI_some hr
  subst hst0
  have hM' := hM l D rfl rfl _ h1 hr0
  obtain ⟨u1, u2, u3, u4⟩ := hu
  have w5 := o1.2.2.2.2.2.1
  have w6 := o1.2.2.2.2.2.2.1
  have w5c := w5
  have hG := zcode_nil u1
  have hRo : (zrm M2).frames + 1 ≤ R.frames ∧ 8 + (M2.2.2.2.1 + 11) + (zrm M2).locals ≤ R.locals := by
    refine ⟨?_, ?_⟩
    · show M2.2.2.2.2.2.1 + 1 + 1 ≤ _
      omega
    · show 8 + (M2.2.2.2.1 + 11) + 60 * (M2.2.2.2.2.2.1 + 1) ≤ _
      omega
  have hfit : cells + M2.2.2.2.2.2.2.1 ≤ R.cells ∧ slots + M2.2.2.2.2.2.2.2 ≤ R.slots := ⟨Nat.le_trans hcs.1 w6.2.2.1, Nat.le_trans hcs.2 w6.2.2.2⟩
  have hAA := hR.zA hS o1.2.2.2.2.2.2.2.2
  have hPre : ∀ U : State, U.heap = H → s.WarmedH U.vm → zPc D (av) h (av).toArray U := fun U hU hW => ⟨rfl, by rw [hU]; exact hR.narrow, zK.warm hW hAA (fun a q1 q2 => by rw [hU]; exact hS.2.1 a q1 q2) o1.2.2.2.2.2.2.2.1⟩
  have hst' : (F0 m pc ls (av.reverse ++ st)).stack = av.reverse ++ st := rfl
  have hrun := va_runSN (e := e) (locs := locs) (below := below) (meth := meth) (g := F0 m pc ls (av.reverse ++ st)) (Ts := zTb) (host := "PaperDolls") (As := av) (rest := st) ⟨o1.1, o1.2.1, o1.2.2.1, o1.2.2.2.1, w5⟩ hM' ⟨va_cnB (ws' := zTb) n w5c hG rfl rfl rfl (o1.2.2.2.2.2.2.2.1.2.1 _ hl) (w5 _ u2) u3 hRo, w5 _ hsx, trivial⟩ ⟨zPc.blind, hPre⟩ rfl hn hv.1 hst' (lv_room hrm) hd hfit
  intro T hT X
  obtain ⟨v0, st₀, t, T', L, h0, X', hL, e1, e2, ⟨⟨hv0, hRt, hzt⟩, hFz, hFk⟩, stp⟩ := hrun T hT X
  cases hv0
  rw [h0] at hFz hFk
  have hS' : va_S A s.heap T'.heap (locs ++ L) := ⟨Nat.le_trans hS.1 (by rw [e1]; exact hFz), fun q q1 q2 => by rw [e1, hFk q (Nat.lt_of_lt_of_le q1 hS.1) (fun z => q2 (hAA q z))]; exact hS.2.1 q q1 q2, fun q hq => by
    rcases List.mem_append.mp hq with hh | hh
    · exact hS.2.2 q hh
    · exact hAA _ (hL q hh)⟩
  have hR' : zRel D A h1 T'.heap := by rw [e1]; exact hRt.weaken hAA
  obtain ⟨t2, a1, b1⟩ := kk x h1 o1 o2 v h' hr (by rw [hzt, hz]; omega) T'.heap (locs ++ L) ls hR' hS' hv T' rfl X'
  exact ⟨t2, stp t2 a1, b1⟩
end ZC
theorem zMet.of {l : Launch} {D : zD} {y : MethodName} {M : zM} {av : List Value} {h : zH} {r : zR} (hy : plainName y.cls = true) (hn : M.2.1 = y.cls ∧ M.2.2.1 = y.name) (hav : (lg_sl av).length ≤ M.2.2.2.1) (k : ∀ Y : zY, l = Y.1.2.1 → D = Y.2.1 → Z Y M 0 0 0 (lv_args 0 av) [] h r) : zMet l D y M av h r := by
  intro v h' hr
  refine Met.ofW (cc := M.1) (maxL := M.2.2.2.1) (ret := M.2.2.2.2.1) hy rfl ?_
  intro p e s m args below meth c s₁ B hml hv
  obtain ⟨rfl, hR, hK⟩ := hv
  have hts := atoms_spec (ws := .code y M.1 M.2.2.2.1 M.2.2.2.2.1 :: zTb) B.pre
  have hlocks := B.notSynchronized
  have hA : ∀ q, s.heap.size ≤ q → zA h q := fun q hq => Or.inr (by rw [← hR.1]; exact hq)
  have o1 : zOk p (zrm M) s m av.toArray meth c D (zA h) M := ⟨B.exec, B.bytes, hml, by rw [hn.1]; exact findClass_of_methodNamed B.named, by rw [hn.2]; exact (name_of_methodNamed B.named B.method).1, fun w hw => hts w (List.mem_cons_of_mem _ hw), ⟨Nat.le_refl _, Nat.le_refl _, Nat.le_refl _, Nat.le_refl _⟩, hK, hA⟩
  have hq : ∀ (v : Option Value) (h1 : zH) (H : Heap) (locs : List Loc), h1.1 = s.heap.size + M.2.2.2.2.2.2.1 → zRel D (zA h) h1 H → va_S (zA h) s.heap H locs → ∀ t : State, t.heap = H → s.WarmedH t.vm → zQc D h M.2.2.2.2.2.2.1 v h1 av.toArray s (.returned v) t := fun v h1 H locs hz hR1 hS t ht hW => ⟨⟨rfl, by rw [ht]; exact hR1, by rw [hz, hR.1]⟩, hS.F ht⟩
  have o2 : zRets p l e (zrm M) s m av.toArray below meth c D (zA h) (fun v h' => MQ below (zQc D h M.2.2.2.2.2.2.1 v h') av.toArray s M.2.2.2.2.2.2.1 M.2.2.2.2.2.2.2 (zA h)) M := by
    refine ⟨?_, ?_, ?_⟩
    · intro ty v h1 H locs ls pc hret hnar hd hz hR1 hS
      exact W.zret B.exec B.bytes (B.returns.trans hret) hnar (hq _ h1 H locs hz hR1 hS) hS.2.2 hd
    · intro v h1 H locs ls pc hret hd hz hR1 hS
      exact W.lret B.exec B.bytes (B.returns.trans hret) (hq _ h1 H locs hz hR1 hS) hS.2.2 hd
    · intro h1 H locs ls pc hret hd hz hR1 hS
      exact W.vret B.exec B.bytes (B.returns.trans hret) (hq _ h1 H locs hz hR1 hS) hS.2.2 hd
  have hl := lv_entry av (n := M.2.2.2.1) hav
  rw [lg_entry_eq]
  exact k ((p, l, e, zrm M, s, m, av.toArray, below, meth, c), D, zA h, fun v h' => MQ below (zQc D h M.2.2.2.2.2.2.1 v h') av.toArray s M.2.2.2.2.2.2.1 M.2.2.2.2.2.2.2 (zA h)) rfl rfl o1 o2 v h' hr (by rw [hR.1]; rfl) s.heap [] _ hR va_S.rf hl
