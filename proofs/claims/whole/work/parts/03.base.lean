/-! MY OWN LAYER. The abstract heap: its size, and what lies at an address; a method's run as a pure function over it. -/
abbrev zD : Type := va_G × (Nat → ClassId) × (Nat → Nat) × (Nat → Nat)
abbrev zE : Type := (Nat × Nat × ((Nat → Int32) ⊕ (Nat → Option Nat))) ⊕ (Nat × List Value)
abbrev zH : Type := Nat × (Nat → Option zE)
abbrev zR : Type := Option (Option Value × zH)
abbrev zX : Type := Program × Launch × Env × Room × State × MethodId × Array Value × List Frame × Method × Code
abbrev zY : Type := zX × zD × (Nat → Prop) × (Option Value → zH → State → Prop)
/-- arrays by tag: 0 int, 1 byte, 2 boolean, 3 Wear, 4 Doll -/
def zTys (D : zD) : List (ClassId × FieldType) := [(D.2.1 0, .int), (D.2.1 1, .byte), (D.2.1 2, .boolean), (D.2.1 3, .object "PaperDolls$Wear"), (D.2.1 4, .object "PaperDolls$Doll")]
def zcell (D : zD) : zE → va_E
  | .inl (t, n, .inl f) => .inl (D.2.1 t, n, .inl f)
  | .inl (t, n, .inr g) => .inl (D.2.1 t, n, .inr (.inr (.inr (.inr g))))
  | .inr o => .inr o
def zRel (D : zD) (A : Nat → Prop) (h : zH) (H : Heap) : Prop := H.size = h.1 ∧ ∃ ws : va_W, va_P D.1 vwCl ws H ∧ va_D A ws ∧ (∀ (a : Nat) (e : zE), h.2 a = some e → ∃ k : Nat, ws[k]? = some (a, zcell D e)) ∧ ∀ (k : Nat) (q : Nat × va_E), ws[k]? = some q → ∃ e, h.2 q.1 = some e ∧ q.2 = zcell D e
def zNest : List (String × Nat × MethodName) := [("PaperDolls$Doll", 23, yX8_init), ("PaperDolls", 29, yX8_init), ("PaperDolls", 36, yX5_init), ("PaperDolls", 43, yX7_init), ("PaperDolls$MoveSearch", 21, yX8_init), ("PaperDolls$Reader", 101, yX9_within)]
def zStrs : List (Nat × String) := [(47, "doll"), (57, "piece"), (65, "on"), (71, "off"), (73, "mend")]
def zLen : List Nat := [4, 5, 2, 3, 4]
def zByt : List (List Int32) := [[100, 111, 108, 108], [112, 105, 101, 99, 101], [111, 110], [111, 102, 102], [109, 101, 110, 100]]
def zK (D : zD) (A : Nat → Prop) (U : State) : Prop := va_K D.1 vwCl (zTys D) U ∧ (∀ w ∈ zNest, va_Nw (.methodLinkNest w.1 w.2.1 w.2.2 "PaperDolls") U) ∧ va_AO "PaperDolls$Wear" U ∧ va_AO "PaperDolls$Doll" U
  ∧ vk_S 5 zLen zByt D.2.2.1 D.2.2.2 A U U.heap ∧ (∀ (i : Nat) (q : Nat × String), zStrs[i]? = some q → vk_R "PaperDolls$Reader" q.1 q.2 (D.2.2.1 i) U)
  ∧ va_Z "java/lang/String" "COMPACT_STRINGS" "Z" (.int 1) A U U.heap ∧ va_Zq "jdk/internal/util/Preconditions" "SIOOBE_FORMATTER" "Ljava/util/function/BiFunction;" A U U.heap
theorem zK.warm {D : zD} {A B : Nat → Prop} {s U : State} (hW : s.WarmedH U.vm) (hAB : ∀ q, B q → A q) (hq : ∀ a : Nat, a < s.heap.size → ¬ A a → U.heap[a]? = s.heap[a]?) (h : zK D A s) : zK D B U := by
  obtain ⟨h1, h2, h3, h4, h5, h6, h7, h8⟩ := h
  have hv := hW.alike
  exact ⟨va_K.moved hv h1, fun w hw => va_Nw.warmM hW (h2 w hw), va_AO.moved hv h3, va_AO.moved hv h4, vk_S.narrow (vk_S.kept (vk_S.moved hv h5) hq) hAB, fun i q hi => vk_R.warm hW (h6 i q hi), va_Z.narrow (va_Z.kept (va_Z.moved hv h7) hq) hAB, va_Zq.narrow (va_Zq.kept (va_Zq.moved hv h8) hq) hAB⟩
theorem zK.calling {D : zD} {A : Nat → Prop} {U : State} {g : JFrame} {mk : MethodId} {a : Array Value} (h : zK D A U) : zK D A (U.calling g mk a) := by
  obtain ⟨h1, h2, h3, h4, h5, h6, h7, h8⟩ := h
  have hv : U.vm.Alike (U.calling g mk a).vm := Vm.Alike.refl U.vm
  exact ⟨va_K.moved hv h1, fun w hw => va_Nw.same rfl rfl (h2 w hw), va_AO.moved hv h3, va_AO.moved hv h4, vk_S.moved hv h5, fun i q hi => vk_R.same rfl (h6 i q hi), va_Z.moved hv h7, va_Zq.moved hv h8⟩
/-- the machine's parts of a context -/
abbrev zW (X : zX) (H : Heap) (locs : List Loc) (cells slots : Nat) (Q : State → Prop) (g : JFrame) : Prop := W X.1 X.2.1 X.2.2.1 X.2.2.2.1 X.2.2.2.2.1 X.2.2.2.2.2.1 X.2.2.2.2.2.2.1 X.2.2.2.2.2.2.2.1 X.2.2.2.2.2.2.2.2.1 X.2.2.2.2.2.2.2.2.2 H locs cells slots Q g
/-- a method's fixed things: code, class, name, locals, answer, level, cells and slots in all -/
abbrev zM : Type := ByteArray × String × String × Nat × Option FieldType × Nat × Nat × Nat
def zOk (p : Program) (R : Room) (s : State) (m : MethodId) (args : Array Value) (meth : Method) (c : Code) (D : zD) (A : Nat → Prop) (M : zM) : Prop :=
  p.tables.exec = Jvm.exec ∧ c.code = M.1 ∧ c.maxLocals = M.2.2.2.1 ∧ s.vm.findClass M.2.1 = some m.cls ∧ meth.name = M.2.2.1 ∧ (∀ w ∈ zTb, w.before args s = true) ∧ (M.2.2.2.2.2.1 + 1 ≤ R.frames ∧ 60 * (M.2.2.2.2.2.1 + 1) ≤ R.locals ∧ M.2.2.2.2.2.2.1 ≤ R.cells ∧ M.2.2.2.2.2.2.2 ≤ R.slots) ∧ zK D A s ∧ ∀ q, s.heap.size ≤ q → A q
/-- what a return gives, by the kind of the answer -/
def zRets (p : Program) (l : Launch) (e : Env) (R : Room) (s : State) (m : MethodId) (args : Array Value) (below : List Frame) (meth : Method) (c : Code) (D : zD) (A : Nat → Prop) (Q : Option Value → zH → State → Prop) (M : zM) : Prop :=
  (∀ (ty : FieldType) (v : Int32) (h : zH) (H : Heap) (locs : List Loc) (ls : Array Slot) (pc : Nat), M.2.2.2.2.1 = some ty → narrow ty (.int v) = .int v → decode M.1 pc = .ok (.ireturn, 1) → h.1 = s.heap.size + M.2.2.2.2.2.2.1 → zRel D A h H → va_S A s.heap H locs → W p l e R s m args below meth c H locs M.2.2.2.2.2.2.1 M.2.2.2.2.2.2.2 (Q (some (.int v)) h) (F0 m pc ls [.int v]))
    ∧ (∀ (v : Int64) (h : zH) (H : Heap) (locs : List Loc) (ls : Array Slot) (pc : Nat), M.2.2.2.2.1 = some .long → decode M.1 pc = .ok (.lreturn, 1) → h.1 = s.heap.size + M.2.2.2.2.2.2.1 → zRel D A h H → va_S A s.heap H locs → W p l e R s m args below meth c H locs M.2.2.2.2.2.2.1 M.2.2.2.2.2.2.2 (Q (some (.long v)) h) (F0 m pc ls [.long v]))
    ∧ (∀ (h : zH) (H : Heap) (locs : List Loc) (ls : Array Slot) (pc : Nat), M.2.2.2.2.1 = none → decode M.1 pc = .ok (.return_, 1) → h.1 = s.heap.size + M.2.2.2.2.2.2.1 → zRel D A h H → va_S A s.heap H locs → W p l e R s m args below meth c H locs M.2.2.2.2.2.2.1 M.2.2.2.2.2.2.2 (Q none h) (F0 m pc ls []))
/-- the machine, at pc with locals lv and stack st over the heap h, comes to the end that r says -/
def Z (Y : zY) (M : zM) (cells slots pc : Nat) (lv : List (Nat × Value)) (st : List Value) (h : zH) (r : zR) : Prop := match Y with
  | ((p, l, e, R, s, m, args, below, meth, c), D, A, Q) => zOk p R s m args meth c D A M → zRets p l e R s m args below meth c D A Q M → ∀ (v : Option Value) (h' : zH), r = some (v, h') → h.1 = s.heap.size + cells → ∀ (H : Heap) (locs : List Loc) (ls : Array Slot), zRel D A h H → va_S A s.heap H locs → lv_has ls M.2.2.2.1 lv → W p l e R s m args below meth c H locs cells slots (Q v h') (F0 m pc ls st)
section ZB
variable {Y : zY} {M : zM} {cells slots pc : Nat} {lv lv' : List (Nat × Value)} {st : List Value} {h : zH} {r r1 r2 : zR}
theorem z_none : Z Y M cells slots pc lv st h none := by
  obtain ⟨⟨p, l, e, R, s, m, args, below, meth, c⟩, D, A, Q⟩ := Y
  intro _ _ v h' hr
  cases hr
theorem z_sub (ks : List Nat) (hl : lv_pick lv ks = lv') (k : Z Y M cells slots pc lv' st h r) : Z Y M cells slots pc lv st h r := by
  obtain ⟨⟨p, l, e, R, s, m, args, below, meth, c⟩, D, A, Q⟩ := Y
  intro o1 o2 v h' hr hz H locs ls hR hS hv
  exact k o1 o2 v h' hr hz H locs ls hR hS (lv_sub hv ks hl)
theorem z_ite {c : Prop} [Decidable c] (k1 : c → Z Y M cells slots pc lv st h r1) (k2 : ¬ c → Z Y M cells slots pc lv st h r2) : Z Y M cells slots pc lv st h (if c then r1 else r2) := by
  split
  · exact k1 ‹_›
  · exact k2 ‹_›
def zlt {α : Type} (x : α) (K : α → zR) : zR := K x
theorem z_let {x : Int32} {K : Int32 → zR} (k : ∀ y, Z Y M cells slots pc lv (.int y :: st) h (K y)) : Z Y M cells slots pc lv (.int x :: st) h (zlt x K) := k x
theorem z_letJ {x : Int64} {K : Int64 → zR} (k : ∀ y, Z Y M cells slots pc lv (.long y :: st) h (K y)) : Z Y M cells slots pc lv (.long x :: st) h (zlt x K) := k x
theorem z_iconst {n : Int} {x : Int32} (hd : decode M.1 pc = .ok (.iconst n, 1)) (hx : Int32.ofInt n = x) (k : Z Y M cells slots (pc + 1) lv (.int x :: st) h r) : Z Y M cells slots pc lv (st) h r := by
  obtain ⟨⟨p, l, e, R, s, m, args, below, meth, c⟩, D, A, Q⟩ := Y
  intro o1 o2 v h' hr hz H locs ls hR hS hv
  exact lv_iconst o1.1 o1.2.1 hd hx (k o1 o2 v h' hr hz H locs ls hR hS hv)
theorem z_bipush {n : Int} {x : Int32} (hd : decode M.1 pc = .ok (.bipush n, 2)) (hx : (Int8.ofInt n).toInt32 = x) (k : Z Y M cells slots (pc + 2) lv (.int x :: st) h r) : Z Y M cells slots pc lv (st) h r := by
  obtain ⟨⟨p, l, e, R, s, m, args, below, meth, c⟩, D, A, Q⟩ := Y
  intro o1 o2 v h' hr hz H locs ls hR hS hv
  exact lv_bipush o1.1 o1.2.1 hd hx (k o1 o2 v h' hr hz H locs ls hR hS hv)
theorem z_sipush {n : Int} {x : Int32} (hd : decode M.1 pc = .ok (.sipush n, 3)) (hx : (Int16.ofInt n).toInt32 = x) (k : Z Y M cells slots (pc + 3) lv (.int x :: st) h r) : Z Y M cells slots pc lv (st) h r := by
  obtain ⟨⟨p, l, e, R, s, m, args, below, meth, c⟩, D, A, Q⟩ := Y
  intro o1 o2 v h' hr hz H locs ls hR hS hv
  exact lv_sipush o1.1 o1.2.1 hd hx (k o1 o2 v h' hr hz H locs ls hR hS hv)
theorem z_lconst {n : Fin 2} {x : Int64} (hd : decode M.1 pc = .ok (.lconst n, 1)) (hx : Int64.ofNat (n : Nat) = x) (k : Z Y M cells slots (pc + 1) lv (.long x :: st) h r) : Z Y M cells slots pc lv (st) h r := by
  obtain ⟨⟨p, l, e, R, s, m, args, below, meth, c⟩, D, A, Q⟩ := Y
  intro o1 o2 v h' hr hz H locs ls hR hS hv
  exact lv_lconst o1.1 o1.2.1 hd hx (k o1 o2 v h' hr hz H locs ls hR hS hv)
theorem z_iload_n {i : Fin 4} {j : Nat} {x : Int32} (q : Nat) (hd : decode M.1 pc = .ok (.iload_n i, 1)) (hj : (i : Nat) = j) (hq : lv[q]? = some (j, .int x)) (k : Z Y M cells slots (pc + 1) lv (.int x :: st) h r) : Z Y M cells slots pc lv (st) h r := by
  obtain ⟨⟨p, l, e, R, s, m, args, below, meth, c⟩, D, A, Q⟩ := Y
  intro o1 o2 v h' hr hz H locs ls hR hS hv
  exact lv_iload_n o1.1 o1.2.1 hd hj (lv_at hv q hq) (k o1 o2 v h' hr hz H locs ls hR hS hv)
theorem z_iload {j : Nat} {x : Int32} (q : Nat) (hd : decode M.1 pc = .ok (.iload j, 2)) (hq : lv[q]? = some (j, .int x)) (k : Z Y M cells slots (pc + 2) lv (.int x :: st) h r) : Z Y M cells slots pc lv (st) h r := by
  obtain ⟨⟨p, l, e, R, s, m, args, below, meth, c⟩, D, A, Q⟩ := Y
  intro o1 o2 v h' hr hz H locs ls hR hS hv
  exact lv_iload o1.1 o1.2.1 hd (lv_at hv q hq) (k o1 o2 v h' hr hz H locs ls hR hS hv)
theorem z_lload_n {i : Fin 4} {j : Nat} {x : Int64} (q : Nat) (hd : decode M.1 pc = .ok (.lload_n i, 1)) (hj : (i : Nat) = j) (hq : lv[q]? = some (j, .long x)) (k : Z Y M cells slots (pc + 1) lv (.long x :: st) h r) : Z Y M cells slots pc lv (st) h r := by
  obtain ⟨⟨p, l, e, R, s, m, args, below, meth, c⟩, D, A, Q⟩ := Y
  intro o1 o2 v h' hr hz H locs ls hR hS hv
  exact lv_lload_n o1.1 o1.2.1 hd hj (lv_at hv q hq) (k o1 o2 v h' hr hz H locs ls hR hS hv)
theorem z_lload {j : Nat} {x : Int64} (q : Nat) (hd : decode M.1 pc = .ok (.lload j, 2)) (hq : lv[q]? = some (j, .long x)) (k : Z Y M cells slots (pc + 2) lv (.long x :: st) h r) : Z Y M cells slots pc lv (st) h r := by
  obtain ⟨⟨p, l, e, R, s, m, args, below, meth, c⟩, D, A, Q⟩ := Y
  intro o1 o2 v h' hr hz H locs ls hR hS hv
  exact lv_lload o1.1 o1.2.1 hd (lv_at hv q hq) (k o1 o2 v h' hr hz H locs ls hR hS hv)
theorem z_aload_n {i : Fin 4} {j : Nat} {x : Nat} (q : Nat) (hd : decode M.1 pc = .ok (.aload_n i, 1)) (hj : (i : Nat) = j) (hq : lv[q]? = some (j, .ref x)) (k : Z Y M cells slots (pc + 1) lv (.ref x :: st) h r) : Z Y M cells slots pc lv (st) h r := by
  obtain ⟨⟨p, l, e, R, s, m, args, below, meth, c⟩, D, A, Q⟩ := Y
  intro o1 o2 v h' hr hz H locs ls hR hS hv
  exact lv_aload_n o1.1 o1.2.1 hd hj (lv_at hv q hq) (k o1 o2 v h' hr hz H locs ls hR hS hv)
theorem z_aload {j : Nat} {x : Nat} (q : Nat) (hd : decode M.1 pc = .ok (.aload j, 2)) (hq : lv[q]? = some (j, .ref x)) (k : Z Y M cells slots (pc + 2) lv (.ref x :: st) h r) : Z Y M cells slots pc lv (st) h r := by
  obtain ⟨⟨p, l, e, R, s, m, args, below, meth, c⟩, D, A, Q⟩ := Y
  intro o1 o2 v h' hr hz H locs ls hR hS hv
  exact lv_aload o1.1 o1.2.1 hd (lv_at hv q hq) (k o1 o2 v h' hr hz H locs ls hR hS hv)
theorem z_istore_n {i : Fin 4} {j : Nat} {x : Int32} (hd : decode M.1 pc = .ok (.istore_n i, 1)) (hj : (i : Nat) = j) (hn : j < M.2.2.2.1) (hl : (j, Value.int x) :: lv.filter (fun q => !(q.1 == j) && !(q.1 + 1 == j && q.2.category == 2)) = lv') (k : Z Y M cells slots (pc + 1) lv' st h r) : Z Y M cells slots pc lv (.int x :: st) h r := by
  obtain ⟨⟨p, l, e, R, s, m, args, below, meth, c⟩, D, A, Q⟩ := Y
  intro o1 o2 v h' hr hz H locs ls hR hS hv
  exact lv_istore_n o1.1 o1.2.1 hd hj hv hn hl (fun ls hv => k o1 o2 v h' hr hz H locs ls hR hS hv)
theorem z_istore {j : Nat} {x : Int32} (hd : decode M.1 pc = .ok (.istore j, 2)) (hn : j < M.2.2.2.1) (hl : (j, Value.int x) :: lv.filter (fun q => !(q.1 == j) && !(q.1 + 1 == j && q.2.category == 2)) = lv') (k : Z Y M cells slots (pc + 2) lv' st h r) : Z Y M cells slots pc lv (.int x :: st) h r := by
  obtain ⟨⟨p, l, e, R, s, m, args, below, meth, c⟩, D, A, Q⟩ := Y
  intro o1 o2 v h' hr hz H locs ls hR hS hv
  exact lv_istore o1.1 o1.2.1 hd hv hn hl (fun ls hv => k o1 o2 v h' hr hz H locs ls hR hS hv)
theorem z_astore_n {i : Fin 4} {j : Nat} {x : Nat} (hd : decode M.1 pc = .ok (.astore_n i, 1)) (hj : (i : Nat) = j) (hn : j < M.2.2.2.1) (hl : (j, Value.ref x) :: lv.filter (fun q => !(q.1 == j) && !(q.1 + 1 == j && q.2.category == 2)) = lv') (k : Z Y M cells slots (pc + 1) lv' st h r) : Z Y M cells slots pc lv (.ref x :: st) h r := by
  obtain ⟨⟨p, l, e, R, s, m, args, below, meth, c⟩, D, A, Q⟩ := Y
  intro o1 o2 v h' hr hz H locs ls hR hS hv
  exact lv_astore_n o1.1 o1.2.1 hd hj hv hn hl (fun ls hv => k o1 o2 v h' hr hz H locs ls hR hS hv)
theorem z_astore {j : Nat} {x : Nat} (hd : decode M.1 pc = .ok (.astore j, 2)) (hn : j < M.2.2.2.1) (hl : (j, Value.ref x) :: lv.filter (fun q => !(q.1 == j) && !(q.1 + 1 == j && q.2.category == 2)) = lv') (k : Z Y M cells slots (pc + 2) lv' st h r) : Z Y M cells slots pc lv (.ref x :: st) h r := by
  obtain ⟨⟨p, l, e, R, s, m, args, below, meth, c⟩, D, A, Q⟩ := Y
  intro o1 o2 v h' hr hz H locs ls hR hS hv
  exact lv_astore o1.1 o1.2.1 hd hv hn hl (fun ls hv => k o1 o2 v h' hr hz H locs ls hR hS hv)
theorem z_lstore_n {i : Fin 4} {j : Nat} {x : Int64} (hd : decode M.1 pc = .ok (.lstore_n i, 1)) (hj : (i : Nat) = j) (hn : j + 1 < M.2.2.2.1) (hl : (j, Value.long x) :: lv.filter (fun q => !(q.1 == j) && (!(q.1 == j + 1) && !(q.1 + 1 == j && q.2.category == 2))) = lv') (k : Z Y M cells slots (pc + 1) lv' st h r) : Z Y M cells slots pc lv (.long x :: st) h r := by
  obtain ⟨⟨p, l, e, R, s, m, args, below, meth, c⟩, D, A, Q⟩ := Y
  intro o1 o2 v h' hr hz H locs ls hR hS hv
  exact lv_lstore_n o1.1 o1.2.1 hd hj hv hn hl (fun ls hv => k o1 o2 v h' hr hz H locs ls hR hS hv)
theorem z_lstore {j : Nat} {x : Int64} (hd : decode M.1 pc = .ok (.lstore j, 2)) (hn : j + 1 < M.2.2.2.1) (hl : (j, Value.long x) :: lv.filter (fun q => !(q.1 == j) && (!(q.1 == j + 1) && !(q.1 + 1 == j && q.2.category == 2))) = lv') (k : Z Y M cells slots (pc + 2) lv' st h r) : Z Y M cells slots pc lv (.long x :: st) h r := by
  obtain ⟨⟨p, l, e, R, s, m, args, below, meth, c⟩, D, A, Q⟩ := Y
  intro o1 o2 v h' hr hz H locs ls hR hS hv
  exact lv_lstore o1.1 o1.2.1 hd hv hn hl (fun ls hv => k o1 o2 v h' hr hz H locs ls hR hS hv)
theorem z_iinc {j : Nat} {n : Int} {x y : Int32} (q : Nat) (hd : decode M.1 pc = .ok (.iinc j n, 3)) (hq : lv[q]? = some (j, .int x)) (hy : x + Int32.ofInt n = y) (hn : j < M.2.2.2.1) (hl : (j, Value.int y) :: lv.filter (fun q => !(q.1 == j) && !(q.1 + 1 == j && q.2.category == 2)) = lv') (k : Z Y M cells slots (pc + 3) lv' st h r) : Z Y M cells slots pc lv st h r := by
  obtain ⟨⟨p, l, e, R, s, m, args, below, meth, c⟩, D, A, Q⟩ := Y
  intro o1 o2 v h' hr hz H locs ls hR hS hv
  exact lv_iinc o1.1 o1.2.1 hd hv hq hy hn hl (fun ls hv => k o1 o2 v h' hr hz H locs ls hR hS hv)
theorem z_iadd {x y : Int32} (hd : decode M.1 pc = .ok (.iadd, 1)) (k : Z Y M cells slots (pc + 1) lv (.int (x + y) :: st) h r) : Z Y M cells slots pc lv (.int y :: .int x :: st) h r := by
  obtain ⟨⟨p, l, e, R, s, m, args, below, meth, c⟩, D, A, Q⟩ := Y
  intro o1 o2 v h' hr hz H locs ls hR hS hv
  exact lv_iadd o1.1 o1.2.1 hd (k o1 o2 v h' hr hz H locs ls hR hS hv)
theorem z_isub {x y : Int32} (hd : decode M.1 pc = .ok (.isub, 1)) (k : Z Y M cells slots (pc + 1) lv (.int (x - y) :: st) h r) : Z Y M cells slots pc lv (.int y :: .int x :: st) h r := by
  obtain ⟨⟨p, l, e, R, s, m, args, below, meth, c⟩, D, A, Q⟩ := Y
  intro o1 o2 v h' hr hz H locs ls hR hS hv
  exact lv_isub o1.1 o1.2.1 hd (k o1 o2 v h' hr hz H locs ls hR hS hv)
theorem z_imul {x y : Int32} (hd : decode M.1 pc = .ok (.imul, 1)) (k : Z Y M cells slots (pc + 1) lv (.int (x * y) :: st) h r) : Z Y M cells slots pc lv (.int y :: .int x :: st) h r := by
  obtain ⟨⟨p, l, e, R, s, m, args, below, meth, c⟩, D, A, Q⟩ := Y
  intro o1 o2 v h' hr hz H locs ls hR hS hv
  exact lv_imul o1.1 o1.2.1 hd (k o1 o2 v h' hr hz H locs ls hR hS hv)
theorem z_iand {x y : Int32} (hd : decode M.1 pc = .ok (.iand, 1)) (k : Z Y M cells slots (pc + 1) lv (.int (x &&& y) :: st) h r) : Z Y M cells slots pc lv (.int y :: .int x :: st) h r := by
  obtain ⟨⟨p, l, e, R, s, m, args, below, meth, c⟩, D, A, Q⟩ := Y
  intro o1 o2 v h' hr hz H locs ls hR hS hv
  exact lv_iand o1.1 o1.2.1 hd (k o1 o2 v h' hr hz H locs ls hR hS hv)
theorem z_ior {x y : Int32} (hd : decode M.1 pc = .ok (.ior, 1)) (k : Z Y M cells slots (pc + 1) lv (.int (x ||| y) :: st) h r) : Z Y M cells slots pc lv (.int y :: .int x :: st) h r := by
  obtain ⟨⟨p, l, e, R, s, m, args, below, meth, c⟩, D, A, Q⟩ := Y
  intro o1 o2 v h' hr hz H locs ls hR hS hv
  exact lv_ior o1.1 o1.2.1 hd (k o1 o2 v h' hr hz H locs ls hR hS hv)
theorem z_ixor {x y : Int32} (hd : decode M.1 pc = .ok (.ixor, 1)) (k : Z Y M cells slots (pc + 1) lv (.int (x ^^^ y) :: st) h r) : Z Y M cells slots pc lv (.int y :: .int x :: st) h r := by
  obtain ⟨⟨p, l, e, R, s, m, args, below, meth, c⟩, D, A, Q⟩ := Y
  intro o1 o2 v h' hr hz H locs ls hR hS hv
  exact lv_ixor o1.1 o1.2.1 hd (k o1 o2 v h' hr hz H locs ls hR hS hv)
theorem z_ishl {x y : Int32} (hd : decode M.1 pc = .ok (.ishl, 1)) (k : Z Y M cells slots (pc + 1) lv (.int (x <<< (y &&& 31)) :: st) h r) : Z Y M cells slots pc lv (.int y :: .int x :: st) h r := by
  obtain ⟨⟨p, l, e, R, s, m, args, below, meth, c⟩, D, A, Q⟩ := Y
  intro o1 o2 v h' hr hz H locs ls hR hS hv
  exact lv_ishl o1.1 o1.2.1 hd (k o1 o2 v h' hr hz H locs ls hR hS hv)
theorem z_ishr {x y : Int32} (hd : decode M.1 pc = .ok (.ishr, 1)) (k : Z Y M cells slots (pc + 1) lv (.int (x >>> (y &&& 31)) :: st) h r) : Z Y M cells slots pc lv (.int y :: .int x :: st) h r := by
  obtain ⟨⟨p, l, e, R, s, m, args, below, meth, c⟩, D, A, Q⟩ := Y
  intro o1 o2 v h' hr hz H locs ls hR hS hv
  exact lv_ishr o1.1 o1.2.1 hd (k o1 o2 v h' hr hz H locs ls hR hS hv)
theorem z_iushr {x y : Int32} (hd : decode M.1 pc = .ok (.iushr, 1)) (k : Z Y M cells slots (pc + 1) lv (.int ((x.toUInt32 >>> (y.toUInt32 &&& Int32.toUInt32 31)).toInt32) :: st) h r) : Z Y M cells slots pc lv (.int y :: .int x :: st) h r := by
  obtain ⟨⟨p, l, e, R, s, m, args, below, meth, c⟩, D, A, Q⟩ := Y
  intro o1 o2 v h' hr hz H locs ls hR hS hv
  exact lv_iushr o1.1 o1.2.1 hd rfl (k o1 o2 v h' hr hz H locs ls hR hS hv)
theorem z_ladd {x y : Int64} (hd : decode M.1 pc = .ok (.ladd, 1)) (k : Z Y M cells slots (pc + 1) lv (.long (x + y) :: st) h r) : Z Y M cells slots pc lv (.long y :: .long x :: st) h r := by
  obtain ⟨⟨p, l, e, R, s, m, args, below, meth, c⟩, D, A, Q⟩ := Y
  intro o1 o2 v h' hr hz H locs ls hR hS hv
  exact lv_ladd o1.1 o1.2.1 hd (k o1 o2 v h' hr hz H locs ls hR hS hv)
theorem z_lmul {x y : Int64} (hd : decode M.1 pc = .ok (.lmul, 1)) (k : Z Y M cells slots (pc + 1) lv (.long (x * y) :: st) h r) : Z Y M cells slots pc lv (.long y :: .long x :: st) h r := by
  obtain ⟨⟨p, l, e, R, s, m, args, below, meth, c⟩, D, A, Q⟩ := Y
  intro o1 o2 v h' hr hz H locs ls hR hS hv
  exact lv_lmul o1.1 o1.2.1 hd (k o1 o2 v h' hr hz H locs ls hR hS hv)
theorem z_i2l {x : Int32} (hd : decode M.1 pc = .ok (.i2l, 1)) (k : Z Y M cells slots (pc + 1) lv (.long x.toInt64 :: st) h r) : Z Y M cells slots pc lv (.int x :: st) h r := by
  obtain ⟨⟨p, l, e, R, s, m, args, below, meth, c⟩, D, A, Q⟩ := Y
  intro o1 o2 v h' hr hz H locs ls hR hS hv
  exact lv_i2l o1.1 o1.2.1 hd rfl (k o1 o2 v h' hr hz H locs ls hR hS hv)
theorem z_l2i {x : Int64} (hd : decode M.1 pc = .ok (.l2i, 1)) (k : Z Y M cells slots (pc + 1) lv (.int x.toInt32 :: st) h r) : Z Y M cells slots pc lv (.long x :: st) h r := by
  obtain ⟨⟨p, l, e, R, s, m, args, below, meth, c⟩, D, A, Q⟩ := Y
  intro o1 o2 v h' hr hz H locs ls hR hS hv
  exact lv_l2i o1.1 o1.2.1 hd rfl (k o1 o2 v h' hr hz H locs ls hR hS hv)
theorem z_i2b {x : Int32} (hd : decode M.1 pc = .ok (.i2b, 1)) (k : Z Y M cells slots (pc + 1) lv (.int x.toInt8.toInt32 :: st) h r) : Z Y M cells slots pc lv (.int x :: st) h r := by
  obtain ⟨⟨p, l, e, R, s, m, args, below, meth, c⟩, D, A, Q⟩ := Y
  intro o1 o2 v h' hr hz H locs ls hR hS hv
  exact lv_i2b o1.1 o1.2.1 hd rfl (k o1 o2 v h' hr hz H locs ls hR hS hv)
theorem z_lcmp {x y : Int64} (hd : decode M.1 pc = .ok (.lcmp, 1)) (k : Z Y M cells slots (pc + 1) lv (.int (lg_cmp x y) :: st) h r) : Z Y M cells slots pc lv (.long y :: .long x :: st) h r := by
  obtain ⟨⟨p, l, e, R, s, m, args, below, meth, c⟩, D, A, Q⟩ := Y
  intro o1 o2 v h' hr hz H locs ls hR hS hv
  exact W.lcmp o1.1 o1.2.1 hd (k o1 o2 v h' hr hz H locs ls hR hS hv)
theorem z_dup {x : Value} (hd : decode M.1 pc = .ok (.dup, 1)) (hx : x.category = 1) (k : Z Y M cells slots (pc + 1) lv (x :: x :: st) h r) : Z Y M cells slots pc lv (x :: st) h r := by
  obtain ⟨⟨p, l, e, R, s, m, args, below, meth, c⟩, D, A, Q⟩ := Y
  intro o1 o2 v h' hr hz H locs ls hR hS hv
  exact lv_dup o1.1 o1.2.1 hd hx (k o1 o2 v h' hr hz H locs ls hR hS hv)
theorem z_pop {x : Value} (hd : decode M.1 pc = .ok (.pop, 1)) (hx : x.category = 1) (k : Z Y M cells slots (pc + 1) lv (st) h r) : Z Y M cells slots pc lv (x :: st) h r := by
  obtain ⟨⟨p, l, e, R, s, m, args, below, meth, c⟩, D, A, Q⟩ := Y
  intro o1 o2 v h' hr hz H locs ls hR hS hv
  exact lv_pop o1.1 o1.2.1 hd hx (k o1 o2 v h' hr hz H locs ls hR hS hv)
theorem z_dup2 {x y : Value} (hd : decode M.1 pc = .ok (.dup2, 1)) (hx : x.category = 1) (hy : y.category = 1) (k : Z Y M cells slots (pc + 1) lv (x :: y :: x :: y :: st) h r) : Z Y M cells slots pc lv (x :: y :: st) h r := by
  obtain ⟨⟨p, l, e, R, s, m, args, below, meth, c⟩, D, A, Q⟩ := Y
  intro o1 o2 v h' hr hz H locs ls hR hS hv
  exact lv_dup2_11 o1.1 o1.2.1 hd hx hy (k o1 o2 v h' hr hz H locs ls hR hS hv)
theorem z_ldc {i : Nat} {x : Int32} (hw : Cond.constant M.2.1 i x ∈ zTb) (hd : decode M.1 pc = .ok (.ldc i, 2)) (k : Z Y M cells slots (pc + 2) lv (.int x :: st) h r) : Z Y M cells slots pc lv (st) h r := by
  obtain ⟨⟨p, l, e, R, s, m, args, below, meth, c⟩, D, A, Q⟩ := Y
  intro o1 o2 v h' hr hz H locs ls hR hS hv
  exact lv_ldc o1.1 o1.2.1 o1.2.2.2.1 (o1.2.2.2.2.2.1 _ hw) hd (k o1 o2 v h' hr hz H locs ls hR hS hv)
theorem z_ldcw {i : Nat} {x : Int32} (hw : Cond.constant M.2.1 i x ∈ zTb) (hd : decode M.1 pc = .ok (.ldc_w i, 3)) (k : Z Y M cells slots (pc + 3) lv (.int x :: st) h r) : Z Y M cells slots pc lv (st) h r := by
  obtain ⟨⟨p, l, e, R, s, m, args, below, meth, c⟩, D, A, Q⟩ := Y
  intro o1 o2 v h' hr hz H locs ls hR hS hv
  exact lv_ldcw o1.1 o1.2.1 o1.2.2.2.1 (o1.2.2.2.2.2.1 _ hw) hd (k o1 o2 v h' hr hz H locs ls hR hS hv)
theorem z_ldc2 {i : Nat} {x : Int64} (hw : Cond.constantLong M.2.1 i x ∈ zTb) (hd : decode M.1 pc = .ok (.ldc2_w i, 3)) (k : Z Y M cells slots (pc + 3) lv (.long x :: st) h r) : Z Y M cells slots pc lv (st) h r := by
  obtain ⟨⟨p, l, e, R, s, m, args, below, meth, c⟩, D, A, Q⟩ := Y
  intro o1 o2 v h' hr hz H locs ls hR hS hv
  exact lv_ldc2 o1.1 o1.2.1 o1.2.2.2.1 (o1.2.2.2.2.2.1 _ hw) hd (k o1 o2 v h' hr hz H locs ls hR hS hv)
theorem z_goto {off : Int} {tgt : Nat} (hd : decode M.1 pc = .ok (.goto off, 3)) (ht : (pc : Int) + off = (tgt : Int)) (k : Z Y M cells slots tgt lv st h r) : Z Y M cells slots pc lv st h r := by
  obtain ⟨⟨p, l, e, R, s, m, args, below, meth, c⟩, D, A, Q⟩ := Y
  intro o1 o2 v h' hr hz H locs ls hR hS hv
  exact lv_goto o1.1 o1.2.1 hd ht (k o1 o2 v h' hr hz H locs ls hR hS hv)
theorem z_if_eq {x : Int32} {off : Int} {tgt : Nat} (hd : decode M.1 pc = .ok (.ifCond .eq off, 3)) (ht : (pc : Int) + off = (tgt : Int)) (k1 : Z Y M cells slots tgt lv st h r1) (k2 : Z Y M cells slots (pc + 3) lv st h r2) : Z Y M cells slots pc lv (.int x :: st) h (if x = 0 then r1 else r2) := by
  obtain ⟨⟨p, l, e, R, s, m, args, below, meth, c⟩, D, A, Q⟩ := Y
  intro o1 o2 v h' hr hz H locs ls hR hS hv
  refine lv_if_eq o1.1 o1.2.1 hd ht (fun q => ?_) (fun q => ?_)
  · rw [if_pos q] at hr
    exact k1 o1 o2 v h' hr hz H locs ls hR hS hv
  · rw [if_neg q] at hr
    exact k2 o1 o2 v h' hr hz H locs ls hR hS hv
theorem z_icmp_eq {x y : Int32} {off : Int} {tgt : Nat} (hd : decode M.1 pc = .ok (.if_icmp .eq off, 3)) (ht : (pc : Int) + off = (tgt : Int)) (k1 : Z Y M cells slots tgt lv st h r1) (k2 : Z Y M cells slots (pc + 3) lv st h r2) : Z Y M cells slots pc lv (.int y :: .int x :: st) h (if x = y then r1 else r2) := by
  obtain ⟨⟨p, l, e, R, s, m, args, below, meth, c⟩, D, A, Q⟩ := Y
  intro o1 o2 v h' hr hz H locs ls hR hS hv
  refine lv_icmp_eq o1.1 o1.2.1 hd ht (fun q => ?_) (fun q => ?_)
  · rw [if_pos q] at hr
    exact k1 o1 o2 v h' hr hz H locs ls hR hS hv
  · rw [if_neg q] at hr
    exact k2 o1 o2 v h' hr hz H locs ls hR hS hv
theorem z_if_ne {x : Int32} {off : Int} {tgt : Nat} (hd : decode M.1 pc = .ok (.ifCond .ne off, 3)) (ht : (pc : Int) + off = (tgt : Int)) (k1 : Z Y M cells slots tgt lv st h r1) (k2 : Z Y M cells slots (pc + 3) lv st h r2) : Z Y M cells slots pc lv (.int x :: st) h (if x = 0 then r2 else r1) := by
  obtain ⟨⟨p, l, e, R, s, m, args, below, meth, c⟩, D, A, Q⟩ := Y
  intro o1 o2 v h' hr hz H locs ls hR hS hv
  refine lv_if_ne o1.1 o1.2.1 hd ht (fun q => ?_) (fun q => ?_)
  · rw [if_neg q] at hr
    exact k1 o1 o2 v h' hr hz H locs ls hR hS hv
  · rw [if_pos q] at hr
    exact k2 o1 o2 v h' hr hz H locs ls hR hS hv
theorem z_icmp_ne {x y : Int32} {off : Int} {tgt : Nat} (hd : decode M.1 pc = .ok (.if_icmp .ne off, 3)) (ht : (pc : Int) + off = (tgt : Int)) (k1 : Z Y M cells slots tgt lv st h r1) (k2 : Z Y M cells slots (pc + 3) lv st h r2) : Z Y M cells slots pc lv (.int y :: .int x :: st) h (if x = y then r2 else r1) := by
  obtain ⟨⟨p, l, e, R, s, m, args, below, meth, c⟩, D, A, Q⟩ := Y
  intro o1 o2 v h' hr hz H locs ls hR hS hv
  refine lv_icmp_ne o1.1 o1.2.1 hd ht (fun q => ?_) (fun q => ?_)
  · rw [if_neg q] at hr
    exact k1 o1 o2 v h' hr hz H locs ls hR hS hv
  · rw [if_pos q] at hr
    exact k2 o1 o2 v h' hr hz H locs ls hR hS hv
theorem z_if_lt {x : Int32} {off : Int} {tgt : Nat} (hd : decode M.1 pc = .ok (.ifCond .lt off, 3)) (ht : (pc : Int) + off = (tgt : Int)) (k1 : Z Y M cells slots tgt lv st h r1) (k2 : Z Y M cells slots (pc + 3) lv st h r2) : Z Y M cells slots pc lv (.int x :: st) h (if x < 0 then r1 else r2) := by
  obtain ⟨⟨p, l, e, R, s, m, args, below, meth, c⟩, D, A, Q⟩ := Y
  intro o1 o2 v h' hr hz H locs ls hR hS hv
  refine lv_if_lt o1.1 o1.2.1 hd ht (fun q => ?_) (fun q => ?_)
  · rw [if_pos q] at hr
    exact k1 o1 o2 v h' hr hz H locs ls hR hS hv
  · rw [if_neg q] at hr
    exact k2 o1 o2 v h' hr hz H locs ls hR hS hv
theorem z_icmp_lt {x y : Int32} {off : Int} {tgt : Nat} (hd : decode M.1 pc = .ok (.if_icmp .lt off, 3)) (ht : (pc : Int) + off = (tgt : Int)) (k1 : Z Y M cells slots tgt lv st h r1) (k2 : Z Y M cells slots (pc + 3) lv st h r2) : Z Y M cells slots pc lv (.int y :: .int x :: st) h (if x < y then r1 else r2) := by
  obtain ⟨⟨p, l, e, R, s, m, args, below, meth, c⟩, D, A, Q⟩ := Y
  intro o1 o2 v h' hr hz H locs ls hR hS hv
  refine lv_icmp_lt o1.1 o1.2.1 hd ht (fun q => ?_) (fun q => ?_)
  · rw [if_pos q] at hr
    exact k1 o1 o2 v h' hr hz H locs ls hR hS hv
  · rw [if_neg q] at hr
    exact k2 o1 o2 v h' hr hz H locs ls hR hS hv
theorem z_if_ge {x : Int32} {off : Int} {tgt : Nat} (hd : decode M.1 pc = .ok (.ifCond .ge off, 3)) (ht : (pc : Int) + off = (tgt : Int)) (k1 : Z Y M cells slots tgt lv st h r1) (k2 : Z Y M cells slots (pc + 3) lv st h r2) : Z Y M cells slots pc lv (.int x :: st) h (if 0 ≤ x then r1 else r2) := by
  obtain ⟨⟨p, l, e, R, s, m, args, below, meth, c⟩, D, A, Q⟩ := Y
  intro o1 o2 v h' hr hz H locs ls hR hS hv
  refine lv_if_ge o1.1 o1.2.1 hd ht (fun q => ?_) (fun q => ?_)
  · rw [if_pos q] at hr
    exact k1 o1 o2 v h' hr hz H locs ls hR hS hv
  · rw [if_neg q] at hr
    exact k2 o1 o2 v h' hr hz H locs ls hR hS hv
theorem z_icmp_ge {x y : Int32} {off : Int} {tgt : Nat} (hd : decode M.1 pc = .ok (.if_icmp .ge off, 3)) (ht : (pc : Int) + off = (tgt : Int)) (k1 : Z Y M cells slots tgt lv st h r1) (k2 : Z Y M cells slots (pc + 3) lv st h r2) : Z Y M cells slots pc lv (.int y :: .int x :: st) h (if y ≤ x then r1 else r2) := by
  obtain ⟨⟨p, l, e, R, s, m, args, below, meth, c⟩, D, A, Q⟩ := Y
  intro o1 o2 v h' hr hz H locs ls hR hS hv
  refine lv_icmp_ge o1.1 o1.2.1 hd ht (fun q => ?_) (fun q => ?_)
  · rw [if_pos q] at hr
    exact k1 o1 o2 v h' hr hz H locs ls hR hS hv
  · rw [if_neg q] at hr
    exact k2 o1 o2 v h' hr hz H locs ls hR hS hv
theorem z_if_gt {x : Int32} {off : Int} {tgt : Nat} (hd : decode M.1 pc = .ok (.ifCond .gt off, 3)) (ht : (pc : Int) + off = (tgt : Int)) (k1 : Z Y M cells slots tgt lv st h r1) (k2 : Z Y M cells slots (pc + 3) lv st h r2) : Z Y M cells slots pc lv (.int x :: st) h (if 0 < x then r1 else r2) := by
  obtain ⟨⟨p, l, e, R, s, m, args, below, meth, c⟩, D, A, Q⟩ := Y
  intro o1 o2 v h' hr hz H locs ls hR hS hv
  refine lv_if_gt o1.1 o1.2.1 hd ht (fun q => ?_) (fun q => ?_)
  · rw [if_pos q] at hr
    exact k1 o1 o2 v h' hr hz H locs ls hR hS hv
  · rw [if_neg q] at hr
    exact k2 o1 o2 v h' hr hz H locs ls hR hS hv
theorem z_icmp_gt {x y : Int32} {off : Int} {tgt : Nat} (hd : decode M.1 pc = .ok (.if_icmp .gt off, 3)) (ht : (pc : Int) + off = (tgt : Int)) (k1 : Z Y M cells slots tgt lv st h r1) (k2 : Z Y M cells slots (pc + 3) lv st h r2) : Z Y M cells slots pc lv (.int y :: .int x :: st) h (if y < x then r1 else r2) := by
  obtain ⟨⟨p, l, e, R, s, m, args, below, meth, c⟩, D, A, Q⟩ := Y
  intro o1 o2 v h' hr hz H locs ls hR hS hv
  refine lv_icmp_gt o1.1 o1.2.1 hd ht (fun q => ?_) (fun q => ?_)
  · rw [if_pos q] at hr
    exact k1 o1 o2 v h' hr hz H locs ls hR hS hv
  · rw [if_neg q] at hr
    exact k2 o1 o2 v h' hr hz H locs ls hR hS hv
theorem z_if_le {x : Int32} {off : Int} {tgt : Nat} (hd : decode M.1 pc = .ok (.ifCond .le off, 3)) (ht : (pc : Int) + off = (tgt : Int)) (k1 : Z Y M cells slots tgt lv st h r1) (k2 : Z Y M cells slots (pc + 3) lv st h r2) : Z Y M cells slots pc lv (.int x :: st) h (if x ≤ 0 then r1 else r2) := by
  obtain ⟨⟨p, l, e, R, s, m, args, below, meth, c⟩, D, A, Q⟩ := Y
  intro o1 o2 v h' hr hz H locs ls hR hS hv
  refine lv_if_le o1.1 o1.2.1 hd ht (fun q => ?_) (fun q => ?_)
  · rw [if_pos q] at hr
    exact k1 o1 o2 v h' hr hz H locs ls hR hS hv
  · rw [if_neg q] at hr
    exact k2 o1 o2 v h' hr hz H locs ls hR hS hv
theorem z_icmp_le {x y : Int32} {off : Int} {tgt : Nat} (hd : decode M.1 pc = .ok (.if_icmp .le off, 3)) (ht : (pc : Int) + off = (tgt : Int)) (k1 : Z Y M cells slots tgt lv st h r1) (k2 : Z Y M cells slots (pc + 3) lv st h r2) : Z Y M cells slots pc lv (.int y :: .int x :: st) h (if x ≤ y then r1 else r2) := by
  obtain ⟨⟨p, l, e, R, s, m, args, below, meth, c⟩, D, A, Q⟩ := Y
  intro o1 o2 v h' hr hz H locs ls hR hS hv
  refine lv_icmp_le o1.1 o1.2.1 hd ht (fun q => ?_) (fun q => ?_)
  · rw [if_pos q] at hr
    exact k1 o1 o2 v h' hr hz H locs ls hR hS hv
  · rw [if_neg q] at hr
    exact k2 o1 o2 v h' hr hz H locs ls hR hS hv
def zdv (y : Int32) (r : zR) : zR := if y = 0 then none else r
def zdvJ (y : Int64) (r : zR) : zR := if y = 0 then none else r
theorem zdv_some {y : Int32} {r : zR} {q : Option Value × zH} (hr : zdv y r = some q) : ¬ y = 0 ∧ r = some q := by
  unfold zdv at hr
  split at hr
  · cases hr
  · exact ⟨‹_›, hr⟩
theorem zdvJ_some {y : Int64} {r : zR} {q : Option Value × zH} (hr : zdvJ y r = some q) : ¬ y = 0 ∧ r = some q := by
  unfold zdvJ at hr
  split at hr
  · cases hr
  · exact ⟨‹_›, hr⟩
theorem z_idiv {x y : Int32} (hd : decode M.1 pc = .ok (.idiv, 1)) (k : Z Y M cells slots (pc + 1) lv (.int (x / y) :: st) h r) : Z Y M cells slots pc lv (.int y :: .int x :: st) h (zdv y r) := by
  obtain ⟨⟨p, l, e, R, s, m, args, below, meth, c⟩, D, A, Q⟩ := Y
  intro o1 o2 v h' hr hz H locs ls hR hS hv
  obtain ⟨hy, hr⟩ := zdv_some hr
  exact lv_idiv o1.1 o1.2.1 hd hy (k o1 o2 v h' hr hz H locs ls hR hS hv)
theorem z_irem {x y : Int32} (hd : decode M.1 pc = .ok (.irem, 1)) (k : Z Y M cells slots (pc + 1) lv (.int (x - x / y * y) :: st) h r) : Z Y M cells slots pc lv (.int y :: .int x :: st) h (zdv y r) := by
  obtain ⟨⟨p, l, e, R, s, m, args, below, meth, c⟩, D, A, Q⟩ := Y
  intro o1 o2 v h' hr hz H locs ls hR hS hv
  obtain ⟨hy, hr⟩ := zdv_some hr
  exact lv_irem o1.1 o1.2.1 hd hy (k o1 o2 v h' hr hz H locs ls hR hS hv)
theorem z_ldiv {x y : Int64} (hd : decode M.1 pc = .ok (.ldiv, 1)) (k : Z Y M cells slots (pc + 1) lv (.long (x / y) :: st) h r) : Z Y M cells slots pc lv (.long y :: .long x :: st) h (zdvJ y r) := by
  obtain ⟨⟨p, l, e, R, s, m, args, below, meth, c⟩, D, A, Q⟩ := Y
  intro o1 o2 v h' hr hz H locs ls hR hS hv
  obtain ⟨hy, hr⟩ := zdvJ_some hr
  exact lv_ldiv o1.1 o1.2.1 hd hy (k o1 o2 v h' hr hz H locs ls hR hS hv)
theorem z_lrem {x y : Int64} (hd : decode M.1 pc = .ok (.lrem, 1)) (k : Z Y M cells slots (pc + 1) lv (.long (x - x / y * y) :: st) h r) : Z Y M cells slots pc lv (.long y :: .long x :: st) h (zdvJ y r) := by
  obtain ⟨⟨p, l, e, R, s, m, args, below, meth, c⟩, D, A, Q⟩ := Y
  intro o1 o2 v h' hr hz H locs ls hR hS hv
  obtain ⟨hy, hr⟩ := zdvJ_some hr
  exact lv_lrem o1.1 o1.2.1 hd hy (k o1 o2 v h' hr hz H locs ls hR hS hv)
theorem z_tabIn {dflt lo hi : Int} {offs : Array Int} {len : Nat} {x : Int32} (j : Int32) {off : Int} {tgt : Nat} (hx : x = j) (hd : decode M.1 pc = .ok (.tableswitch dflt lo hi offs, len)) (h1 : ¬ j.toInt < lo) (h2 : ¬ hi < j.toInt) (ho : offs[(j.toInt - lo).toNat]? = some off) (ht : (pc : Int) + off = (tgt : Int)) (k : Z Y M cells slots tgt lv st h r) : Z Y M cells slots pc lv (.int x :: st) h r := by
  obtain ⟨⟨p, l, e, R, s, m, args, below, meth, c⟩, D, A, Q⟩ := Y
  intro o1 o2 v h' hr hz H locs ls hR hS hv
  subst hx
  exact lv_tableIn o1.1 o1.2.1 hd h1 h2 ho ht (k o1 o2 v h' hr hz H locs ls hR hS hv)
theorem z_tabOut {dflt lo hi : Int} {offs : Array Int} {len : Nat} {x : Int32} {tgt : Nat} (hd : decode M.1 pc = .ok (.tableswitch dflt lo hi offs, len)) (hx : x.toInt < lo ∨ hi < x.toInt) (ht : (pc : Int) + dflt = (tgt : Int)) (k : Z Y M cells slots tgt lv st h r) : Z Y M cells slots pc lv (.int x :: st) h r := by
  obtain ⟨⟨p, l, e, R, s, m, args, below, meth, c⟩, D, A, Q⟩ := Y
  intro o1 o2 v h' hr hz H locs ls hR hS hv
  exact lv_tableOut o1.1 o1.2.1 hd hx ht (k o1 o2 v h' hr hz H locs ls hR hS hv)
def zrI (x : Int32) (h : zH) : zR := some (some (.int x), h)
def zrZ (x : Int32) (h : zH) : zR := if x = 0 ∨ x = 1 then some (some (.int x), h) else none
def zrJ (x : Int64) (h : zH) : zR := some (some (.long x), h)
def zrV (h : zH) : zR := some (none, h)
theorem z_iret {x : Int32} (hret : M.2.2.2.2.1 = some .int) (hd : decode M.1 pc = .ok (.ireturn, 1)) : Z Y M M.2.2.2.2.2.2.1 M.2.2.2.2.2.2.2 pc lv [.int x] h (zrI x h) := by
  obtain ⟨⟨p, l, e, R, s, m, args, below, meth, c⟩, D, A, Q⟩ := Y
  intro o1 o2 v h' hr hz H locs ls hR hS hv
  cases hr
  exact o2.1 .int x h H locs ls pc hret rfl hd hz hR hS
theorem z_zret {x : Int32} (hret : M.2.2.2.2.1 = some .boolean) (hd : decode M.1 pc = .ok (.ireturn, 1)) : Z Y M M.2.2.2.2.2.2.1 M.2.2.2.2.2.2.2 pc lv [.int x] h (zrZ x h) := by
  obtain ⟨⟨p, l, e, R, s, m, args, below, meth, c⟩, D, A, Q⟩ := Y
  intro o1 o2 v h' hr hz H locs ls hR hS hv
  unfold zrZ at hr
  split at hr
  · rename_i hx
    cases hr
    refine o2.1 .boolean x h H locs ls pc hret ?_ hd hz hR hS
    rcases hx with rfl | rfl <;> decide +kernel
  · cases hr
theorem z_lret {x : Int64} (hret : M.2.2.2.2.1 = some .long) (hd : decode M.1 pc = .ok (.lreturn, 1)) : Z Y M M.2.2.2.2.2.2.1 M.2.2.2.2.2.2.2 pc lv [.long x] h (zrJ x h) := by
  obtain ⟨⟨p, l, e, R, s, m, args, below, meth, c⟩, D, A, Q⟩ := Y
  intro o1 o2 v h' hr hz H locs ls hR hS hv
  cases hr
  exact o2.2.1 x h H locs ls pc hret hd hz hR hS
theorem z_vret (hret : M.2.2.2.2.1 = none) (hd : decode M.1 pc = .ok (.return_, 1)) : Z Y M M.2.2.2.2.2.2.1 M.2.2.2.2.2.2.2 pc lv [] h (zrV h) := by
  obtain ⟨⟨p, l, e, R, s, m, args, below, meth, c⟩, D, A, Q⟩ := Y
  intro o1 o2 v h' hr hz H locs ls hR hS hv
  cases hr
  exact o2.2.2 h H locs ls pc hret hd hz hR hS
end ZB
