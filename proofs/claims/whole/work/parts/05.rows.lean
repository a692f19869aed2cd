/-! ROWS OVER THE HEAP -/
/-- a field link: own class, place in its pool; the class among vwCl, the field, its type, final or not -/
def zFld (own : String) (idx ci k : Nat) (ty : FieldType) (fin : Bool) : Prop := ∃ (C : String) (T : u_T) (N : Nat) (ty0 : Nat → FieldType), vwCl[ci]? = some (C, T, N) ∧ k < N ∧ (∀ w ∈ u_ws C T N, w ∈ zTb) ∧ Cond.fieldLink own idx (T k).1 (T k).2.1 (T k).2.2.1 ∈ zTb ∧ (∀ k, k < N → parseFieldDescriptor (T k).2.2.1 = some (ty0 k)) ∧ (∀ a, a < N → ∀ b, b < N → a ≠ b → (T a).2.1 ≠ (T b).2.1) ∧ ty0 k = ty ∧ (T k).2.2.2 = fin ∧ (T k).1 = C
theorem zin {i : Int32} {n : Nat} (h : ¬ (i < 0 ∨ n ≤ i.toNatClampNeg)) : vp_in i n := h
section ZH
variable {Y : zY} {M : zM} {cells slots pc : Nat} {lv lv' : List (Nat × Value)} {st : List Value} {h : zH} {r r1 r2 : zR}
theorem z_getI {idx ci k a : Nat} {ty : FieldType} {fin : Bool} {K : Int32 → zR} (hF : zFld M.2.1 idx ci k ty fin) (hd : decode M.1 pc = .ok (.getfield idx, 3)) (kk : ∀ x, Z Y M cells slots (pc + 3) lv (.int x :: st) h (K x)) : Z Y M cells slots pc lv (.ref a :: st) h (zgI h a ci k K) := by
  obtain ⟨⟨p, l, e, R, s, m, args, below, meth, c⟩, D, A, Q⟩ := Y
  intro o1 o2 v h' hr hz H locs ls hR hS hv
  obtain ⟨fs, x, h1, h2, h3⟩ := zgI_some hr
  obtain ⟨C, T, N, ty0, f1, f2, f3, f4, f5, f6, f7, f8, f9⟩ := hF
  obtain ⟨z1, ws, hP, hD, m1, m2⟩ := id hR
  obtain ⟨k0, hk0⟩ := m1 a _ h1
  exact va_get o1.1 o1.2.1 o1.2.2.2.2.2.1 f3 o1.2.2.2.1 o1.2.2.2.2.2.2.2.1.1 hP k0 hk0 f1 k f2 (o1.2.2.2.2.2.1 _ f4) (fun _ q => q) h2 hd (kk x o1 o2 v h' h3 hz H locs ls hR hS hv)
theorem z_getJ {idx ci k a : Nat} {ty : FieldType} {fin : Bool} {K : Int64 → zR} (hF : zFld M.2.1 idx ci k ty fin) (hd : decode M.1 pc = .ok (.getfield idx, 3)) (kk : ∀ x, Z Y M cells slots (pc + 3) lv (.long x :: st) h (K x)) : Z Y M cells slots pc lv (.ref a :: st) h (zgJ h a ci k K) := by
  obtain ⟨⟨p, l, e, R, s, m, args, below, meth, c⟩, D, A, Q⟩ := Y
  intro o1 o2 v h' hr hz H locs ls hR hS hv
  obtain ⟨fs, x, h1, h2, h3⟩ := zgJ_some hr
  obtain ⟨C, T, N, ty0, f1, f2, f3, f4, f5, f6, f7, f8, f9⟩ := hF
  obtain ⟨z1, ws, hP, hD, m1, m2⟩ := id hR
  obtain ⟨k0, hk0⟩ := m1 a _ h1
  exact va_get o1.1 o1.2.1 o1.2.2.2.2.2.1 f3 o1.2.2.2.1 o1.2.2.2.2.2.2.2.1.1 hP k0 hk0 f1 k f2 (o1.2.2.2.2.2.1 _ f4) (fun _ q => q) h2 hd (kk x o1 o2 v h' h3 hz H locs ls hR hS hv)
theorem z_getR {idx ci k a : Nat} {ty : FieldType} {fin : Bool} {K : Nat → zR} (hF : zFld M.2.1 idx ci k ty fin) (hd : decode M.1 pc = .ok (.getfield idx, 3)) (kk : ∀ x, Z Y M cells slots (pc + 3) lv (.ref x :: st) h (K x)) : Z Y M cells slots pc lv (.ref a :: st) h (zgR h a ci k K) := by
  obtain ⟨⟨p, l, e, R, s, m, args, below, meth, c⟩, D, A, Q⟩ := Y
  intro o1 o2 v h' hr hz H locs ls hR hS hv
  obtain ⟨fs, x, h1, h2, h3⟩ := zgR_some hr
  obtain ⟨C, T, N, ty0, f1, f2, f3, f4, f5, f6, f7, f8, f9⟩ := hF
  obtain ⟨z1, ws, hP, hD, m1, m2⟩ := id hR
  obtain ⟨k0, hk0⟩ := m1 a _ h1
  exact va_get o1.1 o1.2.1 o1.2.2.2.2.2.1 f3 o1.2.2.2.1 o1.2.2.2.2.2.2.2.1.1 hP k0 hk0 f1 k f2 (o1.2.2.2.2.2.1 _ f4) (fun _ q => q) h2 hd (kk x o1 o2 v h' h3 hz H locs ls hR hS hv)
theorem z_put {idx ci k a : Nat} {ty : FieldType} {w : Value} {K : zH → zR} (hF : zFld M.2.1 idx ci k ty false) (hn : narrow ty w = w) (hfit : fits ty w = true) (hd : decode M.1 pc = .ok (.putfield idx, 3)) (kk : ∀ h1 : zH, Z Y M cells slots (pc + 3) lv st h1 (K h1)) : Z Y M cells slots pc lv (w :: .ref a :: st) h (zpV h a ci k w K) := by
  obtain ⟨⟨p, l, e, R, s, m, args, below, meth, c⟩, D, A, Q⟩ := Y
  intro o1 o2 v h' hr hz H locs ls hR hS hv
  obtain ⟨fs, h1, h2⟩ := zgO_some hr
  split at h2
  · rename_i hkl
    obtain ⟨C, T, N, ty0, f1, f2, f3, f4, f5, f6, f7, f8, f9⟩ := hF
    obtain ⟨z1, ws, hP, hD, m1, m2⟩ := id hR
    obtain ⟨k0, hk0⟩ := m1 a _ h1
    refine va_put (ty := ty) o1.1 o1.2.1 o1.2.2.2.2.2.1 f3 ty0 f5 f6 o1.2.2.2.1 o1.2.2.2.2.2.2.2.1.1 hP hD hS.here k0 hk0 f1 k f2 (o1.2.2.2.2.2.1 _ f4) (fun _ q => q) f8 (by rw [f5 k f2, f7]) hn hfit hkl hd (fun H1 locs1 hP1 hD1 hS1 => ?_)
    refine W.sized (fun hle => ?_)
    have z2 : H1.size = h.1 := by have := hS1.1; omega
    exact kk _ o1 o2 v h' h2 hz H1 locs1 ls (zRel.set hD m1 m2 hk0 z2 hP1 hD1) (hS.then hS1) hv
  · cases h2
theorem z_putF {idx ci k a : Nat} {ty : FieldType} {w : Value} {K : zH → zR} (hF : zFld M.2.1 idx ci k ty true) (hini : M.2.2.1 = "<init>") (hoC : (vwCl[ci]?).map (fun q => q.1) = some M.2.1) (hn : narrow ty w = w) (hfit : fits ty w = true) (hd : decode M.1 pc = .ok (.putfield idx, 3)) (kk : ∀ h1 : zH, Z Y M cells slots (pc + 3) lv st h1 (K h1)) : Z Y M cells slots pc lv (w :: .ref a :: st) h (zpV h a ci k w K) := by
  obtain ⟨⟨p, l, e, R, s, m, args, below, meth, c⟩, D, A, Q⟩ := Y
  intro o1 o2 v h' hr hz H locs ls hR hS hv
  obtain ⟨fs, h1, h2⟩ := zgO_some hr
  split at h2
  · rename_i hkl
    obtain ⟨C, T, N, ty0, f1, f2, f3, f4, f5, f6, f7, f8, f9⟩ := hF
    obtain ⟨z1, ws, hP, hD, m1, m2⟩ := id hR
    obtain ⟨k0, hk0⟩ := m1 a _ h1
    refine va_putF (ty := ty) o1.1 o1.2.1 o1.2.2.2.2.2.1 f3 ty0 f5 f6 o1.2.2.2.1 o1.2.2.2.2.2.2.2.1.1 hP hD hS.here k0 hk0 f1 k f2 (o1.2.2.2.2.2.1 _ f4) (fun _ q => q) f8 (o1.2.2.2.2.1.trans hini) (f9.trans (by rw [f1] at hoC; exact Option.some.inj hoC)) (by rw [f5 k f2, f7]) hn hfit hkl hd (fun H1 locs1 hP1 hD1 hS1 => ?_)
    refine W.sized (fun hle => ?_)
    have z2 : H1.size = h.1 := by have := hS1.1; omega
    exact kk _ o1 o2 v h' h2 hz H1 locs1 ls (zRel.set hD m1 m2 hk0 z2 hP1 hD1) (hS.then hS1) hv
  · cases h2
theorem z_iald {a : Nat} {i : Int32} {K : Int32 → zR} (hd : decode M.1 pc = .ok (.iaload, 1)) (kk : ∀ x, Z Y M cells slots (pc + 1) lv (.int x :: st) h (K x)) : Z Y M cells slots pc lv (.int i :: .ref a :: st) h (zaI h a 0 i K) := by
  obtain ⟨⟨p, l, e, R, s, m, args, below, meth, c⟩, D, A, Q⟩ := Y
  intro o1 o2 v h' hr hz H locs ls hR hS hv
  obtain ⟨n, f, h1, h2⟩ := zgA_some hr
  split at h2
  · cases h2
  · rename_i hin
    obtain ⟨z1, ws, hP, hD, m1, m2⟩ := id hR
    obtain ⟨k0, hk0⟩ := m1 a _ h1
    exact va_iald o1.1 o1.2.1 o1.2.2.2.2.2.2.2.1.1 hP k0 0 hk0 rfl (zin hin) hd (kk _ o1 o2 v h' h2 hz H locs ls hR hS hv)
theorem z_bald {a : Nat} {i : Int32} {K : Int32 → zR} (hd : decode M.1 pc = .ok (.baload, 1)) (kk : ∀ x, Z Y M cells slots (pc + 1) lv (.int x :: st) h (K x)) : Z Y M cells slots pc lv (.int i :: .ref a :: st) h (zaI h a 1 i K) := by
  obtain ⟨⟨p, l, e, R, s, m, args, below, meth, c⟩, D, A, Q⟩ := Y
  intro o1 o2 v h' hr hz H locs ls hR hS hv
  obtain ⟨n, f, h1, h2⟩ := zgA_some hr
  split at h2
  · cases h2
  · rename_i hin
    obtain ⟨z1, ws, hP, hD, m1, m2⟩ := id hR
    obtain ⟨k0, hk0⟩ := m1 a _ h1
    exact va_bald o1.1 o1.2.1 o1.2.2.2.2.2.2.2.1.1 hP k0 1 hk0 rfl (zin hin) hd (kk _ o1 o2 v h' h2 hz H locs ls hR hS hv)
theorem z_zald {a : Nat} {i : Int32} {K : Int32 → zR} (hd : decode M.1 pc = .ok (.baload, 1)) (kk : ∀ x, Z Y M cells slots (pc + 1) lv (.int x :: st) h (K x)) : Z Y M cells slots pc lv (.int i :: .ref a :: st) h (zaI h a 2 i K) := by
  obtain ⟨⟨p, l, e, R, s, m, args, below, meth, c⟩, D, A, Q⟩ := Y
  intro o1 o2 v h' hr hz H locs ls hR hS hv
  obtain ⟨n, f, h1, h2⟩ := zgA_some hr
  split at h2
  · cases h2
  · rename_i hin
    obtain ⟨z1, ws, hP, hD, m1, m2⟩ := id hR
    obtain ⟨k0, hk0⟩ := m1 a _ h1
    exact va_zald o1.1 o1.2.1 o1.2.2.2.2.2.2.2.1.1 hP k0 2 hk0 rfl (zin hin) hd (kk _ o1 o2 v h' h2 hz H locs ls hR hS hv)
theorem z_iast {a : Nat} {i x : Int32} {K : zH → zR} (hd : decode M.1 pc = .ok (.iastore, 1)) (kk : ∀ h1, Z Y M cells slots (pc + 1) lv st h1 (K h1)) : Z Y M cells slots pc lv (.int x :: .int i :: .ref a :: st) h (zsI h a 0 i x K) := by
  obtain ⟨⟨p, l, e, R, s, m, args, below, meth, c⟩, D, A, Q⟩ := Y
  intro o1 o2 v h' hr hz H locs ls hR hS hv
  obtain ⟨n, f, h1, h2⟩ := zgA_some hr
  split at h2
  · cases h2
  · rename_i hin
    obtain ⟨z1, ws, hP, hD, m1, m2⟩ := id hR
    obtain ⟨k0, hk0⟩ := m1 a _ h1
    refine va_iast o1.1 o1.2.1 o1.2.2.2.2.2.2.2.1.1 hP hD hS.here k0 0 hk0 rfl (zin hin) hd (fun H1 locs1 hP1 hD1 hS1 => ?_)
    refine W.sized (fun hle => ?_)
    have z2 : H1.size = h.1 := by have := hS1.1; omega
    exact kk _ o1 o2 v h' h2 hz H1 locs1 ls (zRel.set hD m1 m2 hk0 z2 hP1 hD1) (hS.then hS1) hv
theorem z_bast {a : Nat} {i x : Int32} {K : zH → zR} (hd : decode M.1 pc = .ok (.bastore, 1)) (kk : ∀ h1, Z Y M cells slots (pc + 1) lv st h1 (K h1)) : Z Y M cells slots pc lv (.int x :: .int i :: .ref a :: st) h (zsI h a 1 i (vp_nar .byte x) K) := by
  obtain ⟨⟨p, l, e, R, s, m, args, below, meth, c⟩, D, A, Q⟩ := Y
  intro o1 o2 v h' hr hz H locs ls hR hS hv
  obtain ⟨n, f, h1, h2⟩ := zgA_some hr
  split at h2
  · cases h2
  · rename_i hin
    obtain ⟨z1, ws, hP, hD, m1, m2⟩ := id hR
    obtain ⟨k0, hk0⟩ := m1 a _ h1
    refine va_bast o1.1 o1.2.1 o1.2.2.2.2.2.2.2.1.1 hP hD hS.here k0 1 hk0 rfl (zin hin) hd (fun H1 locs1 hP1 hD1 hS1 => ?_)
    refine W.sized (fun hle => ?_)
    have z2 : H1.size = h.1 := by have := hS1.1; omega
    exact kk _ o1 o2 v h' h2 hz H1 locs1 ls (zRel.set hD m1 m2 hk0 z2 hP1 hD1) (hS.then hS1) hv
theorem z_zast {a : Nat} {i x : Int32} {K : zH → zR} (hd : decode M.1 pc = .ok (.bastore, 1)) (kk : ∀ h1, Z Y M cells slots (pc + 1) lv st h1 (K h1)) : Z Y M cells slots pc lv (.int x :: .int i :: .ref a :: st) h (zsI h a 2 i (vp_nar .boolean x) K) := by
  obtain ⟨⟨p, l, e, R, s, m, args, below, meth, c⟩, D, A, Q⟩ := Y
  intro o1 o2 v h' hr hz H locs ls hR hS hv
  obtain ⟨n, f, h1, h2⟩ := zgA_some hr
  split at h2
  · cases h2
  · rename_i hin
    obtain ⟨z1, ws, hP, hD, m1, m2⟩ := id hR
    obtain ⟨k0, hk0⟩ := m1 a _ h1
    refine va_zast o1.1 o1.2.1 o1.2.2.2.2.2.2.2.1.1 hP hD hS.here k0 2 hk0 rfl (zin hin) hd (fun H1 locs1 hP1 hD1 hS1 => ?_)
    refine W.sized (fun hle => ?_)
    have z2 : H1.size = h.1 := by have := hS1.1; omega
    exact kk _ o1 o2 v h' h2 hz H1 locs1 ls (zRel.set hD m1 m2 hk0 z2 hP1 hD1) (hS.then hS1) hv
theorem z_alenB {a : Nat} {K : Int32 → zR} (hd : decode M.1 pc = .ok (.arraylength, 1)) (kk : ∀ x, Z Y M cells slots (pc + 1) lv (.int x :: st) h (K x)) : Z Y M cells slots pc lv (.ref a :: st) h (zaL h a 1 K) := by
  obtain ⟨⟨p, l, e, R, s, m, args, below, meth, c⟩, D, A, Q⟩ := Y
  intro o1 o2 v h' hr hz H locs ls hR hS hv
  obtain ⟨n, f, h1, h2⟩ := zgA_some hr
  obtain ⟨z1, ws, hP, hD, m1, m2⟩ := id hR
  obtain ⟨k0, hk0⟩ := m1 a _ h1
  exact va_alen o1.1 o1.2.1 o1.2.2.2.2.2.2.2.1.1 hP k0 1 hk0 rfl rfl hd (kk _ o1 o2 v h' h2 hz H locs ls hR hS hv)
theorem z_aald {a t : Nat} {C : String} {i : Int32} {K : Nat → zR} (ht : ∀ D : zD, (zTys D)[t]? = some (D.2.1 t, .object C)) (hd : decode M.1 pc = .ok (.aaload, 1)) (kk : ∀ x, Z Y M cells slots (pc + 1) lv (.ref x :: st) h (K x)) : Z Y M cells slots pc lv (.int i :: .ref a :: st) h (zaR h a t i K) := by
  obtain ⟨⟨p, l, e, R, s, m, args, below, meth, c⟩, D, A, Q⟩ := Y
  intro o1 o2 v h' hr hz H locs ls hR hS hv
  obtain ⟨n, f, h1, h2⟩ := zgB_some hr
  split at h2
  · cases h2
  · rename_i hin
    split at h2
    · rename_i y hy
      obtain ⟨z1, ws, hP, hD, m1, m2⟩ := id hR
      obtain ⟨k0, hk0⟩ := m1 a _ h1
      refine va_aldq o1.1 o1.2.1 o1.2.2.2.2.2.2.2.1.1 hP k0 t hk0 (ht D) (zin hin) hd ?_
      rw [hy]
      exact kk y o1 o2 v h' h2 hz H locs ls hR hS hv
    · cases h2
theorem z_aast {a t ci w : Nat} {q : vw_C} {i : Int32} {K : zH → zR} (ht : ∀ D : zD, (zTys D)[t]? = some (D.2.1 t, .object q.1)) (hc : vwCl[ci]? = some q) (hd : decode M.1 pc = .ok (.aastore, 1)) (kk : ∀ h1, Z Y M cells slots (pc + 1) lv st h1 (K h1)) : Z Y M cells slots pc lv (.ref w :: .int i :: .ref a :: st) h (zsR h a t i w ci K) := by
  obtain ⟨⟨p, l, e, R, s, m, args, below, meth, c⟩, D, A, Q⟩ := Y
  intro o1 o2 v h' hr hz H locs ls hR hS hv
  obtain ⟨n, f, h1, h2⟩ := zgB_some hr
  split at h2
  · cases h2
  · rename_i hin
    obtain ⟨fs, h3, h4⟩ := zgO_some h2
    obtain ⟨z1, ws, hP, hD, m1, m2⟩ := id hR
    obtain ⟨k0, hk0⟩ := m1 a _ h1
    obtain ⟨k1, hk1⟩ := m1 w _ h3
    refine va_astq o1.1 o1.2.1 o1.2.2.2.2.2.2.2.1.1 hP hD hS.here k0 t k1 ci hk0 (ht D) hk1 hc (zin hin) hd (fun H1 locs1 hP1 hD1 hS1 => ?_)
    refine W.sized (fun hle => ?_)
    have z2 : H1.size = h.1 := by have := hS1.1; omega
    exact kk _ o1 o2 v h' h4 hz H1 locs1 ls (zRel.set (e1 := .inl (t, n, .inr (va_up f i.toNatClampNeg (some w)))) hD m1 m2 hk0 z2 hP1 hD1) (hS.then hS1) hv
theorem z_copy {idx a0 a : Nat} {sp dp n : Int32} {K : zH → zR} (hw : Cond.methodLink M.2.1 idx arraycopyName ∈ zTb) (hw1 : Cond.native arraycopyName ∈ zTb) (hw2 : Cond.static arraycopyName ∈ zTb) (hw3 : Cond.initialized "java/lang/System" ∈ zTb) (hst : (st.map fun v => v.category).sum + (nativeFrameWords "java/lang/System" "arraycopy" 5 + 11) ≤ 60) (hd : decode M.1 pc = .ok (.invokestatic idx, 3)) (kk : ∀ h1, Z Y M cells slots (pc + 3) lv st h1 (K h1)) : Z Y M cells slots pc lv (.int n :: .int dp :: .ref a :: .int sp :: .ref a0 :: st) h (zcp h a0 sp a dp n K) := by
  obtain ⟨⟨p, l, e, R, s, m, args, below, meth, c⟩, D, A, Q⟩ := Y
  intro o1 o2 v h' hr hz H locs ls hR hS hv
  obtain ⟨n0, f, h1, h2⟩ := zgA_some hr
  obtain ⟨n1, g, h3, h4⟩ := zgA_some h2
  split at h4
  · cases h4
  · rename_i hin
    obtain ⟨z1, ws, hP, hD, m1, m2⟩ := id hR
    obtain ⟨k0, hk0⟩ := m1 a0 _ h1
    obtain ⟨k1, hk1⟩ := m1 a _ h3
    have w5 := o1.2.2.2.2.2.1
    have w6 := o1.2.2.2.2.2.2.1
    refine va_copyi o1.1 o1.2.1 (by rw [o1.2.2.1]; exact hv.1.symm) o1.2.2.2.1 (w5 _ hw) (w5 _ hw1) (w5 _ hw2) (w5 _ hw3) o1.2.2.2.2.2.2.2.1.1 hP hD hS.here k0 k1 0 0 hk0 hk1 rfl rfl rfl (fun q => hin (Or.inl q)) (fun q => hin (Or.inr (Or.inl q))) (fun q => hin (Or.inr (Or.inr (Or.inl q)))) (Nat.not_lt.mp fun q => hin (Or.inr (Or.inr (Or.inr (Or.inl q))))) (Nat.not_lt.mp fun q => hin (Or.inr (Or.inr (Or.inr (Or.inr q))))) (fun _ _ => rfl) (by omega) (by omega) hd (fun H1 locs1 hP1 hD1 hS1 => ?_)
    refine W.sized (fun hle => ?_)
    have z2 : H1.size = h.1 := by have := hS1.1; omega
    exact kk _ o1 o2 v h' h4 hz H1 locs1 ls (zRel.set (e1 := .inl (0, n1, .inl (va_cpy f g sp.toNatClampNeg dp.toNatClampNeg n.toNatClampNeg))) hD m1 m2 hk1 z2 hP1 hD1) (hS.then hS1) hv
end ZH
