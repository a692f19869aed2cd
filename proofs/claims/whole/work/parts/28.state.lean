/-! THE STATE: what the class's cells hold, what the model's hold -/
abbrev wL (W : Wr) : Nat := ix W.2.2.1
def okV (n : Nat) (W : Wr) : Prop := okW n (wL W) W ∧ (∀ i, n ≤ i → i < 8 → W.2.1 i = 0) ∧ ∃ v, v ≤ 9999 ∧ W.2.2.2 = nI v ∧ ∀ i, i < 8 → ∃ a, a ≤ v ∧ W.2.1 i = nI a
/-- the static things; the wear; how many may be undone, and they; notes; marks -/
abbrev Dl : Type := Sd × Wr × Int32 × (Nat → Wr) × Int32 × (Nat → Int32) × Int32 × (Nat → Int32)
abbrev dS (D : Dl) : Sd := D.1
abbrev dW (D : Dl) : Wr := D.2.1
abbrev dPc (D : Dl) : Int32 := D.2.2.1
abbrev dPv (D : Dl) : Nat → Wr := D.2.2.2.1
abbrev dNc (D : Dl) : Int32 := D.2.2.2.2.1
abbrev dNt (D : Dl) : Nat → Int32 := D.2.2.2.2.2.1
abbrev dMc (D : Dl) : Int32 := D.2.2.2.2.2.2.1
abbrev dMk (D : Dl) : Nat → Int32 := D.2.2.2.2.2.2.2
abbrev dn (D : Dl) : Nat := ix D.1.2.1
def RDo (h : zH) (d : Nat) (D : Dl) : Prop := h.2 d = some (.inr (0, [.int D.1.1, .int D.1.2.1, .ref (d + 1), .ref (d + 2), .ref (d + 3), .ref (d + 4), .ref (d + 7), .int (dPc D), .ref (d + 8), .int (dNc D), .ref (d + 9), .int (dMc D)]))
def RP (h : zH) (d : Nat) (pv : Nat → Wr) : Prop := ∃ (pg : Nat → Option Nat) (sg : Nat → Nat), h.2 (d + 7) = some (.inl (3, 8, .inr pg)) ∧ (∀ k, k < 8 → sg k < 8 ∧ pg k = some (d + 10 + 3 * sg k) ∧ RW h (d + 10 + 3 * sg k) (pv k)) ∧ ∀ j k, j < 8 → k < 8 → sg j = sg k → j = k
def RD (h : zH) (d : Nat) (D : Dl) : Prop := RDo h d D ∧ MA h (d + 1) 8 D.1.2.2.1 ∧ MA h (d + 2) 8 D.1.2.2.2.1 ∧ MA h (d + 3) 8 D.1.2.2.2.2 ∧ RW h (d + 4) (dW D) ∧ RP h d (dPv D) ∧ MA h (d + 8) 18 (dNt D) ∧ MA h (d + 9) 24 (dMk D)
def okD (D : Dl) : Prop := okS (dn D) D.1 ∧ okV (dn D) (dW D) ∧ (∃ c, c ≤ 8 ∧ dPc D = nI c ∧ ∀ k, k < c → okV (dn D) (dPv D k)) ∧ (∃ c, c ≤ 6 ∧ dNc D = nI c) ∧ ∃ c, c ≤ 6 ∧ dMc D = nI c
theorem RD.RS {h : zH} {d : Nat} {D : Dl} (r : RD h d D) : RS h d D.1 := ⟨⟨_, _, _, _, _, _, _, r.1⟩, r.2.1, r.2.2.1, r.2.2.2.1⟩
theorem RP.keep {h h' : zH} {d lo hi : Nat} {pv : Nat → Wr} (r : RP h d pv) (f : Fr h h' lo hi) (hd : d + 34 ≤ lo ∨ hi ≤ d + 7 ∨ (d + 8 ≤ lo ∧ hi ≤ d + 10)) : RP h' d pv := by
  obtain ⟨pg, sg, h1, h2, h3⟩ := r
  refine ⟨pg, sg, (f.2 _ (by omega)).trans h1, fun k hk => ?_, h3⟩
  obtain ⟨a, b, c⟩ := h2 k hk
  exact ⟨a, b, c.keep f (by omega)⟩
theorem RD.keep {h h' : zH} {d lo hi : Nat} {D : Dl} (r : RD h d D) (f : Fr h h' lo hi) (hd : d + 34 ≤ lo ∨ hi ≤ d) : RD h' d D := by
  obtain ⟨h1, h2, h3, h4, h5, h6, h7, h8⟩ := r
  exact ⟨(f.2 _ (by omega)).trans h1, h2.keep f (by omega), h3.keep f (by omega), h4.keep f (by omega), h5.keep f (by omega), h6.keep f (by omega), h7.keep f (by omega), h8.keep f (by omega)⟩
/-- all that is kept: the doll, two images, whether they were kept, the text and its length, the fraction, what was refused -/
abbrev Tt : Type := Dl × Dl × Dl × Bool × Bool × (Nat → Int32) × Nat × Int64 × Int64 × Int32 × Int32 × Int32
abbrev tD (T : Tt) : Dl := T.1
abbrev tI0 (T : Tt) : Dl := T.2.1
abbrev tI1 (T : Tt) : Dl := T.2.2.1
abbrev tK0 (T : Tt) : Bool := T.2.2.2.1
abbrev tK1 (T : Tt) : Bool := T.2.2.2.2.1
abbrev tX (T : Tt) : Nat → Int32 := T.2.2.2.2.2.1
abbrev tL (T : Tt) : Nat := T.2.2.2.2.2.2.1
abbrev tA (T : Tt) : Int64 := T.2.2.2.2.2.2.2.1
abbrev tB (T : Tt) : Int64 := T.2.2.2.2.2.2.2.2.1
abbrev tR0 (T : Tt) : Int32 := T.2.2.2.2.2.2.2.2.2.1
abbrev tR1 (T : Tt) : Int32 := T.2.2.2.2.2.2.2.2.2.2.1
abbrev tR2 (T : Tt) : Int32 := T.2.2.2.2.2.2.2.2.2.2.2
def XO (h : zH) (x : Nat) (T : Tt) : Prop := h.2 x = some (.inr (5, [.ref (x + 1), .ref (x + 35), .ref (x + 69), .ref (x + 70), .ref (x + 71), .ref (x + 74), .ref (x + 76), .ref (x + 78), .ref (x + 90), .int (nI (tL T)), .long (tA T), .long (tB T), .int (tR0 T), .int (tR1 T), .int (tR2 T)]))
/-- the class's scratch -/
def XS (h : zH) (x : Nat) : Prop := (∃ D, RD h (x + 35) D) ∧ (∃ W, RW h (x + 71) W) ∧ (∃ (by_ : Nat) (a b c d e : Int32), h.2 (x + 74) = some (.inr (2, [.ref by_, .int a, .int b, .int c, .int d, .int e]))) ∧ (∃ (f : Nat → Int32) (c : Int32), h.2 (x + 76) = some (.inr (3, [.ref (x + 77), .int c])) ∧ MA h (x + 77) 70 f) ∧ h.2 (x + 78) = some (.inr (1, [.ref (x + 79), .ref (x + 80)])) ∧ (∃ f, MA h (x + 79) 3 f) ∧ (∃ g : Nat → Option Nat, h.2 (x + 80) = some (.inl (3, 3, .inr g)) ∧ ∀ i, i < 3 → g i = some (x + 81 + 3 * i)) ∧ ∀ i, i < 3 → ∃ W, RW h (x + 81 + 3 * i) W
def RX (h : zH) (x : Nat) (T : Tt) : Prop := XO h x T ∧ RD h (x + 1) (tD T) ∧ RD h (x + 91) (tI0 T) ∧ RD h (x + 125) (tI1 T) ∧ (∃ g : Nat → Option Nat, h.2 (x + 69) = some (.inl (4, 2, .inr g)) ∧ g 0 = some (x + 91) ∧ g 1 = some (x + 125)) ∧ (∃ f : Nat → Int32, h.2 (x + 70) = some (.inl (2, 2, .inl f)) ∧ f 0 = b2i (tK0 T) ∧ f 1 = b2i (tK1 T)) ∧ (∃ f : Nat → Int32, h.2 (x + 90) = some (.inl (1, 150, .inl f)) ∧ ∀ j, j < tL T → f j = tX T j) ∧ XS h x
/-- the model's rows -/
def RowB (bf : Nat → Int32) (b n : Nat) (W : Wr) : Prop := bf b = W.2.2.2 ∧ bf (b + 1) = W.2.2.1 ∧ (∀ j, j < wL W → bf (b + 2 + j) = W.1 j) ∧ ∀ i, i < n → bf (b + 10 + i) = W.2.1 i
def RowN (nf : Nat → Int32) (D : Dl) : Prop := nf 44 = dNc D ∧ (∀ j, j < 3 * ix (dNc D) → nf (45 + j) = dNt D j) ∧ nf 63 = dMc D ∧ ∀ j, j < 4 * ix (dMc D) → nf (64 + j) = dMk D j
def RowD (nf bf : Nat → Int32) (D : Dl) : Prop := RowS nf (dn D) D.1 ∧ RowW nf (dn D) (wL (dW D)) (dW D) ∧ RowN nf D ∧ ∀ k, k < ix (dPc D) → RowB bf (18 * k) (dn D) (dPv D k)
def RM (h : zH) (m : Nat) (T : Tt) : Prop := ∃ (im sp bg tk va : Int32) (nf sf bf jf jb ju xf rf yf of : Nat → Int32), MO h m (dPc (tD T), im, nI (tL T), tA T, tB T, sp, bg, tk, va) ∧ MA h (m + 1) 88 nf ∧ MA h (m + 2) 88 sf ∧ MA h (m + 3) 144 bf ∧ MA h (m + 4) 176 jf ∧ MA h (m + 5) 288 jb ∧ MA h (m + 6) 2 ju ∧ MA h (m + 7) 150 xf ∧ MA h (m + 8) 3 rf ∧ MA h (m + 9) 256 yf ∧ MA h (m + 10) 8 of
  ∧ RowD nf bf (tD T) ∧ im = nI ((if tK0 T then 1 else 0) + (if tK1 T then 2 else 0)) ∧ (tK0 T = true → ju 0 = dPc (tI0 T) ∧ RowD jf jb (tI0 T)) ∧ (tK1 T = true → ju 1 = dPc (tI1 T) ∧ RowD (fun j => jf (88 + j)) (fun j => jb (144 + j)) (tI1 T)) ∧ (∀ j, j < tL T → xf j = tX T j) ∧ rf 0 = tR0 T ∧ rf 1 = tR1 T ∧ rf 2 = tR2 T
def okT (T : Tt) : Prop := okD (tD T) ∧ (tK0 T = true → okD (tI0 T)) ∧ (tK1 T = true → okD (tI1 T)) ∧ tL T ≤ 150 ∧ ∀ j, j < tL T → ∃ c, c < 128 ∧ tX T j = nI c
theorem XS.keep {h h' : zH} {x lo hi : Nat} (r : XS h x) (f : Fr h h' lo hi) (hd : x + 91 ≤ lo ∨ hi ≤ x + 35) : XS h' x := by
  obtain ⟨⟨D, a⟩, ⟨W, b⟩, ⟨y, a1, b1, c1, d1, e1, c⟩, ⟨g, c2, d, e⟩, i, ⟨k, l⟩, ⟨gg, o, p⟩, q⟩ := r
  refine ⟨⟨D, a.keep f (by omega)⟩, ⟨W, b.keep f (by omega)⟩, ⟨y, a1, b1, c1, d1, e1, (f.2 _ (by omega)).trans c⟩, ⟨g, c2, (f.2 _ (by omega)).trans d, e.keep f (by omega)⟩, (f.2 _ (by omega)).trans i, ⟨k, l.keep f (by omega)⟩, ⟨gg, (f.2 _ (by omega)).trans o, p⟩, fun j hj => ?_⟩
  obtain ⟨W, w⟩ := q j hj
  exact ⟨W, w.keep f (by omega)⟩
theorem RX.keep {h h' : zH} {x lo hi : Nat} {T : Tt} (r : RX h x T) (f : Fr h h' lo hi) (hd : x + 159 ≤ lo ∨ hi ≤ x) : RX h' x T := by
  obtain ⟨a, b, c, d, ⟨g, e1, e2⟩, ⟨g2, f1, f2⟩, ⟨g3, i1, i2⟩, j⟩ := r
  exact ⟨(f.2 _ (by omega)).trans a, b.keep f (by omega), c.keep f (by omega), d.keep f (by omega), ⟨g, (f.2 _ (by omega)).trans e1, e2⟩, ⟨g2, (f.2 _ (by omega)).trans f1, f2⟩, ⟨g3, (f.2 _ (by omega)).trans i1, i2⟩, j.keep f (by omega)⟩
theorem RM.keep {h h' : zH} {m lo hi : Nat} {T : Tt} (r : RM h m T) (f : Fr h h' lo hi) (hd : m + 11 ≤ lo ∨ hi ≤ m) : RM h' m T := by
  obtain ⟨im, sp, bg, tk, va, nf, sf, bf, jf, jb, ju, xf, rf, yf, of, h0, h1, h2, h3, h4, h5, h6, h7, h8, h9, h10, rest⟩ := r
  exact ⟨im, sp, bg, tk, va, nf, sf, bf, jf, jb, ju, xf, rf, yf, of, h0.keep f (by omega), h1.keep f (by omega), h2.keep f (by omega), h3.keep f (by omega), h4.keep f (by omega), h5.keep f (by omega), h6.keep f (by omega), h7.keep f (by omega), h8.keep f (by omega), h9.keep f (by omega), h10.keep f (by omega), rest⟩
/-- one call, on both: the same answer, and the state that T2 tells -/
def Both (fx : Nat → zH → zR) (fm : Nat → zH → zR) : Prop := ∀ (h : zH) (x : Nat) (T : Tt), RX h x T → RM h (x + 159) T → okT T → ∃ (v : Value) (h1 h2 : zH) (T2 : Tt), fx x h = some (some v, h1) ∧ fm (x + 159) h1 = some (some v, h2) ∧ RX h2 x T2 ∧ RM h2 (x + 159) T2 ∧ okT T2 ∧ RM h1 (x + 159) T
/-- each side alone -/
theorem Both.of {fx fm : Nat → zH → zR} (A : Tt → Value) (N : Tt → Tt) (hx : ∀ (h : zH) (x : Nat) (T : Tt), RX h x T → okT T → ∃ h1, fx x h = some (some (A T), h1) ∧ RX h1 x (N T) ∧ Fr h h1 x (x + 159)) (hm : ∀ (h : zH) (m : Nat) (T : Tt), RM h m T → okT T → ∃ h1, fm m h = some (some (A T), h1) ∧ RM h1 m (N T) ∧ Fr h h1 m (m + 11)) (hk : ∀ T, okT T → okT (N T)) : Both fx fm := by
  intro h x T rX rM ok
  obtain ⟨h1, e1, r1, f1⟩ := hx h x T rX ok
  obtain ⟨h2, e2, r2, f2⟩ := hm h1 (x + 159) T (rM.keep f1 (by omega)) ok
  exact ⟨A T, h1, h2, N T, e1, e2, r1.keep f2 (by omega), r2, hk T ok, rM.keep f1 (by omega)⟩
/-! the simplest calls -/
theorem zsI_set {h : zH} {a N : Nat} {f : Nat → Int32} (hA : MA h a N f) (j : Nat) (x : Int32) : MA (zset h a (.inl (0, N, .inl (upd f j x)))) a N (upd f j x) := zset_at _ _ _
abbrev nR0 (T : Tt) : Tt := (tD T, tI0 T, tI1 T, tK0 T, tK1 T, tX T, tL T, tA T, tB T, tR0 T + 1, tR1 T, tR2 T)
abbrev nR1 (T : Tt) : Tt := (tD T, tI0 T, tI1 T, tK0 T, tK1 T, tX T, tL T, tA T, tB T, tR0 T, tR1 T + 1, tR2 T)
abbrev nR2 (T : Tt) : Tt := (tD T, tI0 T, tI1 T, tK0 T, tK1 T, tX T, tL T, tA T, tB T, tR0 T, tR1 T, tR2 T + 1)
theorem RX.obj {h : zH} {x : Nat} {T T2 : Tt} (r : RX h x T) (hT : tD T2 = tD T ∧ tI0 T2 = tI0 T ∧ tI1 T2 = tI1 T ∧ tK0 T2 = tK0 T ∧ tK1 T2 = tK1 T ∧ tX T2 = tX T ∧ tL T2 ≤ tL T) : RX (zset h x (.inr (5, [.ref (x + 1), .ref (x + 35), .ref (x + 69), .ref (x + 70), .ref (x + 71), .ref (x + 74), .ref (x + 76), .ref (x + 78), .ref (x + 90), .int (nI (tL T2)), .long (tA T2), .long (tB T2), .int (tR0 T2), .int (tR1 T2), .int (tR2 T2)]))) x T2 := by
  have f : Fr h (zset h x (.inr (5, [.ref (x + 1), .ref (x + 35), .ref (x + 69), .ref (x + 70), .ref (x + 71), .ref (x + 74), .ref (x + 76), .ref (x + 78), .ref (x + 90), .int (nI (tL T2)), .long (tA T2), .long (tB T2), .int (tR0 T2), .int (tR1 T2), .int (tR2 T2)]))) x (x + 1) := Fr.set _ (by omega) (by omega)
  obtain ⟨a, b, c, d, ⟨g, e1, e2⟩, ⟨g2, f1, f2⟩, ⟨g3, i1, i2⟩, j⟩ := r
  obtain ⟨t1, t2, t3, t4, t5, t6, t7⟩ := hT
  refine ⟨zset_at _ _ _, ?_, ?_, ?_, ⟨g, (f.2 _ (by omega)).trans e1, e2⟩, ⟨g2, (f.2 _ (by omega)).trans f1, ?_⟩, ⟨g3, (f.2 _ (by omega)).trans i1, fun j hj => ?_⟩, j.keep f (by omega)⟩
  · rw [t1]; exact b.keep f (by omega)
  · rw [t2]; exact c.keep f (by omega)
  · rw [t3]; exact d.keep f (by omega)
  · rw [t4, t5]; exact f2
  · rw [t6]; exact i2 j (by omega)
theorem q_X9_refuse {h : zH} {x : Nat} {T : Tt} (r : RX h x T) : (∃ h1, f_X9_refuse x (-102) h = rI (-102) h1 ∧ RX h1 x (nR0 T) ∧ Fr h h1 x (x + 159)) ∧ (∃ h1, f_X9_refuse x (-103) h = rI (-103) h1 ∧ RX h1 x (nR1 T) ∧ Fr h h1 x (x + 159)) ∧ ∃ h1, f_X9_refuse x (-104) h = rI (-104) h1 ∧ RX h1 x (nR2 T) ∧ Fr h h1 x (x + 159) := by
  unfold f_X9_refuse f_X9_refuse_48
  refine ⟨?_, ?_, ?_⟩
  · rw [if_pos rfl, zgI_eq r.1 rfl, zpV_eq r.1 (Nat.le_of_ble_eq_true rfl)]
    exact ⟨_, rfl, r.obj (T2 := nR0 T) ⟨rfl, rfl, rfl, rfl, rfl, rfl, Nat.le_refl _⟩, Fr.set _ (by omega) (by omega)⟩
  · rw [if_neg (by decide), if_pos rfl, zgI_eq r.1 rfl, zpV_eq r.1 (Nat.le_of_ble_eq_true rfl)]
    exact ⟨_, rfl, r.obj (T2 := nR1 T) ⟨rfl, rfl, rfl, rfl, rfl, rfl, Nat.le_refl _⟩, Fr.set _ (by omega) (by omega)⟩
  · rw [if_neg (by decide), if_neg (by decide), zgI_eq r.1 rfl, zpV_eq r.1 (Nat.le_of_ble_eq_true rfl)]
    exact ⟨_, rfl, r.obj (T2 := nR2 T) ⟨rfl, rfl, rfl, rfl, rfl, rfl, Nat.le_refl _⟩, Fr.set _ (by omega) (by omega)⟩
