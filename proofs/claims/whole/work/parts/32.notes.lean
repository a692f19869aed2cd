/-! note, mark, forget -/
def NW (h : zH) (m : Nat) (M : Mo) (nf sf bf : Nat → Int32) : Prop := MO h m M ∧ MA h (m + 1) 88 nf ∧ MA h (m + 2) 88 sf ∧ MA h (m + 3) 144 bf
theorem NW.now {h : zH} {m : Nat} {M : Mo} {nf sf bf : Nat → Int32} (r : NW h m M nf sf bf) (f : Nat → Int32) : NW (zset h (m + 1) (.inl (0, 88, .inl f))) m M f sf bf ∧ Fr h (zset h (m + 1) (.inl (0, 88, .inl f))) m (m + 4) :=
  ⟨⟨(zset_ne _ (by omega)).trans r.1, zset_at _ _ _, (zset_ne _ (by omega)).trans r.2.2.1, (zset_ne _ (by omega)).trans r.2.2.2⟩, Fr.set _ (by omega) (by omega)⟩
theorem NW.side {h : zH} {m : Nat} {M : Mo} {nf sf bf : Nat → Int32} (r : NW h m M nf sf bf) (f : Nat → Int32) : NW (zset h (m + 2) (.inl (0, 88, .inl f))) m M nf f bf ∧ Fr h (zset h (m + 2) (.inl (0, 88, .inl f))) m (m + 4) :=
  ⟨⟨(zset_ne _ (by omega)).trans r.1, (zset_ne _ (by omega)).trans r.2.1, zset_at _ _ _, (zset_ne _ (by omega)).trans r.2.2.2⟩, Fr.set _ (by omega) (by omega)⟩
theorem NW.bef {h : zH} {m : Nat} {M : Mo} {nf sf bf : Nat → Int32} (r : NW h m M nf sf bf) (f : Nat → Int32) : NW (zset h (m + 3) (.inl (0, 144, .inl f))) m M nf sf f ∧ Fr h (zset h (m + 3) (.inl (0, 144, .inl f))) m (m + 4) :=
  ⟨⟨(zset_ne _ (by omega)).trans r.1, (zset_ne _ (by omega)).trans r.2.1, (zset_ne _ (by omega)).trans r.2.2.1, zset_at _ _ _⟩, Fr.set _ (by omega) (by omega)⟩
/-- the model's object -/
abbrev moE (m : Nat) (M : Mo) : zE := .inr (6, [.ref (m + 1), .ref (m + 2), .ref (m + 3), .int M.1, .ref (m + 4), .ref (m + 5), .ref (m + 6), .int M.2.1, .int M.2.2.1, .ref (m + 7), .long M.2.2.2.1, .long M.2.2.2.2.1, .ref (m + 8), .int M.2.2.2.2.2.1, .int M.2.2.2.2.2.2.1, .int M.2.2.2.2.2.2.2.1, .int M.2.2.2.2.2.2.2.2, .ref (m + 9), .ref (m + 10)])
theorem NW.obj {h : zH} {m : Nat} {M : Mo} {nf sf bf : Nat → Int32} (r : NW h m M nf sf bf) (M2 : Mo) : NW (zset h m (moE m M2)) m M2 nf sf bf ∧ Fr h (zset h m (moE m M2)) m (m + 4) :=
  ⟨⟨zset_at _ _ _, (zset_ne _ (by omega)).trans r.2.1, (zset_ne _ (by omega)).trans r.2.2.1, (zset_ne _ (by omega)).trans r.2.2.2⟩, Fr.set _ (by omega) (by omega)⟩
theorem NW.um {h : zH} {m : Nat} {M : Mo} {nf sf bf : Nat → Int32} (r : NW h m M nf sf bf) (v : Int32) {K : zH → zR} : zpV h m 6 3 (.int v) K = K (zset h m (moE m (v, M.2))) := zpV_eq r.1 (Nat.le_of_ble_eq_true rfl)
theorem RM.nw {h : zH} {m : Nat} {T : Tt} (r : RM h m T) : ∃ im, (∃ (sp bg tk va : Int32) (nf sf bf : Nat → Int32), NW h m (dPc (tD T), im, nI (tL T), tA T, tB T, sp, bg, tk, va) nf sf bf ∧ RowD nf bf (tD T)) ∧ ∀ (h' : zH) (D2 : Dl) (sp bg tk va : Int32) (nf sf bf : Nat → Int32), Fr h h' m (m + 4) → NW h' m (dPc D2, im, nI (tL T), tA T, tB T, sp, bg, tk, va) nf sf bf → RowD nf bf D2 → RM h' m (D2, T.2) := by
  obtain ⟨im, ⟨sp, bg, tk, va, nf, sf, bf, h0, h1, h2, h3, a⟩, u⟩ := r.doll
  exact ⟨im, ⟨sp, bg, tk, va, nf, sf, bf, ⟨h0, h1, h2, h3⟩, a⟩, fun h' D2 sp bg tk va nf sf bf f n a => u h' D2 sp bg tk va nf sf bf f n.1 n.2.1 n.2.2.1 n.2.2.2 a⟩
theorem RD.nt {h : zH} {d : Nat} {D : Dl} (r : RD h d D) (f : Nat → Int32) : RD (zset h (d + 8) (.inl (0, 18, .inl f))) d (D.1, dW D, dPc D, dPv D, dNc D, f, dMc D, dMk D) := by
  have F : Fr h (zset h (d + 8) (.inl (0, 18, .inl f))) (d + 8) (d + 9) := Fr.set _ (by omega) (by omega)
  obtain ⟨h1, h2, h3, h4, h5, h6, h7, h8⟩ := r
  exact ⟨(F.2 _ (by omega)).trans h1, h2.keep F (by omega), h3.keep F (by omega), h4.keep F (by omega), h5.keep F (by omega), h6.keep F (by omega), zset_at _ _ _, h8.keep F (by omega)⟩
theorem RD.mk {h : zH} {d : Nat} {D : Dl} (r : RD h d D) (f : Nat → Int32) : RD (zset h (d + 9) (.inl (0, 24, .inl f))) d (D.1, dW D, dPc D, dPv D, dNc D, dNt D, dMc D, f) := by
  have F : Fr h (zset h (d + 9) (.inl (0, 24, .inl f))) (d + 9) (d + 10) := Fr.set _ (by omega) (by omega)
  obtain ⟨h1, h2, h3, h4, h5, h6, h7, h8⟩ := r
  exact ⟨(F.2 _ (by omega)).trans h1, h2.keep F (by omega), h3.keep F (by omega), h4.keep F (by omega), h5.keep F (by omega), h6.keep F (by omega), h7.keep F (by omega), zset_at _ _ _⟩
abbrev rdE (d : Nat) (D : Dl) : zE := .inr (0, [.int D.1.1, .int D.1.2.1, .ref (d + 1), .ref (d + 2), .ref (d + 3), .ref (d + 4), .ref (d + 7), .int (dPc D), .ref (d + 8), .int (dNc D), .ref (d + 9), .int (dMc D)])
def up3 (f : Nat → Int32) (k : Nat) (a b c : Int32) : Nat → Int32 := upd (upd (upd f k a) (k + 1) b) (k + 2) c
def up4 (f : Nat → Int32) (k : Nat) (a b c e : Int32) : Nat → Int32 := upd (upd (upd (upd f k a) (k + 1) b) (k + 2) c) (k + 3) e
theorem up3_lt (f : Nat → Int32) {k j : Nat} (a b c : Int32) (h : j < k) : up3 f k a b c j = f j := by unfold up3; rw [upd_ne _ _ (by omega), upd_ne _ _ (by omega), upd_ne _ _ (by omega)]
theorem up3_ge (f : Nat → Int32) {k j : Nat} (a b c : Int32) (h : k + 3 ≤ j) : up3 f k a b c j = f j := by unfold up3; rw [upd_ne _ _ (by omega), upd_ne _ _ (by omega), upd_ne _ _ (by omega)]
theorem up4_lt (f : Nat → Int32) {k j : Nat} (a b c e : Int32) (h : j < k) : up4 f k a b c e j = f j := by unfold up4; rw [upd_ne _ _ (by omega), upd_ne _ _ (by omega), upd_ne _ _ (by omega), upd_ne _ _ (by omega)]
theorem up4_ge (f : Nat → Int32) {k j : Nat} (a b c e : Int32) (h : k + 4 ≤ j) : up4 f k a b c e j = f j := by unfold up4; rw [upd_ne _ _ (by omega), upd_ne _ _ (by omega), upd_ne _ _ (by omega), upd_ne _ _ (by omega)]
theorem up3_at (f g : Nat → Int32) (k l i : Nat) (a b c : Int32) (h : i < 3) : up3 f k a b c (k + i) = up3 g l a b c (l + i) := by
  unfold up3
  rcases (show i = 0 ∨ i = 1 ∨ i = 2 by omega) with q | q | q <;> subst q
  · rw [upd_ne _ _ (by omega), upd_ne _ _ (by omega), upd_ne _ _ (show l + 0 ≠ l + 2 by omega), upd_ne _ _ (show l + 0 ≠ l + 1 by omega)]
    exact (upd_self _ _ _).trans (upd_self _ _ _).symm
  · rw [upd_ne _ _ (by omega), upd_self, upd_ne _ _ (show l + 1 ≠ l + 2 by omega), upd_self]
  · rw [upd_self, upd_self]
theorem up4_at (f g : Nat → Int32) (k l i : Nat) (a b c e : Int32) (h : i < 4) : up4 f k a b c e (k + i) = up4 g l a b c e (l + i) := by
  unfold up4
  rcases (show i = 0 ∨ i = 1 ∨ i = 2 ∨ i = 3 by omega) with q | q | q | q <;> subst q
  · rw [upd_ne _ _ (by omega), upd_ne _ _ (by omega), upd_ne _ _ (by omega), upd_ne _ _ (show l + 0 ≠ l + 3 by omega), upd_ne _ _ (show l + 0 ≠ l + 2 by omega), upd_ne _ _ (show l + 0 ≠ l + 1 by omega)]
    exact (upd_self _ _ _).trans (upd_self _ _ _).symm
  · rw [upd_ne _ _ (by omega), upd_ne _ _ (by omega), upd_self, upd_ne _ _ (show l + 1 ≠ l + 3 by omega), upd_ne _ _ (show l + 1 ≠ l + 2 by omega), upd_self]
  · rw [upd_ne _ _ (by omega), upd_self, upd_ne _ _ (show l + 2 ≠ l + 3 by omega), upd_self]
  · rw [upd_self, upd_self]
theorem q_X1_addNote {h : zH} {d c : Nat} {D : Dl} (r : RD h d D) (hc : dNc D = nI c) (h6 : c < 6) (a b w : Int32) : ∃ h', f_X1_addNote d a b w h = rV h' ∧ RD h' d (D.1, dW D, dPc D, dPv D, nI (c + 1), up3 (dNt D) (3 * c) a b w, dMc D, dMk D) ∧ Fr h h' d (d + 34) := by
  obtain ⟨S, W, pc, pv, nc, nt, mc, mk⟩ := D
  have hc : nc = nI c := hc
  subst hc
  have e3 : nI c * 3 = nI (3 * c) := by rw [show (3 : Int32) = nI 3 from rfl, pk_mul, Nat.mul_comm]
  have e4 : nI (3 * c) + 2 = nI (3 * c + 2) := nI_add (3 * c) 2
  unfold f_X1_addNote f_X1_addNote_55
  rw [zgI_eq r.1 rfl, if_neg (show ¬ (6 : Int32) ≤ nI c from nI_ge (b := 6) h6 (by decide)), zgI_eq r.1 rfl, zlt_eq, e3, zgR_eq r.1 rfl, zsI_x (nI (3 * c)) (3 * c) rfl r.2.2.2.2.2.2.1 (by omega) (by decide)]
  have r2 : RD _ d (S, W, pc, pv, nI c, upd nt (3 * c) a, mc, mk) := r.nt _
  have f2 : Fr h (zset h (d + 8) (.inl (0, 18, .inl (upd nt (3 * c) a)))) d (d + 34) := Fr.set _ (by omega) (by omega)
  try dsimp only at r2 f2 ⊢
  generalize zset h (d + 8) (.inl (0, 18, .inl (upd nt (3 * c) a))) = g2 at r2 f2 ⊢
  rw [zgR_eq r2.1 rfl, nI_1, zsI_x (nI (3 * c + 1)) (3 * c + 1) rfl r2.2.2.2.2.2.2.1 (by omega) (by decide)]
  have r3 : RD _ d (S, W, pc, pv, nI c, upd (upd nt (3 * c) a) (3 * c + 1) b, mc, mk) := r2.nt _
  have f3 := f2.tr (Fr.set (h := g2) (a := d + 8) (lo := d) (hi := d + 34) (.inl (0, 18, .inl (upd (upd nt (3 * c) a) (3 * c + 1) b))) (by omega) (by omega))
  try dsimp only at r3 f3 ⊢
  generalize zset g2 (d + 8) (.inl (0, 18, .inl (upd (upd nt (3 * c) a) (3 * c + 1) b))) = g3 at r3 f3 ⊢
  rw [zgR_eq r3.1 rfl, e4, zsI_x (nI (3 * c + 2)) (3 * c + 2) rfl r3.2.2.2.2.2.2.1 (by omega) (by decide)]
  have r4 : RD _ d (S, W, pc, pv, nI c, upd (upd (upd nt (3 * c) a) (3 * c + 1) b) (3 * c + 2) w, mc, mk) := r3.nt _
  have f4 := f3.tr (Fr.set (h := g3) (a := d + 8) (lo := d) (hi := d + 34) (.inl (0, 18, .inl (upd (upd (upd nt (3 * c) a) (3 * c + 1) b) (3 * c + 2) w))) (by omega) (by omega))
  try dsimp only at r4 f4 ⊢
  generalize zset g3 (d + 8) (.inl (0, 18, .inl (upd (upd (upd nt (3 * c) a) (3 * c + 1) b) (3 * c + 2) w))) = g4 at r4 f4 ⊢
  rw [zgI_eq r4.1 rfl, nI_1, zpV_eq r4.1 (Nat.le_of_ble_eq_true rfl)]
  exact ⟨_, rfl, r4.obj (D2 := (S, W, pc, pv, nI (c + 1), up3 nt (3 * c) a b w, mc, mk)) rfl rfl rfl rfl rfl, f4.tr (Fr.set _ (by omega) (by omega))⟩
theorem q_X1_addMark {h : zH} {d c : Nat} {D : Dl} (r : RD h d D) (hc : dMc D = nI c) (h6 : c < 6) (a b w y : Int32) : ∃ h', f_X1_addMark d a b w y h = rV h' ∧ RD h' d (D.1, dW D, dPc D, dPv D, dNc D, dNt D, nI (c + 1), up4 (dMk D) (4 * c) a b w y) ∧ Fr h h' d (d + 34) := by
  obtain ⟨S, W, pc, pv, nc, nt, mc, mk⟩ := D
  have hc : mc = nI c := hc
  subst hc
  have e3 : nI c * 4 = nI (4 * c) := by rw [show (4 : Int32) = nI 4 from rfl, pk_mul, Nat.mul_comm]
  have e4 : nI (4 * c) + 2 = nI (4 * c + 2) := nI_add (4 * c) 2
  have e5 : nI (4 * c) + 3 = nI (4 * c + 3) := nI_add (4 * c) 3
  unfold f_X1_addMark f_X1_addMark_66
  rw [zgI_eq r.1 rfl, if_neg (show ¬ (6 : Int32) ≤ nI c from nI_ge (b := 6) h6 (by decide)), zgI_eq r.1 rfl, zlt_eq, e3, zgR_eq r.1 rfl, zsI_x (nI (4 * c)) (4 * c) rfl r.2.2.2.2.2.2.2 (by omega) (by decide)]
  have r2 : RD _ d (S, W, pc, pv, nc, nt, nI c, upd mk (4 * c) a) := r.mk _
  have f2 : Fr h (zset h (d + 9) (.inl (0, 24, .inl (upd mk (4 * c) a)))) d (d + 34) := Fr.set _ (by omega) (by omega)
  try dsimp only at r2 f2 ⊢
  generalize zset h (d + 9) (.inl (0, 24, .inl (upd mk (4 * c) a))) = g2 at r2 f2 ⊢
  rw [zgR_eq r2.1 rfl, nI_1, zsI_x (nI (4 * c + 1)) (4 * c + 1) rfl r2.2.2.2.2.2.2.2 (by omega) (by decide)]
  have r3 : RD _ d (S, W, pc, pv, nc, nt, nI c, upd (upd mk (4 * c) a) (4 * c + 1) b) := r2.mk _
  have f3 := f2.tr (Fr.set (h := g2) (a := d + 9) (lo := d) (hi := d + 34) (.inl (0, 24, .inl (upd (upd mk (4 * c) a) (4 * c + 1) b))) (by omega) (by omega))
  try dsimp only at r3 f3 ⊢
  generalize zset g2 (d + 9) (.inl (0, 24, .inl (upd (upd mk (4 * c) a) (4 * c + 1) b))) = g3 at r3 f3 ⊢
  rw [zgR_eq r3.1 rfl, e4, zsI_x (nI (4 * c + 2)) (4 * c + 2) rfl r3.2.2.2.2.2.2.2 (by omega) (by decide)]
  have r4 : RD _ d (S, W, pc, pv, nc, nt, nI c, upd (upd (upd mk (4 * c) a) (4 * c + 1) b) (4 * c + 2) w) := r3.mk _
  have f4 := f3.tr (Fr.set (h := g3) (a := d + 9) (lo := d) (hi := d + 34) (.inl (0, 24, .inl (upd (upd (upd mk (4 * c) a) (4 * c + 1) b) (4 * c + 2) w))) (by omega) (by omega))
  try dsimp only at r4 f4 ⊢
  generalize zset g3 (d + 9) (.inl (0, 24, .inl (upd (upd (upd mk (4 * c) a) (4 * c + 1) b) (4 * c + 2) w))) = g4 at r4 f4 ⊢
  rw [zgR_eq r4.1 rfl, e5, zsI_x (nI (4 * c + 3)) (4 * c + 3) rfl r4.2.2.2.2.2.2.2 (by omega) (by decide)]
  have r5 : RD _ d (S, W, pc, pv, nc, nt, nI c, upd (upd (upd (upd mk (4 * c) a) (4 * c + 1) b) (4 * c + 2) w) (4 * c + 3) y) := r4.mk _
  have f5 := f4.tr (Fr.set (h := g4) (a := d + 9) (lo := d) (hi := d + 34) (.inl (0, 24, .inl (upd (upd (upd (upd mk (4 * c) a) (4 * c + 1) b) (4 * c + 2) w) (4 * c + 3) y))) (by omega) (by omega))
  try dsimp only at r5 f5 ⊢
  generalize zset g4 (d + 9) (.inl (0, 24, .inl (upd (upd (upd (upd mk (4 * c) a) (4 * c + 1) b) (4 * c + 2) w) (4 * c + 3) y))) = g5 at r5 f5 ⊢
  rw [zgI_eq r5.1 rfl, nI_1, zpV_eq r5.1 (Nat.le_of_ble_eq_true rfl)]
  exact ⟨_, rfl, r5.obj (D2 := (S, W, pc, pv, nc, nt, nI (c + 1), up4 mk (4 * c) a b w y)) rfl rfl rfl rfl rfl, f5.tr (Fr.set _ (by omega) (by omega))⟩
theorem NW.st {h : zH} {m : Nat} {M : Mo} {nf sf bf : Nat → Int32} (r : NW h m M nf sf bf) (i : Int32) (j : Nat) (hi : i = nI j) (hj : j < 88) (x : Int32) {K : zH → zR} : (zgR h m 6 0 fun a => zsI h a 0 i x K) = K (zset h (m + 1) (.inl (0, 88, .inl (upd nf j x)))) := by
  rw [zgR_eq r.1 rfl, zsI_x i j hi r.2.1 hj (by decide)]
theorem NW.ld {h : zH} {m : Nat} {M : Mo} {nf sf bf : Nat → Int32} (r : NW h m M nf sf bf) (i : Int32) (j : Nat) (hi : i = nI j) (hj : j < 88) {K : Int32 → zR} : (zgR h m 6 0 fun a => zaI h a 0 i K) = K (nf j) := by
  rw [zgR_eq r.1 rfl, zaI_x i j hi r.2.1 hj (by decide)]
/-- a part of the row that isn't the notes' -/
theorem RowD.far {nf nf2 bf : Nat → Int32} {D D2 : Dl} (r : RowD nf bf D) (o : okD D) (hk : ∀ j, j < 44 → nf2 j = nf j) (e1 : D2.1 = D.1) (e2 : dW D2 = dW D) (e3 : dPc D2 = dPc D) (e4 : dPv D2 = dPv D) (n : RowN nf2 D2) : RowD nf2 bf D2 := by
  obtain ⟨⟨s1, s2, s3⟩, ⟨w1, w2, w3, w4⟩, -, p⟩ := r
  have hn : dn D ≤ 8 := o.1.2.1
  have hL : wL (dW D) ≤ 8 := Nat.le_trans o.2.1.1.2.1 hn
  unfold RowD dn
  rw [e1, e2, e3, e4]
  refine ⟨⟨(hk 0 (by omega)).trans s1, (hk 1 (by omega)).trans s2, fun i hi => ?_⟩, ⟨(hk 2 (by omega)).trans w1, (hk 3 (by omega)).trans w2, fun k hq => ?_, fun i hi => ?_⟩, n, p⟩
  · have hi : i < dn D := hi
    rw [hk _ (by omega), hk _ (by omega), hk _ (by omega)]; exact s3 i hi
  · rw [hk _ (by omega)]; exact w3 k hq
  · have hi : i < dn D := hi
    rw [hk _ (by omega)]; exact w4 i hi
theorem bits3 {a b c : Bool} : (a && b && c) = false → a = false ∨ (a = true ∧ b = false) ∨ (a = true ∧ b = true ∧ c = false) := by
  cases a <;> cases b <;> cases c <;> simp
theorem op_note (a b w : Int32) : Both (fun x => f_X9_note x a b w) (fun m => f_X10_note m a b w) := by
  cases hc : (rng 0 3 a && rng a 3 b && rng 0 1 w) with
  | false =>
    refine bothBad ?_ ?_
    · intro h x T r h1 e1
      show f_X9_note x a b w h = _
      unfold f_X9_note f_X9_note_27
      rw [zcI_of (q_X9_in _ _ _ h), zcI_of (q_X9_in _ _ _ h), zcI_of (q_X9_in _ _ _ h), zoc_eq r.1, zcI_of e1]
      rcases bits3 hc with q | ⟨q1, q⟩ | ⟨q1, q2, q⟩
      · rw [q, if_pos (by decide)]; rfl
      · rw [q1, if_neg (by decide), q, if_pos (by decide)]; rfl
      · rw [q1, if_neg (by decide), q2, if_neg (by decide), q, if_pos (by decide)]; rfl
    · intro h m T r h1 e1
      obtain ⟨im, sp, bg, tk, va, h0⟩ := r.mo
      show f_X10_note m a b w h = _
      unfold f_X10_note f_X10_note_35
      rw [zcI_of (q_X10_inn a 0 3 (A := 0) (B := 3) (by decide) (by decide) h), zcI_of (q_X10_inn b a 3 (A := a.toInt64) (B := 3) rfl (by decide) h), zcI_of (q_X10_inn w 0 1 (A := 0) (B := 1) (by decide) (by decide) h), zoc_eq h0, zcI_of e1]
      rcases bits3 hc with q | ⟨q1, q⟩ | ⟨q1, q2, q⟩
      · rw [q, if_pos (by decide)]; rfl
      · rw [q1, if_neg (by decide), q, if_pos (by decide)]; rfl
      · rw [q1, if_neg (by decide), q2, if_neg (by decide), q, if_pos (by decide)]; rfl
  | true =>
    have hc1 : rng 0 3 a = true ∧ rng a 3 b = true ∧ rng 0 1 w = true := by
      rw [Bool.and_eq_true, Bool.and_eq_true] at hc
      exact ⟨hc.1.1, hc.1.2, hc.2⟩
    obtain ⟨ca, cb, cw⟩ := hc1
    refine Both.of (fun T => if ix (dNc (tD T)) < 6 then .int (nI (ix (dNc (tD T)) + 1)) else .int (-104)) (fun T => if ix (dNc (tD T)) < 6 then (((tD T).1, dW (tD T), dPc (tD T), dPv (tD T), nI (ix (dNc (tD T)) + 1), up3 (dNt (tD T)) (3 * ix (dNc (tD T))) a b w, dMc (tD T), dMk (tD T)), T.2) else nR2 T) ?_ ?_ ?_
    · intro h x T r o
      obtain ⟨c, hc6, ec⟩ := o.1.2.2.2.1
      have ei : ix (dNc (tD T)) = c := by rw [ec, ix_nI (by omega)]
      show ∃ h1, f_X9_note x a b w h = _ ∧ _
      unfold f_X9_note
      rw [zcI_of (q_X9_in _ _ _ h), ca, if_neg (by decide), zcI_of (q_X9_in _ _ _ h), cb, if_neg (by decide), zcI_of (q_X9_in _ _ _ h), cw, if_neg (by decide), zgR_eq r.1 rfl, zgI_eq r.2.1.1 rfl]
      by_cases q : c < 6
      · obtain ⟨h1, e1, r1, f1⟩ := q_X1_addNote r.2.1 ec q a b w
        have rx := r.doll (f1.wide (by omega) (by omega)) r1
        simp only [ei, if_pos q]
        rw [if_pos (show dNc (tD T) < 6 by rw [ec]; exact nI_lt (b := 6) q (by decide)), zgR_eq r.1 rfl, zoc_eq r.2.1.1, zcV_of e1, zgR_eq rx.1 rfl, zgI_eq r1.1 rfl]
        exact ⟨h1, rfl, rx, f1.wide (by omega) (by omega)⟩
      · obtain ⟨h1, e1, r1, f1⟩ := (q_X9_refuse r).2.2
        simp only [ei, if_neg q]
        rw [if_neg (show ¬ dNc (tD T) < 6 by rw [ec]; exact nI_nlt (b := 6) (by omega) (by omega)), zoc_eq r.1, zcI_of e1]
        exact ⟨h1, rfl, r1, f1⟩
    · intro h m T r o
      obtain ⟨c, hc6, ec⟩ := o.1.2.2.2.1
      have ei : ix (dNc (tD T)) = c := by rw [ec, ix_nI (by omega)]
      obtain ⟨im, ⟨sp, bg, tk, va, nf, sf, bf, n0, a0⟩, u⟩ := r.nw
      obtain ⟨b1, b2, b3, b4⟩ := a0.2.2.1
      rw [ec] at b1
      show ∃ h1, f_X10_note m a b w h = _ ∧ _
      unfold f_X10_note
      rw [zcI_of (q_X10_inn a 0 3 (A := 0) (B := 3) (by decide) (by decide) h), ca, if_neg (by decide), zcI_of (q_X10_inn b a 3 (A := a.toInt64) (B := 3) rfl (by decide) h), cb, if_neg (by decide), zcI_of (q_X10_inn w 0 1 (A := 0) (B := 1) (by decide) (by decide) h), cw, if_neg (by decide), n0.ld 44 44 rfl (by decide), b1]
      by_cases q : c < 6
      · simp only [ei, if_pos q]
        have e3 : 45 + 3 * nI c = nI (45 + 3 * c) := by rw [show (3 : Int32) = nI 3 from rfl, pk_mul]; exact nI_add 45 _
        have e4 : nI (45 + 3 * c) + 2 = nI (45 + 3 * c + 2) := nI_add _ 2
        rw [if_neg (show ¬ nI c = 6 from fun z => by have := (nI_eq (b := 6) (by omega) (by decide)).mp z; omega), n0.ld 44 44 rfl (by decide), b1, zlt_eq, e3, n0.st (nI (45 + 3 * c)) (45 + 3 * c) rfl (by omega)]
        obtain ⟨n1, f1⟩ := n0.now (upd nf (45 + 3 * c) a)
        generalize zset h (m + 1) (.inl (0, 88, .inl (upd nf (45 + 3 * c) a))) = g1 at n1 f1 ⊢
        rw [nI_1, n1.st (nI (45 + 3 * c + 1)) (45 + 3 * c + 1) rfl (by omega)]
        obtain ⟨n2, f2⟩ := n1.now (upd (upd nf (45 + 3 * c) a) (45 + 3 * c + 1) b)
        generalize zset g1 (m + 1) (.inl (0, 88, .inl (upd (upd nf (45 + 3 * c) a) (45 + 3 * c + 1) b))) = g2 at n2 f2 ⊢
        rw [e4, n2.st (nI (45 + 3 * c + 2)) (45 + 3 * c + 2) rfl (by omega)]
        obtain ⟨n3, f3⟩ := n2.now (up3 nf (45 + 3 * c) a b w)
        rw [show upd (upd (upd nf (45 + 3 * c) a) (45 + 3 * c + 1) b) (45 + 3 * c + 2) w = up3 nf (45 + 3 * c) a b w from rfl]
        generalize zset g2 (m + 1) (.inl (0, 88, .inl (up3 nf (45 + 3 * c) a b w))) = g3 at n3 f3 ⊢
        rw [zgR_eq n3.1 rfl, zaI_x 44 44 rfl n3.2.1 (by decide) (by decide), zsI_x 44 44 rfl n3.2.1 (by decide) (by decide), up3_lt _ _ _ _ (by omega), b1, nI_1]
        obtain ⟨n4, f4⟩ := n3.now (upd (up3 nf (45 + 3 * c) a b w) 44 (nI (c + 1)))
        generalize zset g3 (m + 1) (.inl (0, 88, .inl (upd (up3 nf (45 + 3 * c) a b w) 44 (nI (c + 1))))) = g4 at n4 f4 ⊢
        rw [n4.ld 44 44 rfl (by decide), upd_self]
        refine ⟨g4, rfl, u g4 _ sp bg tk va _ sf bf (((f1.tr f2).tr f3).tr f4) n4 (a0.far o.1 (fun j hj => ?_) rfl rfl rfl rfl ⟨?_, fun j hj => ?_, ?_, fun j hj => ?_⟩), (((f1.tr f2).tr f3).tr f4).wide (by omega) (by omega)⟩
        · rw [upd_ne _ _ (by omega), up3_lt _ _ _ _ (by omega)]
        · rw [upd_self]
        · have hj : j < 3 * (c + 1) := by
            have z : j < 3 * ix (nI (c + 1)) := hj
            rw [ix_nI (by omega)] at z; exact z
          rw [upd_ne _ _ (by omega)]
          show up3 nf (45 + 3 * c) a b w (45 + j) = up3 (dNt (tD T)) (3 * c) a b w j
          by_cases z : j < 3 * c
          · rw [up3_lt _ _ _ _ (by omega), up3_lt _ _ _ _ z]; exact b2 j (by rw [ei]; exact z)
          · have := up3_at nf (dNt (tD T)) (45 + 3 * c) (3 * c) (j - 3 * c) a b w (by omega)
            rw [show 45 + 3 * c + (j - 3 * c) = 45 + j by omega, show 3 * c + (j - 3 * c) = j by omega] at this
            exact this
        · rw [upd_ne _ _ (by omega), up3_ge _ _ _ _ (by omega)]; exact b3
        · rw [upd_ne _ _ (by omega), up3_ge _ _ _ _ (by omega)]; exact b4 j hj
      · obtain ⟨h1, e1, r1, f1⟩ := q_X10_full r
        simp only [ei, if_neg q]
        rw [if_pos (show nI c = 6 by rw [show c = 6 by omega]; rfl), zoc_eq n0.1, zcI_of e1]
        exact ⟨h1, rfl, r1, f1⟩
    · intro T o
      obtain ⟨c, hc6, ec⟩ := o.1.2.2.2.1
      have ei : ix (dNc (tD T)) = c := by rw [ec, ix_nI (by omega)]
      by_cases q : c < 6
      · simp only [ei, if_pos q]
        exact ⟨⟨o.1.1, o.1.2.1, o.1.2.2.1, ⟨c + 1, by omega, rfl⟩, o.1.2.2.2.2⟩, o.2⟩
      · simp only [ei, if_neg q]; exact o.r2
