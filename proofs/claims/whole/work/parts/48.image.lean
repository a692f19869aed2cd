/-! image, from -/
def filO (f g : Nat → Int32) (b k : Nat) : Nat → Int32 := fun j => if b ≤ j ∧ j < b + k then f (j - b) else g j
theorem filO_0 (f g : Nat → Int32) (b : Nat) : filO f g b 0 = g := by
  funext j
  unfold filO
  rw [if_neg (by omega)]
theorem filO_s (f g : Nat → Int32) (b k : Nat) : upd (filO f g b k) (b + k) (f k) = filO f g b (k + 1) := by
  funext j
  unfold upd filO
  by_cases c : j = b + k
  · subst c
    rw [if_pos rfl, if_pos (by omega), show b + k - b = k by omega]
  · rw [if_neg c]
    by_cases c2 : b ≤ j ∧ j < b + k
    · rw [if_pos c2, if_pos (by omega)]
    · rw [if_neg c2, if_neg (by omega)]
theorem filO_in {f g : Nat → Int32} {b k j : Nat} (h : j < k) : filO f g b k (b + j) = f j := by
  unfold filO
  rw [if_pos (by omega), show b + j - b = j by omega]
theorem filO_out {f g : Nat → Int32} {b k j : Nat} (h : j < b ∨ b + k ≤ j) : filO f g b k j = g j := by
  unfold filO
  rw [if_neg (by omega)]
/-- the model's ten rows and its object -/
def MAll (h : zH) (m : Nat) (M : Mo) (nf sf bf jf jb ju xf rf yf of : Nat → Int32) : Prop := MO h m M ∧ MA h (m + 1) 88 nf ∧ MA h (m + 2) 88 sf ∧ MA h (m + 3) 144 bf ∧ MA h (m + 4) 176 jf ∧ MA h (m + 5) 288 jb ∧ MA h (m + 6) 2 ju ∧ MA h (m + 7) 150 xf ∧ MA h (m + 8) 3 rf ∧ MA h (m + 9) 256 yf ∧ MA h (m + 10) 8 of
section MAL
variable {h : zH} {m : Nat} {M : Mo} {nf sf bf jf jb ju xf rf yf of : Nat → Int32}
theorem MAll.s1 (r : MAll h m M nf sf bf jf jb ju xf rf yf of) (g : Nat → Int32) : MAll (zset h (m + 1) (.inl (0, 88, .inl g))) m M g sf bf jf jb ju xf rf yf of ∧ Fr h (zset h (m + 1) (.inl (0, 88, .inl g))) m (m + 11) := by
  obtain ⟨h0, h1, h2, h3, h4, h5, h6, h7, h8, h9, h10⟩ := r
  refine ⟨⟨?_, zset_at _ _ _, ?_, ?_, ?_, ?_, ?_, ?_, ?_, ?_, ?_⟩, Fr.set _ (by omega) (by omega)⟩ <;> (refine (zset_ne _ (by omega)).trans ?_; assumption)
theorem MAll.s3 (r : MAll h m M nf sf bf jf jb ju xf rf yf of) (g : Nat → Int32) : MAll (zset h (m + 3) (.inl (0, 144, .inl g))) m M nf sf g jf jb ju xf rf yf of ∧ Fr h (zset h (m + 3) (.inl (0, 144, .inl g))) m (m + 11) := by
  obtain ⟨h0, h1, h2, h3, h4, h5, h6, h7, h8, h9, h10⟩ := r
  refine ⟨⟨?_, ?_, ?_, zset_at _ _ _, ?_, ?_, ?_, ?_, ?_, ?_, ?_⟩, Fr.set _ (by omega) (by omega)⟩ <;> (refine (zset_ne _ (by omega)).trans ?_; assumption)
theorem MAll.s4 (r : MAll h m M nf sf bf jf jb ju xf rf yf of) (g : Nat → Int32) : MAll (zset h (m + 4) (.inl (0, 176, .inl g))) m M nf sf bf g jb ju xf rf yf of ∧ Fr h (zset h (m + 4) (.inl (0, 176, .inl g))) m (m + 11) := by
  obtain ⟨h0, h1, h2, h3, h4, h5, h6, h7, h8, h9, h10⟩ := r
  refine ⟨⟨?_, ?_, ?_, ?_, zset_at _ _ _, ?_, ?_, ?_, ?_, ?_, ?_⟩, Fr.set _ (by omega) (by omega)⟩ <;> (refine (zset_ne _ (by omega)).trans ?_; assumption)
theorem MAll.s5 (r : MAll h m M nf sf bf jf jb ju xf rf yf of) (g : Nat → Int32) : MAll (zset h (m + 5) (.inl (0, 288, .inl g))) m M nf sf bf jf g ju xf rf yf of ∧ Fr h (zset h (m + 5) (.inl (0, 288, .inl g))) m (m + 11) := by
  obtain ⟨h0, h1, h2, h3, h4, h5, h6, h7, h8, h9, h10⟩ := r
  refine ⟨⟨?_, ?_, ?_, ?_, ?_, zset_at _ _ _, ?_, ?_, ?_, ?_, ?_⟩, Fr.set _ (by omega) (by omega)⟩ <;> (refine (zset_ne _ (by omega)).trans ?_; assumption)
theorem MAll.s6 (r : MAll h m M nf sf bf jf jb ju xf rf yf of) (g : Nat → Int32) : MAll (zset h (m + 6) (.inl (0, 2, .inl g))) m M nf sf bf jf jb g xf rf yf of ∧ Fr h (zset h (m + 6) (.inl (0, 2, .inl g))) m (m + 11) := by
  obtain ⟨h0, h1, h2, h3, h4, h5, h6, h7, h8, h9, h10⟩ := r
  refine ⟨⟨?_, ?_, ?_, ?_, ?_, ?_, zset_at _ _ _, ?_, ?_, ?_, ?_⟩, Fr.set _ (by omega) (by omega)⟩ <;> (refine (zset_ne _ (by omega)).trans ?_; assumption)
theorem MAll.s9 (r : MAll h m M nf sf bf jf jb ju xf rf yf of) (g : Nat → Int32) : MAll (zset h (m + 9) (.inl (0, 256, .inl g))) m M nf sf bf jf jb ju xf rf g of ∧ Fr h (zset h (m + 9) (.inl (0, 256, .inl g))) m (m + 11) := by
  obtain ⟨h0, h1, h2, h3, h4, h5, h6, h7, h8, h9, h10⟩ := r
  refine ⟨⟨?_, ?_, ?_, ?_, ?_, ?_, ?_, ?_, ?_, zset_at _ _ _, ?_⟩, Fr.set _ (by omega) (by omega)⟩ <;> (refine (zset_ne _ (by omega)).trans ?_; assumption)
theorem MAll.s10 (r : MAll h m M nf sf bf jf jb ju xf rf yf of) (g : Nat → Int32) : MAll (zset h (m + 10) (.inl (0, 8, .inl g))) m M nf sf bf jf jb ju xf rf yf g ∧ Fr h (zset h (m + 10) (.inl (0, 8, .inl g))) m (m + 11) := by
  obtain ⟨h0, h1, h2, h3, h4, h5, h6, h7, h8, h9, h10⟩ := r
  refine ⟨⟨?_, ?_, ?_, ?_, ?_, ?_, ?_, ?_, ?_, ?_, zset_at _ _ _⟩, Fr.set _ (by omega) (by omega)⟩ <;> (refine (zset_ne _ (by omega)).trans ?_; assumption)
theorem MAll.obj (r : MAll h m M nf sf bf jf jb ju xf rf yf of) (M2 : Mo) : MAll (zset h m (moE m M2)) m M2 nf sf bf jf jb ju xf rf yf of ∧ Fr h (zset h m (moE m M2)) m (m + 11) := by
  obtain ⟨h0, h1, h2, h3, h4, h5, h6, h7, h8, h9, h10⟩ := r
  refine ⟨⟨zset_at _ _ _, ?_, ?_, ?_, ?_, ?_, ?_, ?_, ?_, ?_, ?_⟩, Fr.set _ (by omega) (by omega)⟩ <;> (refine (zset_ne _ (by omega)).trans ?_; assumption)
theorem q_X10_image_17 (r : MAll h m M nf sf bf jf jb ju xf rf yf of) {i : Nat} (hi : i < 2) : ∃ h', f_X10_image_17 zF m (nI i) 0 h = rI 1 h' ∧ MAll h' m (M.1, M.2.1 ||| (1 <<< (nI i &&& 31)), M.2.2) nf sf bf (filO nf jf (88 * i) 88) (filO bf jb (144 * i) 144) (upd ju i M.1) xf rf yf of ∧ Fr h h' m (m + 11) := by
  have x1 : ∀ k, 88 * nI i + nI k = nI (88 * i + k) := fun k => by rw [show (88 : Int32) = nI 88 from rfl, pk_mul, nI_add]
  have x2 : ∀ k, 144 * nI i + nI k = nI (144 * i + k) := fun k => by rw [show (144 : Int32) = nI 144 from rfl, pk_mul, nI_add]
  refine zloopE (fun f k g => f_X10_image_17 f m (nI i) (nI k) g) (fun k g => MAll g m M nf sf bf (filO nf jf (88 * i) k) jb ju xf rf yf of ∧ Fr h g m (m + 11)) 88 (fun z => ∃ h', z = rI 1 h' ∧ MAll h' m (M.1, M.2.1 ||| (1 <<< (nI i &&& 31)), M.2.2) nf sf bf (filO nf jf (88 * i) 88) (filO bf jb (144 * i) 144) (upd ju i M.1) xf rf yf of ∧ Fr h h' m (m + 11)) ?_ ?_ zF 0 h (Nat.zero_le _) (zF_gt (by omega)) ⟨by rw [filO_0]; exact r, Fr.rf⟩
  · intro f g ⟨r1, F1⟩
    show ∃ h', f_X10_image_17 (f + 1) m (nI i) (nI 88) g = _ ∧ _
    rw [f_X10_image_17, if_pos (show (88 : Int32) ≤ nI 88 from Int32.le_refl _)]
    refine zloopE (fun f k g => f_X10_image_48 f m (nI i) (nI k) g) (fun k g => MAll g m M nf sf bf (filO nf jf (88 * i) 88) (filO bf jb (144 * i) k) ju xf rf yf of ∧ Fr h g m (m + 11)) 144 (fun z => ∃ h', z = rI 1 h' ∧ MAll h' m (M.1, M.2.1 ||| (1 <<< (nI i &&& 31)), M.2.2) nf sf bf (filO nf jf (88 * i) 88) (filO bf jb (144 * i) 144) (upd ju i M.1) xf rf yf of ∧ Fr h h' m (m + 11)) ?_ ?_ zF 0 g (Nat.zero_le _) (zF_gt (by omega)) ⟨by rw [filO_0]; exact r1, F1⟩
    · intro f g ⟨r2, F2⟩
      show ∃ h', f_X10_image_48 (f + 1) m (nI i) (nI 144) g = _ ∧ _
      rw [f_X10_image_48, if_pos (show (144 : Int32) ≤ nI 144 from Int32.le_refl _), zgR_eq r2.1 rfl, zgI_eq r2.1 rfl, zsI_x (nI i) i rfl r2.2.2.2.2.2.2.1 hi (by decide)]
      obtain ⟨r3, F3⟩ := r2.s6 (upd ju i M.1)
      generalize zset g (m + 6) (.inl (0, 2, .inl (upd ju i M.1))) = g3 at r3 F3 ⊢
      rw [zgI_eq r3.1 rfl, zpV_eq r3.1 (Nat.le_of_ble_eq_true rfl)]
      obtain ⟨r4, F4⟩ := r3.obj (M.1, M.2.1 ||| (1 <<< (nI i &&& 31)), M.2.2)
      exact ⟨_, rfl, r4, (F2.tr F3).tr F4⟩
    · intro f k g hk ⟨r2, F2⟩
      obtain ⟨r3, F3⟩ := r2.s5 (filO bf jb (144 * i) (k + 1))
      refine ⟨_, ⟨r3, F2.tr F3⟩, ?_⟩
      show f_X10_image_48 (f + 1) m (nI i) (nI k) g = f_X10_image_48 f m (nI i) (nI (k + 1)) _
      rw [f_X10_image_48, if_neg (show ¬ (144 : Int32) ≤ nI k from nI_ge (b := 144) hk (by decide)), zgR_eq r2.1 rfl, zgR_eq r2.1 rfl, zaI_nI r2.2.2.2.1 hk (by decide), zsI_x (144 * nI i + nI k) (144 * i + k) (x2 k) r2.2.2.2.2.2.1 (by omega) (by decide), nI_1, filO_s]
  · intro f k g hk ⟨r2, F2⟩
    obtain ⟨r3, F3⟩ := r2.s4 (filO nf jf (88 * i) (k + 1))
    refine ⟨_, ⟨r3, F2.tr F3⟩, ?_⟩
    show f_X10_image_17 (f + 1) m (nI i) (nI k) g = f_X10_image_17 f m (nI i) (nI (k + 1)) _
    rw [f_X10_image_17, if_neg (show ¬ (88 : Int32) ≤ nI k from nI_ge (b := 88) hk (by decide)), zgR_eq r2.1 rfl, zgR_eq r2.1 rfl, zaI_nI r2.2.1 hk (by decide), zsI_x (88 * nI i + nI k) (88 * i + k) (x1 k) r2.2.2.2.2.1 (by omega) (by decide), nI_1, filO_s]
theorem q_X10_from_33 (r : MAll h m M nf sf bf jf jb ju xf rf yf of) {i : Nat} (hi : i < 2) : ∃ h', f_X10_from_33 zF m (nI i) 0 h = rI 1 h' ∧ MAll h' m (ju i, M.2) (filF (fun j => jf (88 * i + j)) nf 88) sf (filF (fun j => jb (144 * i + j)) bf 144) jf jb ju xf rf yf of ∧ Fr h h' m (m + 11) := by
  have x1 : ∀ k, 88 * nI i + nI k = nI (88 * i + k) := fun k => by rw [show (88 : Int32) = nI 88 from rfl, pk_mul, nI_add]
  have x2 : ∀ k, 144 * nI i + nI k = nI (144 * i + k) := fun k => by rw [show (144 : Int32) = nI 144 from rfl, pk_mul, nI_add]
  refine zloopE (fun f k g => f_X10_from_33 f m (nI i) (nI k) g) (fun k g => MAll g m M (filF (fun j => jf (88 * i + j)) nf k) sf bf jf jb ju xf rf yf of ∧ Fr h g m (m + 11)) 88 (fun z => ∃ h', z = rI 1 h' ∧ MAll h' m (ju i, M.2) (filF (fun j => jf (88 * i + j)) nf 88) sf (filF (fun j => jb (144 * i + j)) bf 144) jf jb ju xf rf yf of ∧ Fr h h' m (m + 11)) ?_ ?_ zF 0 h (Nat.zero_le _) (zF_gt (by omega)) ⟨by rw [filF_0]; exact r, Fr.rf⟩
  · intro f g ⟨r1, F1⟩
    show ∃ h', f_X10_from_33 (f + 1) m (nI i) (nI 88) g = _ ∧ _
    rw [f_X10_from_33, if_pos (show (88 : Int32) ≤ nI 88 from Int32.le_refl _)]
    refine zloopE (fun f k g => f_X10_from_64 f m (nI i) (nI k) g) (fun k g => MAll g m M (filF (fun j => jf (88 * i + j)) nf 88) sf (filF (fun j => jb (144 * i + j)) bf k) jf jb ju xf rf yf of ∧ Fr h g m (m + 11)) 144 (fun z => ∃ h', z = rI 1 h' ∧ MAll h' m (ju i, M.2) (filF (fun j => jf (88 * i + j)) nf 88) sf (filF (fun j => jb (144 * i + j)) bf 144) jf jb ju xf rf yf of ∧ Fr h h' m (m + 11)) ?_ ?_ zF 0 g (Nat.zero_le _) (zF_gt (by omega)) ⟨by rw [filF_0]; exact r1, F1⟩
    · intro f g ⟨r2, F2⟩
      show ∃ h', f_X10_from_64 (f + 1) m (nI i) (nI 144) g = _ ∧ _
      rw [f_X10_from_64, if_pos (show (144 : Int32) ≤ nI 144 from Int32.le_refl _), zgR_eq r2.1 rfl, zaI_nI r2.2.2.2.2.2.2.1 hi (by decide), zpV_eq r2.1 (Nat.le_of_ble_eq_true rfl)]
      obtain ⟨r4, F4⟩ := r2.obj (ju i, M.2)
      exact ⟨_, rfl, r4, F2.tr F4⟩
    · intro f k g hk ⟨r2, F2⟩
      obtain ⟨r3, F3⟩ := r2.s3 (filF (fun j => jb (144 * i + j)) bf (k + 1))
      refine ⟨_, ⟨r3, F2.tr F3⟩, ?_⟩
      show f_X10_from_64 (f + 1) m (nI i) (nI k) g = f_X10_from_64 f m (nI i) (nI (k + 1)) _
      rw [f_X10_from_64, if_neg (show ¬ (144 : Int32) ≤ nI k from nI_ge (b := 144) hk (by decide)), zgR_eq r2.1 rfl, zgR_eq r2.1 rfl, zaI_x (144 * nI i + nI k) (144 * i + k) (x2 k) r2.2.2.2.2.2.1 (by omega) (by decide), zsI_x (nI k) k rfl r2.2.2.2.1 hk (by decide), nI_1]
      show f_X10_from_64 f m (nI i) (nI (k + 1)) (zset g (m + 3) (.inl (0, 144, .inl (upd (filF (fun j => jb (144 * i + j)) bf k) k ((fun j => jb (144 * i + j)) k))))) = _
      rw [filF_s]
  · intro f k g hk ⟨r2, F2⟩
    obtain ⟨r3, F3⟩ := r2.s1 (filF (fun j => jf (88 * i + j)) nf (k + 1))
    refine ⟨_, ⟨r3, F2.tr F3⟩, ?_⟩
    show f_X10_from_33 (f + 1) m (nI i) (nI k) g = f_X10_from_33 f m (nI i) (nI (k + 1)) _
    rw [f_X10_from_33, if_neg (show ¬ (88 : Int32) ≤ nI k from nI_ge (b := 88) hk (by decide)), zgR_eq r2.1 rfl, zgR_eq r2.1 rfl, zaI_x (88 * nI i + nI k) (88 * i + k) (x1 k) r2.2.2.2.2.1 (by omega) (by decide), zsI_x (nI k) k rfl r2.2.1 hk (by decide), nI_1]
    show f_X10_from_33 f m (nI i) (nI (k + 1)) (zset g (m + 1) (.inl (0, 88, .inl (upd (filF (fun j => jf (88 * i + j)) nf k) k ((fun j => jf (88 * i + j)) k))))) = _
    rw [filF_s]
end MAL
def RM2 (m : Nat) (T : Tt) (im : Int32) (nf bf jf jb ju xf rf : Nat → Int32) : Prop := RowD nf bf (tD T) ∧ im = nI ((if tK0 T then 1 else 0) + (if tK1 T then 2 else 0)) ∧ (tK0 T = true → ju 0 = dPc (tI0 T) ∧ RowD jf jb (tI0 T)) ∧ (tK1 T = true → ju 1 = dPc (tI1 T) ∧ RowD (fun j => jf (88 + j)) (fun j => jb (144 + j)) (tI1 T)) ∧ (∀ j, j < tL T → xf j = tX T j) ∧ rf 0 = tR0 T ∧ rf 1 = tR1 T ∧ rf 2 = tR2 T
theorem RM.all {h : zH} {m : Nat} {T : Tt} (r : RM h m T) : ∃ (im sp bg tk va : Int32) (nf sf bf jf jb ju xf rf yf of : Nat → Int32), MAll h m (dPc (tD T), im, nI (tL T), tA T, tB T, sp, bg, tk, va) nf sf bf jf jb ju xf rf yf of ∧ RM2 m T im nf bf jf jb ju xf rf := by
  obtain ⟨im, sp, bg, tk, va, nf, sf, bf, jf, jb, ju, xf, rf, yf, of, h0, h1, h2, h3, h4, h5, h6, h7, h8, h9, h10, rest⟩ := r
  exact ⟨im, sp, bg, tk, va, nf, sf, bf, jf, jb, ju, xf, rf, yf, of, ⟨h0, h1, h2, h3, h4, h5, h6, h7, h8, h9, h10⟩, rest⟩
theorem RM.mk {h : zH} {m : Nat} {T : Tt} {im sp bg tk va : Int32} {nf sf bf jf jb ju xf rf yf of : Nat → Int32} (a : MAll h m (dPc (tD T), im, nI (tL T), tA T, tB T, sp, bg, tk, va) nf sf bf jf jb ju xf rf yf of) (b : RM2 m T im nf bf jf jb ju xf rf) : RM h m T := by
  obtain ⟨h0, h1, h2, h3, h4, h5, h6, h7, h8, h9, h10⟩ := a
  exact ⟨im, sp, bg, tk, va, nf, sf, bf, jf, jb, ju, xf, rf, yf, of, h0, h1, h2, h3, h4, h5, h6, h7, h8, h9, h10, b⟩
abbrev imT0 (T : Tt) : Tt := (tD T, cpyD (tD T) (tI0 T), tI1 T, true, tK1 T, T.2.2.2.2.2)
abbrev imT1 (T : Tt) : Tt := (tD T, tI0 T, cpyD (tD T) (tI1 T), tK0 T, true, T.2.2.2.2.2)
theorem op_image (a : Int32) : Both (fun x => f_X9_image x a) (fun m => f_X10_image m a) := by
  refine Both.of2 (fun T o => ?_)
  cases hh : rng 0 1 a with
  | false =>
    refine of2Bad o ?_ ?_
    · intro h x r h1 e1
      show f_X9_image x a h = _
      unfold f_X9_image
      rw [zcI_of (q_X9_in _ _ _ h), hh, if_pos (by decide), zoc_eq r.1, zcI_of e1]
      rfl
    · intro h m r h1 e1
      obtain ⟨M, nf, n0, n1, n2, n3, n4⟩ := r.now
      show f_X10_image m a h = _
      unfold f_X10_image
      rw [zcI_of (q_X10_inn a 0 1 (A := 0) (B := 1) (by decide) (by decide) h), hh, if_pos (by decide), zoc_eq n0, zcI_of e1]
      rfl
  | true =>
    rcases rng01.mp hh with e | e <;> subst e
    · refine ⟨.int 1, imT0 T, ⟨o.1, fun _ => o.1.cpy _, o.2.2⟩, ?_, ?_⟩
      · intro h x r
        obtain ⟨x0, x1, x2, x3, ⟨g, y1, y2, y3⟩, ⟨kf, z1, z2, z3⟩, ⟨tf, t1, t2⟩, sc⟩ := id r
        obtain ⟨h1, e1, d1, f1⟩ := q_X1_copyFrom x2 x1 o.1 (by omega)
        have w1 := (f1.2 (x + 70) (by omega)).trans z1
        have w0 := (f1.2 x (by omega)).trans x0
        have F2 : Fr h1 (zset h1 (x + 70) (.inl (2, 2, .inl (upd kf 0 1)))) (x + 70) (x + 71) := Fr.set _ (by omega) (by omega)
        refine ⟨zset h1 (x + 70) (.inl (2, 2, .inl (upd kf 0 1))), ?_, ⟨(F2.2 _ (by omega)).trans w0, (x1.keep f1 (by omega)).keep F2 (by omega), d1.keep F2 (by omega), (x3.keep f1 (by omega)).keep F2 (by omega), ⟨g, (F2.2 _ (by omega)).trans ((f1.2 _ (by omega)).trans y1), y2, y3⟩, ⟨_, zset_at _ _ _, upd_self _ _ _, ?_⟩, ⟨tf, (F2.2 _ (by omega)).trans ((f1.2 _ (by omega)).trans t1), t2⟩, ?_⟩, (f1.wide (by omega) (by omega)).tr (F2.wide (by omega) (by omega))⟩
        · show f_X9_image x 0 h = _
          unfold f_X9_image
          rw [zcI_of (q_X9_in _ _ _ h), hh, if_neg (by decide), zgR_eq x0 rfl, zaR_eq (i := 0) 0 rfl y1 (by decide) (by decide) y2, zgR_eq x0 rfl, zoc_eq x2.1, zcV_of e1, zgR_eq w0 rfl, zsI_x 0 0 rfl w1 (by decide) (by decide)]
          rfl
        · rw [upd_ne _ _ (by decide)]; exact z3
        · have s1 := sc.keep f1 (by omega)
          obtain ⟨⟨D, a⟩, ⟨W, b⟩, ⟨y, a1, b1, c1, d1, e1, c⟩, ⟨g, c2, d, e⟩, i, ⟨k, l⟩, ⟨gg, o, p⟩, q⟩ := s1
          refine ⟨⟨D, a.keep F2 (by omega)⟩, ⟨W, b.keep F2 (by omega)⟩, ⟨y, a1, b1, c1, d1, e1, (F2.2 _ (by omega)).trans c⟩, ⟨g, c2, (F2.2 _ (by omega)).trans d, e.keep F2 (by omega)⟩, (F2.2 _ (by omega)).trans i, ⟨k, l.keep F2 (by omega)⟩, ⟨gg, (F2.2 _ (by omega)).trans o, p⟩, fun j hj => ?_⟩
          obtain ⟨W, w⟩ := q j hj
          exact ⟨W, w.keep F2 (by omega)⟩
      · intro h m r
        obtain ⟨im, sp, bg, tk, va, nf, sf, bf, jf, jb, ju, xf, rf, yf, of, A, b1, b2, b3, b4, b5, b6⟩ := r.all
        obtain ⟨h1, e1, A1, F1⟩ := q_X10_image_17 A (i := 0) (by decide)
        refine ⟨h1, ?_, RM.mk (T := imT0 T) A1 ⟨b1, ?_, fun _ => ⟨upd_self _ _ _, ?_⟩, fun q => ?_, b5, b6⟩, F1⟩
        · show f_X10_image m 0 h = _
          unfold f_X10_image
          rw [zcI_of (q_X10_inn 0 0 1 (A := 0) (B := 1) (by decide) (by decide) h), hh, if_neg (by decide)]
          exact e1
        · show im ||| (1 <<< (nI 0 &&& 31)) = nI ((if true then 1 else 0) + (if tK1 T then 2 else 0))
          rw [b2]
          cases tK0 T <;> cases tK1 T <;> decide
        · refine (b1.two o.1 (fun j hj => ?_) (fun j hj => ?_)).cpy o.1 _
          · have := filO_in (f := nf) (g := jf) (b := 88 * 0) (k := 88) hj
            rw [show 88 * 0 + j = j by omega] at this; exact this.symm
          · have := filO_in (f := bf) (g := jb) (b := 144 * 0) (k := 144) hj
            rw [show 144 * 0 + j = j by omega] at this; exact this.symm
        · obtain ⟨u1, u2⟩ := b4 q
          refine ⟨by rw [upd_ne _ _ (by decide)]; exact u1, ?_⟩
          rw [show (fun j => filO nf jf (88 * 0) 88 (88 + j)) = fun j => jf (88 + j) from funext (fun j => filO_out (by omega)), show (fun j => filO bf jb (144 * 0) 144 (144 + j)) = fun j => jb (144 + j) from funext (fun j => filO_out (by omega))]
          exact u2
    · refine ⟨.int 1, imT1 T, ⟨o.1, o.2.1, fun _ => o.1.cpy _, o.2.2.2⟩, ?_, ?_⟩
      · intro h x r
        obtain ⟨x0, x1, x2, x3, ⟨g, y1, y2, y3⟩, ⟨kf, z1, z2, z3⟩, ⟨tf, t1, t2⟩, sc⟩ := id r
        obtain ⟨h1, e1, d1, f1⟩ := q_X1_copyFrom x3 x1 o.1 (by omega)
        have w1 := (f1.2 (x + 70) (by omega)).trans z1
        have w0 := (f1.2 x (by omega)).trans x0
        have F2 : Fr h1 (zset h1 (x + 70) (.inl (2, 2, .inl (upd kf 1 1)))) (x + 70) (x + 71) := Fr.set _ (by omega) (by omega)
        refine ⟨zset h1 (x + 70) (.inl (2, 2, .inl (upd kf 1 1))), ?_, ⟨(F2.2 _ (by omega)).trans w0, (x1.keep f1 (by omega)).keep F2 (by omega), (x2.keep f1 (by omega)).keep F2 (by omega), d1.keep F2 (by omega), ⟨g, (F2.2 _ (by omega)).trans ((f1.2 _ (by omega)).trans y1), y2, y3⟩, ⟨_, zset_at _ _ _, ?_, upd_self _ _ _⟩, ⟨tf, (F2.2 _ (by omega)).trans ((f1.2 _ (by omega)).trans t1), t2⟩, ?_⟩, (f1.wide (by omega) (by omega)).tr (F2.wide (by omega) (by omega))⟩
        · show f_X9_image x 1 h = _
          unfold f_X9_image
          rw [zcI_of (q_X9_in _ _ _ h), hh, if_neg (by decide), zgR_eq x0 rfl, zaR_eq (i := 1) 1 rfl y1 (by decide) (by decide) y3, zgR_eq x0 rfl, zoc_eq x3.1, zcV_of e1, zgR_eq w0 rfl, zsI_x 1 1 rfl w1 (by decide) (by decide)]
          rfl
        · rw [upd_ne _ _ (by decide)]; exact z2
        · have s1 := sc.keep f1 (by omega)
          obtain ⟨⟨D, a⟩, ⟨W, b⟩, ⟨y, a1, b1, c1, d1, e1, c⟩, ⟨g, c2, d, e⟩, i, ⟨k, l⟩, ⟨gg, o, p⟩, q⟩ := s1
          refine ⟨⟨D, a.keep F2 (by omega)⟩, ⟨W, b.keep F2 (by omega)⟩, ⟨y, a1, b1, c1, d1, e1, (F2.2 _ (by omega)).trans c⟩, ⟨g, c2, (F2.2 _ (by omega)).trans d, e.keep F2 (by omega)⟩, (F2.2 _ (by omega)).trans i, ⟨k, l.keep F2 (by omega)⟩, ⟨gg, (F2.2 _ (by omega)).trans o, p⟩, fun j hj => ?_⟩
          obtain ⟨W, w⟩ := q j hj
          exact ⟨W, w.keep F2 (by omega)⟩
      · intro h m r
        obtain ⟨im, sp, bg, tk, va, nf, sf, bf, jf, jb, ju, xf, rf, yf, of, A, b1, b2, b3, b4, b5, b6⟩ := r.all
        obtain ⟨h1, e1, A1, F1⟩ := q_X10_image_17 A (i := 1) (by decide)
        refine ⟨h1, ?_, RM.mk (T := imT1 T) A1 ⟨b1, ?_, fun q => ?_, fun _ => ⟨upd_self _ _ _, ?_⟩, b5, b6⟩, F1⟩
        · show f_X10_image m 1 h = _
          unfold f_X10_image
          rw [zcI_of (q_X10_inn 1 0 1 (A := 0) (B := 1) (by decide) (by decide) h), hh, if_neg (by decide)]
          exact e1
        · show im ||| (1 <<< (nI 1 &&& 31)) = nI ((if tK0 T then 1 else 0) + (if true then 2 else 0))
          rw [b2]
          cases tK0 T <;> cases tK1 T <;> decide
        · obtain ⟨u1, u2⟩ := b3 q
          refine ⟨by rw [upd_ne _ _ (by decide)]; exact u1, ?_⟩
          exact u2.two (o.2.1 q) (fun j hj => (filO_out (by omega)).symm) (fun j hj => (filO_out (by omega)).symm)
        · exact (b1.two o.1 (fun j hj => (filO_in (f := nf) (g := jf) (b := 88 * 1) (k := 88) hj).symm) (fun j hj => (filO_in (f := bf) (g := jb) (b := 144 * 1) (k := 144) hj).symm)).cpy o.1 _
theorem op_from (a : Int32) : Both (fun x => f_X9_from x a) (fun m => f_X10_from m a) := by
  refine Both.of2 (fun T o => ?_)
  cases hh : rng 0 1 a with
  | false =>
    refine of2Bad o ?_ ?_
    · intro h x r h1 e1
      show f_X9_from x a h = _
      unfold f_X9_from
      rw [zcI_of (q_X9_in _ _ _ h), hh, if_pos (by decide), zoc_eq r.1, zcI_of e1]
      rfl
    · intro h m r h1 e1
      obtain ⟨M, nf, n0, n1, n2, n3, n4⟩ := r.now
      show f_X10_from m a h = _
      unfold f_X10_from
      rw [zcI_of (q_X10_inn a 0 1 (A := 0) (B := 1) (by decide) (by decide) h), hh, if_pos (by decide), zoc_eq n0, zcI_of e1]
      rfl
  | true =>
    rcases rng01.mp hh with e | e <;> subst e
    · cases hk : tK0 T with
      | false =>
        refine ⟨.int (-103), nR1 T, o.r1, ?_, ?_⟩
        · intro h x r
          obtain ⟨h1, e1, r1, f1⟩ := (q_X9_refuse r).2.1
          obtain ⟨x0, x1, x2, x3, ⟨g, y1, y2, y3⟩, ⟨kf, z1, z2, z3⟩, ⟨tf, t1, t2⟩, sc⟩ := id r
          refine ⟨h1, ?_, r1, f1⟩
          show f_X9_from x 0 h = _
          unfold f_X9_from
          rw [zcI_of (q_X9_in _ _ _ h), hh, if_neg (by decide), zgR_eq x0 rfl, zaI_x 0 0 rfl z1 (by decide) (by decide), z2, hk, if_pos (by decide), zoc_eq x0, zcI_of e1]
          rfl
        · intro h m r
          obtain ⟨h1, e1, r1, f1⟩ := q_X10_no r
          obtain ⟨im, sp, bg, tk, va, nf, sf, bf, jf, jb, ju, xf, rf, yf, of, A, b1, b2, b3, b4, b5, b6⟩ := r.all
          refine ⟨h1, ?_, r1, f1⟩
          show f_X10_from m 0 h = _
          unfold f_X10_from
          have eh : hb im 0 = false := by rw [b2, hk]; cases tK1 T <;> decide
          rw [zcI_of (q_X10_inn 0 0 1 (A := 0) (B := 1) (by decide) (by decide) h), hh, if_neg (by decide), zgI_eq A.1 rfl, zcI_of (show f_X10_has im 0 h = rB (hb im 0) h from q_X10_has im 0 h), eh, if_pos (by decide), zoc_eq A.1, zcI_of e1]
          rfl
      | true =>
        have oi := o.2.1 hk
        refine ⟨.int 1, (cpyD (tI0 T) (tD T), T.2), ⟨oi.cpy _, o.2⟩, ?_, ?_⟩
        · intro h x r
          obtain ⟨x0, x1, x2, x3, ⟨g, y1, y2, y3⟩, ⟨kf, z1, z2, z3⟩, ⟨tf, t1, t2⟩, sc⟩ := id r
          obtain ⟨h1, e1, d1, f1⟩ := q_X1_copyFrom x1 x2 oi (by omega)
          refine ⟨h1, ?_, r.doll (f1.wide (by omega) (by omega)) d1, f1.wide (by omega) (by omega)⟩
          show f_X9_from x 0 h = _
          unfold f_X9_from
          rw [zcI_of (q_X9_in _ _ _ h), hh, if_neg (by decide), zgR_eq x0 rfl, zaI_x 0 0 rfl z1 (by decide) (by decide), z2, hk, if_neg (by decide), zgR_eq x0 rfl, zgR_eq x0 rfl, zaR_eq (i := 0) 0 rfl y1 (by decide) (by decide) y2, zoc_eq x1.1, zcV_of e1]
          rfl
        · intro h m r
          obtain ⟨im, sp, bg, tk, va, nf, sf, bf, jf, jb, ju, xf, rf, yf, of, A, b1, b2, b3, b4, b5, b6⟩ := r.all
          obtain ⟨h1, e1, A1, F1⟩ := q_X10_from_33 A (i := 0) (by decide)
          obtain ⟨u1, u2⟩ := b3 hk
          rw [u1] at A1
          refine ⟨h1, ?_, RM.mk (T := (cpyD (tI0 T) (tD T), T.2)) A1 ⟨?_, b2, b3, b4, b5, b6⟩, F1⟩
          · show f_X10_from m 0 h = _
            unfold f_X10_from
            have eh : hb im 0 = true := by rw [b2, hk]; cases tK1 T <;> decide
            rw [zcI_of (q_X10_inn 0 0 1 (A := 0) (B := 1) (by decide) (by decide) h), hh, if_neg (by decide), zgI_eq A.1 rfl, zcI_of (show f_X10_has im 0 h = rB (hb im 0) h from q_X10_has im 0 h), eh, if_neg (by decide)]
            exact e1
          · refine (u2.two oi (fun j hj => ?_) (fun j hj => ?_)).cpy oi _
            · unfold filF; rw [if_pos hj]; show jf j = jf (88 * 0 + j); rw [show 88 * 0 + j = j by omega]
            · unfold filF; rw [if_pos hj]; show jb j = jb (144 * 0 + j); rw [show 144 * 0 + j = j by omega]
    · cases hk : tK1 T with
      | false =>
        refine ⟨.int (-103), nR1 T, o.r1, ?_, ?_⟩
        · intro h x r
          obtain ⟨h1, e1, r1, f1⟩ := (q_X9_refuse r).2.1
          obtain ⟨x0, x1, x2, x3, ⟨g, y1, y2, y3⟩, ⟨kf, z1, z2, z3⟩, ⟨tf, t1, t2⟩, sc⟩ := id r
          refine ⟨h1, ?_, r1, f1⟩
          show f_X9_from x 1 h = _
          unfold f_X9_from
          rw [zcI_of (q_X9_in _ _ _ h), hh, if_neg (by decide), zgR_eq x0 rfl, zaI_x 1 1 rfl z1 (by decide) (by decide), z3, hk, if_pos (by decide), zoc_eq x0, zcI_of e1]
          rfl
        · intro h m r
          obtain ⟨h1, e1, r1, f1⟩ := q_X10_no r
          obtain ⟨im, sp, bg, tk, va, nf, sf, bf, jf, jb, ju, xf, rf, yf, of, A, b1, b2, b3, b4, b5, b6⟩ := r.all
          refine ⟨h1, ?_, r1, f1⟩
          show f_X10_from m 1 h = _
          unfold f_X10_from
          have eh : hb im 1 = false := by rw [b2, hk]; cases tK0 T <;> decide
          rw [zcI_of (q_X10_inn 1 0 1 (A := 0) (B := 1) (by decide) (by decide) h), hh, if_neg (by decide), zgI_eq A.1 rfl, zcI_of (show f_X10_has im 1 h = rB (hb im 1) h from q_X10_has im 1 h), eh, if_pos (by decide), zoc_eq A.1, zcI_of e1]
          rfl
      | true =>
        have oi := o.2.2.1 hk
        refine ⟨.int 1, (cpyD (tI1 T) (tD T), T.2), ⟨oi.cpy _, o.2⟩, ?_, ?_⟩
        · intro h x r
          obtain ⟨x0, x1, x2, x3, ⟨g, y1, y2, y3⟩, ⟨kf, z1, z2, z3⟩, ⟨tf, t1, t2⟩, sc⟩ := id r
          obtain ⟨h1, e1, d1, f1⟩ := q_X1_copyFrom x1 x3 oi (by omega)
          refine ⟨h1, ?_, r.doll (f1.wide (by omega) (by omega)) d1, f1.wide (by omega) (by omega)⟩
          show f_X9_from x 1 h = _
          unfold f_X9_from
          rw [zcI_of (q_X9_in _ _ _ h), hh, if_neg (by decide), zgR_eq x0 rfl, zaI_x 1 1 rfl z1 (by decide) (by decide), z3, hk, if_neg (by decide), zgR_eq x0 rfl, zgR_eq x0 rfl, zaR_eq (i := 1) 1 rfl y1 (by decide) (by decide) y3, zoc_eq x1.1, zcV_of e1]
          rfl
        · intro h m r
          obtain ⟨im, sp, bg, tk, va, nf, sf, bf, jf, jb, ju, xf, rf, yf, of, A, b1, b2, b3, b4, b5, b6⟩ := r.all
          obtain ⟨h1, e1, A1, F1⟩ := q_X10_from_33 A (i := 1) (by decide)
          obtain ⟨u1, u2⟩ := b4 hk
          rw [u1] at A1
          refine ⟨h1, ?_, RM.mk (T := (cpyD (tI1 T) (tD T), T.2)) A1 ⟨?_, b2, b3, b4, b5, b6⟩, F1⟩
          · show f_X10_from m 1 h = _
            unfold f_X10_from
            have eh : hb im 1 = true := by rw [b2, hk]; cases tK0 T <;> decide
            rw [zcI_of (q_X10_inn 1 0 1 (A := 0) (B := 1) (by decide) (by decide) h), hh, if_neg (by decide), zgI_eq A.1 rfl, zcI_of (show f_X10_has im 1 h = rB (hb im 1) h from q_X10_has im 1 h), eh, if_neg (by decide)]
            exact e1
          · refine (u2.two oi (fun j hj => ?_) (fun j hj => ?_)).cpy oi _
            · unfold filF; rw [if_pos hj, show 88 * 1 + j = 88 + j by omega]
            · unfold filF; rw [if_pos hj, show 144 * 1 + j = 144 + j by omega]
