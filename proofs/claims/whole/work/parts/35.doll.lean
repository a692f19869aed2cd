/-! doll -/
theorem q_X10_begin {h : zH} {m : Nat} {M : Mo} {nf sf bf : Nat → Int32} (r : NW h m M nf sf bf) (kind : Int32) : ∃ h' sf', f_X10_begin m kind h = rV h' ∧ NW h' m M nf sf' bf ∧ sf' 1 = kind ∧ (∀ j, j < 88 → j ≠ 1 → sf' j = 0) ∧ Fr h h' m (m + 4) := by
  refine zloopE (fun f k g => f_X10_begin_2 f m kind (nI k) g) (fun k g => NW g m M nf (filF (fun _ => 0) sf k) bf ∧ Fr h g m (m + 4)) 88 (fun r => ∃ h' sf', r = rV h' ∧ NW h' m M nf sf' bf ∧ sf' 1 = kind ∧ (∀ j, j < 88 → j ≠ 1 → sf' j = 0) ∧ Fr h h' m (m + 4)) ?_ ?_ zF 0 h (by omega) (by show 88 < 20000 + 0; omega) ⟨by rw [filF_0]; exact r, Fr.rf⟩
  · intro f g ⟨gN, gF⟩
    show ∃ h' sf', f_X10_begin_2 (f + 1) m kind (nI 88) g = _ ∧ _
    rw [f_X10_begin_2, if_pos (show (88 : Int32) ≤ nI 88 from Int32.le_refl _), zgR_eq gN.1 rfl, zsI_x 1 1 rfl gN.2.2.1 (by decide) (by decide)]
    obtain ⟨n1, f1⟩ := gN.side (upd (filF (fun _ => 0) sf 88) 1 kind)
    exact ⟨_, _, rfl, n1, upd_self _ _ _, fun j hj h1 => by rw [upd_ne _ _ h1]; unfold filF; rw [if_pos hj], gF.tr f1⟩
  · intro f k g hk ⟨gN, gF⟩
    obtain ⟨n1, f1⟩ := gN.side (filF (fun _ => 0) sf (k + 1))
    refine ⟨_, ⟨n1, gF.tr f1⟩, ?_⟩
    show f_X10_begin_2 (f + 1) m kind (nI k) g = f_X10_begin_2 f m kind (nI (k + 1)) _
    rw [f_X10_begin_2, if_neg (show ¬ (88 : Int32) ≤ nI k from nI_ge (b := 88) hk (by decide)), zgR_eq gN.1 rfl, zsI_x (nI k) k rfl gN.2.2.1 hk (by decide), nI_1]
    show f_X10_begin_2 f m kind (nI (k + 1)) (zset g (m + 2) (.inl (0, 88, .inl (upd (filF (fun _ => 0) sf k) k ((fun _ => 0) k))))) = _
    rw [filF_s]
theorem NW.take {h : zH} {m : Nat} {M : Mo} {nf sf bf : Nat → Int32} (r : NW h m M nf sf bf) : ∃ h' nf', f_X10_take m h = rV h' ∧ NW h' m M nf' sf bf ∧ eqN 88 sf nf' ∧ Fr h h' m (m + 4) := by
  obtain ⟨h', nf', e, a, b, c⟩ := q_X10_take r.1 r.2.1 r.2.2.1
  exact ⟨h', nf', e, ⟨r.1.keep c (by omega), a, r.2.2.1.keep c (by omega), r.2.2.2.keep c (by omega)⟩, b, c.wide (by omega) (by omega)⟩
theorem NW.aside {h : zH} {m : Nat} {M : Mo} {nf sf bf : Nat → Int32} (r : NW h m M nf sf bf) : ∃ h' sf', f_X10_aside m h = rV h' ∧ NW h' m M nf sf' bf ∧ eqN 88 nf sf' ∧ Fr h h' m (m + 4) := by
  obtain ⟨h', sf', e, a, b, c⟩ := q_X10_aside r.1 r.2.1 r.2.2.1
  exact ⟨h', sf', e, ⟨r.1.keep c (by omega), r.2.1.keep c (by omega), a, r.2.2.2.keep c (by omega)⟩, b, c.wide (by omega) (by omega)⟩
theorem ix0 : ix 0 = 0 := by decide
theorem okD.new {kind : Int32} (ck : kOk kind) (D : Dl) : okD (newD kind D) := by
  refine ⟨⟨rfl, by show ix 0 ≤ 8; rw [ix0]; omega, ck, fun i hi => ?_⟩, ⟨⟨?_, ?_, fun k hk => ?_, fun j k hj => ?_⟩, fun i _ hi => ?_, 0, by omega, rfl, fun i hi => ⟨0, Nat.le_refl _, ?_⟩⟩, ⟨0, by omega, rfl, fun k hk => absurd hk (Nat.not_lt_zero k)⟩, ⟨0, by omega, rfl⟩, ⟨0, by omega, rfl⟩⟩
  · have : i < ix 0 := hi
    rw [ix0] at this; omega
  · show (0 : Int32) = nI (ix 0)
    rw [ix0]; rfl
  · show ix 0 ≤ ix 0
    omega
  · have : k < ix 0 := hk
    rw [ix0] at this; omega
  · have : j < ix 0 := hj
    rw [ix0] at this; omega
  · show filF (fun _ => 0) (dW D).2.1 8 i = 0
    unfold filF; rw [if_pos hi]
  · show filF (fun _ => 0) (dW D).2.1 8 i = nI 0
    unfold filF; rw [if_pos hi]; rfl
theorem RowD.new {nf bf : Nat → Int32} {kind : Int32} (D : Dl) (h1 : nf 1 = kind) (h0 : ∀ j, j < 88 → j ≠ 1 → nf j = 0) : RowD nf bf (newD kind D) := by
  refine ⟨⟨h0 0 (by omega) (by omega), h1, fun i hi => ?_⟩, ⟨h0 2 (by omega) (by omega), h0 3 (by omega) (by omega), fun k hk => ?_, fun i hi => ?_⟩, ⟨h0 44 (by omega) (by omega), fun j hj => ?_, h0 63 (by omega) (by omega), fun j hj => ?_⟩, fun k hk => ?_⟩
  · have : i < ix 0 := hi
    rw [ix0] at this; omega
  · have : k < ix 0 := hk
    rw [ix0] at this; omega
  · have : i < ix 0 := hi
    rw [ix0] at this; omega
  · have : j < 3 * ix 0 := hj
    rw [ix0] at this; omega
  · have : j < 4 * ix 0 := hj
    rw [ix0] at this; omega
  · have : k < ix 0 := hk
    rw [ix0] at this; omega
theorem op_doll (kind : Int32) : Both (fun x => f_X9_doll x kind) (fun m => f_X10_doll m kind) := by
  refine Both.of2 (fun T o => ?_)
  cases hc : rng 0 5 kind with
  | false =>
    refine of2Bad o ?_ ?_
    · intro h x r h1 e1
      show f_X9_doll x kind h = _
      unfold f_X9_doll
      rw [zcI_of (q_X9_in _ _ _ h), hc, if_pos (by decide), zoc_eq r.1, zcI_of e1]
      rfl
    · intro h m r h1 e1
      obtain ⟨im, sp, bg, tk, va, h0⟩ := r.mo
      show f_X10_doll m kind h = _
      unfold f_X10_doll
      rw [zcI_of (q_X10_inn kind 0 5 (A := 0) (B := 5) (by decide) (by decide) h), hc, if_pos (by decide), zoc_eq h0, zcI_of e1]
      rfl
  | true =>
    have ck := kOk_rng.mp hc
    refine ⟨.int (tD T).1.2.1, (newD kind (tD T), T.2), ⟨okD.new ck _, o.2⟩, ?_, ?_⟩
    · intro h x r
      obtain ⟨h1, e1, r1, f1⟩ := q_X1_begin r.2.1 kind
      show ∃ h1, f_X9_doll x kind h = _ ∧ _
      unfold f_X9_doll
      rw [zcI_of (q_X9_in _ _ _ h), hc, if_neg (by decide), zgR_eq r.1 rfl, zgI_eq r.2.1.1 rfl, zgR_eq r.1 rfl, zoc_eq r.2.1.1, zcV_of e1]
      exact ⟨h1, rfl, r.doll (f1.wide (by omega) (by omega)) r1, f1.wide (by omega) (by omega)⟩
    · intro h m r
      obtain ⟨im, ⟨sp, bg, tk, va, nf, sf, bf, n0, a0⟩, u⟩ := r.nw
      obtain ⟨h1, sf1, e1, n1, g1, g0, f1⟩ := q_X10_begin n0 kind
      obtain ⟨h2, nf2, e2, n2, q2, f2⟩ := n1.take
      show ∃ h1, f_X10_doll m kind h = _ ∧ _
      unfold f_X10_doll
      rw [zcI_of (q_X10_inn kind 0 5 (A := 0) (B := 5) (by decide) (by decide) h), hc, if_neg (by decide), n0.ld 0 0 rfl (by decide), a0.1.1, zoc_eq n0.1, zcV_of e1, zoc_eq n1.1, zcV_of e2, n2.um]
      obtain ⟨n3, f3⟩ := n2.obj (0, im, nI (tL T), tA T, tB T, sp, bg, tk, va)
      have F := (f1.tr f2).tr f3
      exact ⟨_, rfl, u _ (newD kind (tD T)) sp bg tk va nf2 sf1 bf F n3 (RowD.new _ ((q2 1 (by omega)).symm.trans g1) (fun j hj h1 => (q2 j hj).symm.trans (g0 j hj h1))), F.wide (by omega) (by omega)⟩
