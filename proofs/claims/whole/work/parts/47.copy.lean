/-! IMAGES: a doll copied, on the class's side -/
def cpyP (E D : Nat → Wr) (k : Nat) : Nat → Wr := fun j => if j < k then cpyW (E j) (D j) else D j
theorem cpyP_0 (E D : Nat → Wr) : cpyP E D 0 = D := by
  funext j
  unfold cpyP
  rw [if_neg (by omega)]
theorem cpyP_s (E D : Nat → Wr) (k : Nat) : va_up (cpyP E D k) k (cpyW (E k) (cpyP E D k k)) = cpyP E D (k + 1) := by
  funext j
  unfold va_up cpyP
  by_cases c : j = k
  · subst c; simp
  · by_cases c2 : j < k
    · simp [c, c2, show j < k + 1 by omega]
    · simp [c, c2, show ¬ j < k + 1 by omega]
def cpyS (S R : Sd) : Sd := (S.1, S.2.1, va_cpy S.2.2.1 R.2.2.1 0 0 8, va_cpy S.2.2.2.1 R.2.2.2.1 0 0 8, va_cpy S.2.2.2.2 R.2.2.2.2 0 0 8)
def cpyD (E D : Dl) : Dl := (cpyS E.1 D.1, cpyW (dW E) (dW D), dPc E, cpyP (dPv E) (dPv D) (ix (dPc E)), dNc E, va_cpy (dNt E) (dNt D) 0 0 18, dMc E, va_cpy (dMk E) (dMk D) 0 0 24)
theorem okD.cpy {E : Dl} (o : okD E) (D : Dl) : okD (cpyD E D) := by
  obtain ⟨⟨o1, o2, o3, o4⟩, o5, ⟨c, c1, c2, c3⟩, o6, o7⟩ := o
  have ec : ix (dPc E) = c := by rw [c2, ix_nI (by omega)]
  refine ⟨⟨o1, o2, o3, fun i hi => ?_⟩, o5.eq o2 (cpyW_eq _ _), ⟨c, c1, c2, fun k hk => ?_⟩, o6, o7⟩
  · show kOk (va_cpy E.1.2.2.1 D.1.2.2.1 0 0 8 i)
    have hi : i < dn E := hi
    rw [cpy_in (by omega)]; exact o4 i hi
  · show okV (dn E) (cpyP (dPv E) (dPv D) (ix (dPc E)) k)
    unfold cpyP
    rw [ec, if_pos hk]
    exact (c3 k hk).eq o2 (cpyW_eq _ _)
theorem RowD.cpy {nf bf : Nat → Int32} {E : Dl} (r : RowD nf bf E) (o : okD E) (D : Dl) : RowD nf bf (cpyD E D) := by
  obtain ⟨⟨o1, o2, o3, o4⟩, o5, ⟨c, c1, c2, c3⟩, ⟨k1, k2, k3⟩, ⟨l1, l2, l3⟩⟩ := o
  have ec : ix (dPc E) = c := by rw [c2, ix_nI (by omega)]
  have ek : ix (dNc E) = k1 := by rw [k3, ix_nI (by omega)]
  have el : ix (dMc E) = l1 := by rw [l3, ix_nI (by omega)]
  obtain ⟨⟨s1, s2, s3⟩, w, ⟨b1, b2, b3, b4⟩, p⟩ := r
  refine ⟨⟨s1, s2, fun i hi => ?_⟩, w.eqW o2 (o5.le o2) (cpyW_eq _ _), ⟨b1, fun j hj => ?_, b3, fun j hj => ?_⟩, fun k hk => ?_⟩
  · have hi : i < dn E := hi
    show _ = va_cpy E.1.2.2.1 D.1.2.2.1 0 0 8 i ∧ _ = va_cpy E.1.2.2.2.1 D.1.2.2.2.1 0 0 8 i ∧ _ = va_cpy E.1.2.2.2.2 D.1.2.2.2.2 0 0 8 i
    rw [cpy_in (by omega), cpy_in (by omega), cpy_in (by omega)]
    exact s3 i hi
  · have hj : j < 3 * ix (dNc E) := hj
    show _ = va_cpy (dNt E) (dNt D) 0 0 18 j
    rw [cpy_in (by omega)]; exact b2 j hj
  · have hj : j < 4 * ix (dMc E) := hj
    show _ = va_cpy (dMk E) (dMk D) 0 0 24 j
    rw [cpy_in (by omega)]; exact b4 j hj
  · have hk : k < ix (dPc E) := hk
    show RowB bf (18 * k) (dn E) (cpyP (dPv E) (dPv D) (ix (dPc E)) k)
    unfold cpyP
    rw [if_pos hk]
    exact (p k hk).eqW o2 ((c3 k (by omega)).le o2) (cpyW_eq _ _)
theorem RowD.two {nf nf2 bf bf2 : Nat → Int32} {D : Dl} (r : RowD nf bf D) (o : okD D) (e1 : eqN 88 nf nf2) (e2 : eqN 144 bf bf2) : RowD nf2 bf2 D := by
  obtain ⟨a, b, c, p⟩ := r.eq o e1
  obtain ⟨⟨o1, o2, o3, o4⟩, o5, ⟨q, c1, c2, c3⟩, o6, o7⟩ := o
  have ec : ix (dPc D) = q := by rw [c2, ix_nI (by omega)]
  refine ⟨a, b, c, fun k hk => ?_⟩
  exact (p k hk).sh o2 ((c3 k (by omega)).le o2) (fun j hj => (e2 _ (by omega)).symm)
theorem q_X1_copyFrom {h : zH} {d e : Nat} {D E : Dl} (r : RD h d D) (s : RD h e E) (o : okD E) (hd : d + 34 ≤ e ∨ e + 34 ≤ d) : ∃ h', f_X1_copyFrom d e h = rV h' ∧ RD h' d (cpyD E D) ∧ Fr h h' d (d + 34) := by
  obtain ⟨⟨ch, n, kd, co, pa⟩, W, pc, pv, nc, nt, mc, mk⟩ := D
  obtain ⟨-, -, ⟨c, c1, c2, c3⟩, -⟩ := id o
  have ec : ix (dPc E) = c := by rw [c2, ix_nI (by omega)]
  unfold f_X1_copyFrom cpyD cpyS
  dsimp only
  rw [ec, zgI_eq s.1 rfl, zpV_eq r.1 (Nat.le_of_ble_eq_true rfl)]
  have r1 := r.obj (D2 := ((E.1.1, n, kd, co, pa), W, pc, pv, nc, nt, mc, mk)) rfl rfl rfl rfl rfl
  have f1 : Fr h (zset h d (rdE d ((E.1.1, n, kd, co, pa), W, pc, pv, nc, nt, mc, mk))) d (d + 34) := Fr.set _ (by omega) (by omega)
  dsimp only [List.set, rdE] at r1 f1 ⊢
  generalize zset h d _ = g1 at r1 f1 ⊢
  have s1 := s.keep f1 (by omega)
  rw [zgI_eq s1.1 rfl, zpV_eq r1.1 (Nat.le_of_ble_eq_true rfl)]
  have r2 := r1.obj (D2 := ((E.1.1, E.1.2.1, kd, co, pa), W, pc, pv, nc, nt, mc, mk)) rfl rfl rfl rfl rfl
  have f2 := f1.tr (Fr.set (h := g1) (a := d) (lo := d) (hi := d + 34) (rdE d ((E.1.1, E.1.2.1, kd, co, pa), W, pc, pv, nc, nt, mc, mk)) (by omega) (by omega))
  dsimp only [List.set, rdE] at r2 f2 ⊢
  generalize zset g1 d _ = g2 at r2 f2 ⊢
  have s2 := s.keep f2 (by omega)
  rw [zgR_eq s2.1 rfl, zgR_eq r2.1 rfl, zcp_eq 8 (n := 8) rfl s2.2.1 r2.2.1 (by omega) (by omega) (by decide)]
  have r3 : RD _ d ((E.1.1, E.1.2.1, va_cpy E.1.2.2.1 kd 0 0 8, co, pa), W, pc, pv, nc, nt, mc, mk) := r2.kd _
  have f3 := f2.tr (Fr.set (h := g2) (a := d + 1) (lo := d) (hi := d + 34) (.inl (0, 8, .inl (va_cpy E.1.2.2.1 kd 0 0 8))) (by omega) (by omega))
  try dsimp only at r3 f3 ⊢
  generalize zset g2 (d + 1) _ = g3 at r3 f3 ⊢
  have s3 := s.keep f3 (by omega)
  rw [zgR_eq s3.1 rfl, zgR_eq r3.1 rfl, zcp_eq 8 (n := 8) rfl s3.2.2.1 r3.2.2.1 (by omega) (by omega) (by decide)]
  have r4 : RD _ d ((E.1.1, E.1.2.1, va_cpy E.1.2.2.1 kd 0 0 8, va_cpy E.1.2.2.2.1 co 0 0 8, pa), W, pc, pv, nc, nt, mc, mk) := r3.co _
  have f4 := f3.tr (Fr.set (h := g3) (a := d + 2) (lo := d) (hi := d + 34) (.inl (0, 8, .inl (va_cpy E.1.2.2.2.1 co 0 0 8))) (by omega) (by omega))
  try dsimp only at r4 f4 ⊢
  generalize zset g3 (d + 2) _ = g4 at r4 f4 ⊢
  have s4 := s.keep f4 (by omega)
  rw [zgR_eq s4.1 rfl, zgR_eq r4.1 rfl, zcp_eq 8 (n := 8) rfl s4.2.2.2.1 r4.2.2.2.1 (by omega) (by omega) (by decide)]
  have r5 : RD _ d ((E.1.1, E.1.2.1, va_cpy E.1.2.2.1 kd 0 0 8, va_cpy E.1.2.2.2.1 co 0 0 8, va_cpy E.1.2.2.2.2 pa 0 0 8), W, pc, pv, nc, nt, mc, mk) := r4.pa _
  have f5 := f4.tr (Fr.set (h := g4) (a := d + 3) (lo := d) (hi := d + 34) (.inl (0, 8, .inl (va_cpy E.1.2.2.2.2 pa 0 0 8))) (by omega) (by omega))
  try dsimp only at r5 f5 ⊢
  generalize zset g4 (d + 3) _ = g5 at r5 f5 ⊢
  have s5 := s.keep f5 (by omega)
  generalize hS : ((E.1.1, E.1.2.1, va_cpy E.1.2.2.1 kd 0 0 8, va_cpy E.1.2.2.2.1 co 0 0 8, va_cpy E.1.2.2.2.2 pa 0 0 8) : Sd) = S at r5 ⊢
  obtain ⟨g6, e6, w6, p6⟩ := q_X8_copyFrom r5.2.2.2.2.1 s5.2.2.2.2.1 (by omega)
  have r6 := r5.wear (p6.wide (by omega) (by omega)) w6
  have f6 := f5.tr (p6.wide (lo2 := d) (hi2 := d + 34) (by omega) (by omega))
  have s6 := s.keep f6 (by omega)
  rw [zgR_eq r5.1 rfl, zgR_eq s5.1 rfl, zoc_eq r5.2.2.2.2.1.1, zcV_of e6, zgI_eq s6.1 rfl, zpV_eq r6.1 (Nat.le_of_ble_eq_true rfl)]
  have r7 := r6.obj (D2 := (S, cpyW (dW E) W, dPc E, pv, nc, nt, mc, mk)) rfl rfl rfl rfl rfl
  have f7 := f6.tr (Fr.set (h := g6) (a := d) (lo := d) (hi := d + 34) (rdE d (S, cpyW (dW E) W, dPc E, pv, nc, nt, mc, mk)) (by omega) (by omega))
  dsimp only [List.set, rdE] at r7 f7 ⊢
  generalize zset g6 d _ = g7 at r7 f7 ⊢
  refine zloopE (fun f k g => f_X1_copyFrom_82 f d e (nI k) g) (fun k g => RD g d (S, cpyW (dW E) W, dPc E, cpyP (dPv E) pv k, nc, nt, mc, mk) ∧ Fr h g d (d + 34)) c (fun z => ∃ h', z = rV h' ∧ RD h' d (S, cpyW (dW E) W, dPc E, cpyP (dPv E) pv c, dNc E, va_cpy (dNt E) nt 0 0 18, dMc E, va_cpy (dMk E) mk 0 0 24) ∧ Fr h h' d (d + 34)) ?_ ?_ zF 0 g7 (Nat.zero_le _) (zF_gt (by omega)) ⟨by rw [cpyP_0]; exact r7, f7⟩
  · intro f g ⟨t, F⟩
    have u := s.keep F (by omega)
    show ∃ h', f_X1_copyFrom_82 (f + 1) d e (nI c) g = _ ∧ _
    rw [f_X1_copyFrom_82, zgI_eq t.1 rfl, if_pos (show dPc E ≤ nI c by rw [c2]; exact Int32.le_refl _), zgI_eq u.1 rfl, zpV_eq t.1 (Nat.le_of_ble_eq_true rfl)]
    have t1 := t.obj (D2 := (S, cpyW (dW E) W, dPc E, cpyP (dPv E) pv c, dNc E, nt, mc, mk)) rfl rfl rfl rfl rfl
    have F1 := F.tr (Fr.set (h := g) (a := d) (lo := d) (hi := d + 34) (rdE d (S, cpyW (dW E) W, dPc E, cpyP (dPv E) pv c, dNc E, nt, mc, mk)) (by omega) (by omega))
    dsimp only [List.set, rdE] at t1 F1 ⊢
    generalize zset g d _ = k1 at t1 F1 ⊢
    have u1 := s.keep F1 (by omega)
    rw [zgR_eq u1.1 rfl, zgR_eq t1.1 rfl, zcp_eq 18 (n := 18) rfl u1.2.2.2.2.2.2.1 t1.2.2.2.2.2.2.1 (by omega) (by omega) (by decide)]
    have t2 : RD _ d (S, cpyW (dW E) W, dPc E, cpyP (dPv E) pv c, dNc E, va_cpy (dNt E) nt 0 0 18, mc, mk) := t1.nt _
    have F2 := F1.tr (Fr.set (h := k1) (a := d + 8) (lo := d) (hi := d + 34) (.inl (0, 18, .inl (va_cpy (dNt E) nt 0 0 18))) (by omega) (by omega))
    try dsimp only at t2 F2 ⊢
    generalize zset k1 (d + 8) _ = k2 at t2 F2 ⊢
    have u2 := s.keep F2 (by omega)
    rw [zgI_eq u2.1 rfl, zpV_eq t2.1 (Nat.le_of_ble_eq_true rfl)]
    have t3 := t2.obj (D2 := (S, cpyW (dW E) W, dPc E, cpyP (dPv E) pv c, dNc E, va_cpy (dNt E) nt 0 0 18, dMc E, mk)) rfl rfl rfl rfl rfl
    have F3 := F2.tr (Fr.set (h := k2) (a := d) (lo := d) (hi := d + 34) (rdE d (S, cpyW (dW E) W, dPc E, cpyP (dPv E) pv c, dNc E, va_cpy (dNt E) nt 0 0 18, dMc E, mk)) (by omega) (by omega))
    dsimp only [List.set, rdE] at t3 F3 ⊢
    generalize zset k2 d _ = k3 at t3 F3 ⊢
    have u3 := s.keep F3 (by omega)
    rw [zgR_eq u3.1 rfl, zgR_eq t3.1 rfl, zcp_eq 24 (n := 24) rfl u3.2.2.2.2.2.2.2 t3.2.2.2.2.2.2.2 (by omega) (by omega) (by decide)]
    exact ⟨_, rfl, t3.mk _, F3.tr (Fr.set _ (by omega) (by omega))⟩
  · intro f k g hk ⟨t, F⟩
    have u := s.keep F (by omega)
    obtain ⟨pg, sg, p1, p2, p3⟩ := t.2.2.2.2.2.1
    obtain ⟨a1, a2, a3⟩ := p2 k (by omega)
    obtain ⟨pg', sg', q1, q2, q3⟩ := u.2.2.2.2.2.1
    obtain ⟨b1, b2, b3⟩ := q2 k (by omega)
    obtain ⟨g2, e2, w2, F2⟩ := q_X8_copyFrom a3 b3 (by omega)
    have rp := RP.put p1 p2 p3 (by omega) F2 w2
    have t2 := t.past F2 (by omega) rp
    refine ⟨g2, ⟨?_, F.tr (F2.wide (by omega) (by omega))⟩, ?_⟩
    · rw [← cpyP_s]; exact t2
    · show f_X1_copyFrom_82 (f + 1) d e (nI k) g = f_X1_copyFrom_82 f d e (nI (k + 1)) g2
      rw [f_X1_copyFrom_82, zgI_eq t.1 rfl, if_neg (show ¬ dPc E ≤ nI k by rw [c2]; exact nI_ge hk (by omega)), zgR_eq t.1 rfl, zaR_eq k rfl p1 (by omega) (by decide) a2, zgR_eq u.1 rfl, zaR_eq k rfl q1 (by omega) (by decide) b2, zoc_eq a3.1, zcV_of e2, nI_1]
