/-! read -/
theorem item_start {t : Nat → Int32} {N p : Nat} {S : Sd} {W : Wr} (first : Bool) (hp : p ≤ N) : (itemP t N first p S W).2.1 ≤ N := by
  have st : ∀ q, q ≤ N → tS t N q ≤ N ∧ tE t N q ≤ N := fun q h => ⟨(tS_spec h).2, (tE_spec h).2.1⟩
  have s1 := st p hp
  have s2 := st _ s1.2
  have s3 := st _ s2.2
  have s4 := st _ s3.2
  have s5 := st _ s4.2
  have fin : ∀ q S W, q ≤ N → (itFin t N q S W).2.1 ≤ N := fun q S W hq => (st q hq).1
  have bad : ∀ q S W, q ≤ N → (itBad t N q S W).2.1 ≤ N := fun q S W hq => (st q hq).1
  have mv : ∀ what, (itMove t N what p S W).2.1 ≤ N := by
    intro what
    unfold itMove
    cases c : (numOk t N (tE t N p) 0 (S.2.1 - 1) && canMove S W (wL W) what (ix (tV t N (tE t N p)))) with
    | false => rw [if_neg (by decide)]; exact bad _ _ _ s1.2
    | true => rw [if_pos rfl]; exact fin _ _ _ s2.2
  unfold itemP
  cases first with
  | true =>
    rw [if_pos rfl]
    by_cases z : wdAt t N p = 146828
    · rw [if_pos z]
      cases q : numOk t N (tE t N p) 0 5 with
      | false => rw [if_neg (by decide)]; exact bad _ _ _ s1.2
      | true => rw [if_pos rfl]; exact fin _ _ _ s2.2
    · rw [if_neg z]; exact bad _ _ _ hp
  | false =>
    rw [if_neg (by decide)]
    by_cases z1 : wdAt t N p = 17077349 ∧ ¬ (8 : Int32) ≤ S.2.1
    · rw [if_pos z1]
      unfold itPiece
      cases q1 : numOk t N (tE t N p) 0 5 with
      | false => rw [if_neg (by decide)]; exact bad _ _ _ s1.2
      | true =>
        rw [if_pos rfl]
        cases q2 : numOk t N (tE t N (tE t N p)) 0 3 with
        | false => rw [if_neg (by decide)]; exact bad _ _ _ s2.2
        | true =>
          rw [if_pos rfl]
          cases q3 : numOk t N (tE t N (tE t N (tE t N p))) 1 9 with
          | false => rw [if_neg (by decide)]; exact bad _ _ _ s3.2
          | true => rw [if_pos rfl]; exact fin _ _ _ s4.2
    · rw [if_neg z1]
      by_cases y2 : wdAt t N p = 494
      · rw [if_pos y2]; exact mv 0
      · rw [if_neg y2]
        by_cases y3 : wdAt t N p = 15558
        · rw [if_pos y3]; exact mv 1
        · rw [if_neg y3]
          by_cases y4 : wdAt t N p = 431556
          · rw [if_pos y4]; exact mv 2
          · rw [if_neg y4]; exact bad _ _ _ hp
theorem neg200 : ∀ s, s < 151 → (-200 : Int32) - nI s < 0 := by decide +kernel
theorem rdAll_sign {t : Nat → Int32} {N : Nat} (hN : N ≤ 150) : ∀ (f k p : Nat) (S : Sd) (W : Wr), k ≤ p → p ≤ N → N < f + p → ((rdAll t N f k p S W).1 = false → (rdAll t N f k p S W).2.1 < 0) ∧ ((rdAll t N f k p S W).1 = true → ¬ (rdAll t N f k p S W).2.1 < 0) := by
  intro f
  induction f with
  | zero => intro k p S W h1 h2 h3; omega
  | succ f ih =>
    intro k p S W hk hp hf
    rw [rdAll]
    have is := item_start (t := t) (N := N) (S := S) (W := W) (decide (k = 0)) hp
    have ps := item_pos (t := t) (N := N) (p := p) (S := S) (W := W) (decide (k = 0)) hp
    generalize itemP t N (decide (k = 0)) p S W = R at is ps ⊢
    cases q : R.1 with
    | false =>
      rw [if_neg (by decide)]
      exact ⟨fun _ => neg200 _ (by omega), fun e => by cases e⟩
    | true =>
      have ps := ps q
      rw [if_pos rfl]
      by_cases z : tK t N R.2.2.1 = 0
      · rw [if_pos z]
        exact ⟨fun e => (by cases e), fun _ => nI_pos (by omega)⟩
      · rw [if_neg z]
        exact ih (k + 1) R.2.2.1 _ _ (by omega) ps.2 (by omega)
theorem RX.rd {h h' : zH} {x : Nat} {T : Tt} (r : RX h x T) (f : FD h h' x) (d : ∃ D, RD h' (x + 35) D) (q : ∃ N tk st sp nm, RR h' x N tk st sp nm) : RX h' x T := by
  have k1 : ∀ {a : Nat} {D : Dl}, RD h a D → (a + 34 ≤ x + 35 ∨ x + 75 ≤ a) → RD h' a D := by
    intro a D rd ha
    have F : Fr h h' (x + 35) (x + 75) → RD h' a D := fun F => rd.keep F (by omega)
    obtain ⟨h1, h2, h3, h4, h5, ⟨pg, sg, p1, p2, p3⟩, h7, h8⟩ := rd
    have e : ∀ b, a ≤ b → b < a + 34 → h'.2 b = h.2 b := fun b b1 b2 => f.2 b (by omega)
    refine ⟨(e _ (by omega) (by omega)).trans h1, (e _ (by omega) (by omega)).trans h2, (e _ (by omega) (by omega)).trans h3, (e _ (by omega) (by omega)).trans h4, ⟨(e _ (by omega) (by omega)).trans h5.1, (e _ (by omega) (by omega)).trans h5.2.1, (e _ (by omega) (by omega)).trans h5.2.2⟩, ⟨pg, sg, (e _ (by omega) (by omega)).trans p1, fun k hk => ?_, p3⟩, (e _ (by omega) (by omega)).trans h7, (e _ (by omega) (by omega)).trans h8⟩
    obtain ⟨a1, a2, a3, a4, a5⟩ := p2 k hk
    exact ⟨a1, a2, (e _ (by omega) (by omega)).trans a3, (e _ (by omega) (by omega)).trans a4, (e _ (by omega) (by omega)).trans a5⟩
  have k2 : ∀ {a : Nat} {W : Wr}, RW h a W → (x + 69 ≤ a ∧ (a + 3 ≤ x + 74 ∨ x + 75 ≤ a)) → RW h' a W := by
    intro a W rw_ ha
    exact ⟨(f.2 _ (by omega)).trans rw_.1, (f.2 _ (by omega)).trans rw_.2.1, (f.2 _ (by omega)).trans rw_.2.2⟩
  obtain ⟨a, b, c, d0, ⟨g, e1, e2⟩, ⟨g2, f1, f2⟩, ⟨g3, i1, i2⟩, ⟨s1, ⟨W0, s2⟩, s3, ⟨g4, c2, s4, s5⟩, s6, ⟨k, s7⟩, ⟨gg, s8, s9⟩, s10⟩⟩ := r
  obtain ⟨N, tk, st, sp, nm, q⟩ := q
  refine ⟨(f.2 _ (by omega)).trans a, k1 b (by omega), k1 c (by omega), k1 d0 (by omega), ⟨g, (f.2 _ (by omega)).trans e1, e2⟩, ⟨g2, (f.2 _ (by omega)).trans f1, f2⟩, ⟨g3, (f.2 _ (by omega)).trans i1, i2⟩, d, ⟨W0, k2 s2 (by omega)⟩, ⟨_, _, _, _, _, _, q⟩, ⟨g4, c2, (f.2 _ (by omega)).trans s4, (f.2 _ (by omega)).trans s5⟩, (f.2 _ (by omega)).trans s6, ⟨k, (f.2 _ (by omega)).trans s7⟩, ⟨gg, (f.2 _ (by omega)).trans s8, s9⟩, fun i hi => ?_⟩
  obtain ⟨W, w⟩ := s10 i hi
  exact ⟨W, k2 w (by omega)⟩
theorem MAll.fm {h h' : zH} {m : Nat} {M M' : Mo} {nf sf sf' bf jf jb ju xf rf yf of : Nat → Int32} (A : MAll h m M nf sf bf jf jb ju xf rf yf of) (f : FM h h' m) (hO : MO h' m M') (hA : MA h' (m + 2) 88 sf') : MAll h' m M' nf sf' bf jf jb ju xf rf yf of := by
  obtain ⟨h0, h1, h2, h3, h4, h5, h6, h7, h8, h9, h10⟩ := A
  exact ⟨hO, (f.2 _ (by omega) (by omega)).trans h1, hA, (f.2 _ (by omega) (by omega)).trans h3, (f.2 _ (by omega) (by omega)).trans h4, (f.2 _ (by omega) (by omega)).trans h5, (f.2 _ (by omega) (by omega)).trans h6, (f.2 _ (by omega) (by omega)).trans h7, (f.2 _ (by omega) (by omega)).trans h8, (f.2 _ (by omega) (by omega)).trans h9, (f.2 _ (by omega) (by omega)).trans h10⟩
theorem FM.toFr {h g : zH} {m : Nat} (f : FM h g m) : Fr h g m (m + 11) := ⟨f.1, fun a ha => f.2 a (by omega) (by omega)⟩
theorem FD.toFr {h g : zH} {x : Nat} (f : FD h g x) : Fr h g x (x + 159) := ⟨f.1, fun a ha => f.2 a (by omega)⟩
/-- the first token: where the last one began may be anything -/
theorem q_advance0 {h : zH} {x N : Nat} {t : Nat → Int32} {tk q nm : Int32} (hN : N ≤ 150) (r : h.2 (x + 74) = some (.inr (2, [.ref (x + 90), .int (nI N), .int tk, .int q, .int (nI 0), .int nm]))) (tx : TXc h x N t) : ∃ h' nm', f_X5_advance (x + 74) h = rV h' ∧ RR h' x N (nI (tK t N 0)) (tS t N 0) (tE t N 0) nm' ∧ (tK t N 0 = 2 → nm' = tV t N 0) ∧ Fr h h' (x + 74) (x + 75) := by
  obtain ⟨r0, f0⟩ := RR.set (h := h) (x := x) (N := N) tk 0 0 nm
  have t0 := tx.keep f0 (by omega)
  obtain ⟨h', nm', e, r', n', f'⟩ := q_advance hN (Nat.zero_le _) r0 t0
  refine ⟨h', nm', ?_, r', n', f0.tr f'⟩
  rw [← e]
  unfold f_X5_advance
  rw [zgI_eq r rfl, zgI_eq r0 rfl, zpV_eq r (Nat.le_of_ble_eq_true rfl), zpV_eq r0 (Nat.le_of_ble_eq_true rfl)]
  dsimp only [List.set]
  congr 1
  unfold zset
  congr 1
  funext q
  by_cases z : q = x + 74
  · simp [z]
  · simp [z]
/-- the class reads -/
theorem q_readDoll {h : zH} {x : Nat} {T : Tt} (r : RX h x T) (o : okT T) : ∃ (S : Sd) (W : Wr), S.1 = 0 ∧ S.2.1 = 0 ∧ W.2.2.1 = 0 ∧ W.2.2.2 = 0 ∧ okP S W 0 ∧ ∃ h', f_X5_readDoll (x + 74) (x + 90) (nI (tL T)) (x + 35) h = rI (rdAll (tX T) (tL T) (tL T + 1) 0 0 S W).2.1 h' ∧ RX h' x T ∧ FD h h' x ∧ ((rdAll (tX T) (tL T) (tL T + 1) 0 0 S W).1 = true → DR h' x (rdAll (tX T) (tL T) (tL T + 1) 0 0 S W).2.2.1 (rdAll (tX T) (tL T) (tL T + 1) 0 0 S W).2.2.2) := by
  obtain ⟨a, b, c, d0, e_, f_, ⟨g3, i1, i2⟩, ⟨⟨D, s1⟩, s2, ⟨by_, q1, q2, q3, q4, q5, s3⟩, srest⟩⟩ := id r
  have hN : tL T ≤ 150 := o.2.2.2.1
  unfold f_X5_readDoll
  rw [zpV_eq s3 (Nat.le_of_ble_eq_true rfl)]
  dsimp only [List.set]
  have F1 : Fr h (zset h (x + 74) (.inr (2, [.ref (x + 90), .int q1, .int q2, .int q3, .int q4, .int q5]))) (x + 74) (x + 75) := Fr.set _ (by omega) (by omega)
  have k1 : (zset h (x + 74) (.inr (2, [.ref (x + 90), .int q1, .int q2, .int q3, .int q4, .int q5]))).2 (x + 74) = some (.inr (2, [.ref (x + 90), .int q1, .int q2, .int q3, .int q4, .int q5])) := zset_at _ _ _
  generalize zset h (x + 74) (.inr (2, [.ref (x + 90), .int q1, .int q2, .int q3, .int q4, .int q5])) = g1 at F1 k1 ⊢
  have t1 := (F1.2 (x + 90) (by omega)).trans i1
  have el : ∀ K : Int32 → zR, zaL g1 (x + 90) 1 K = K (nI 150) := fun K => by
    unfold zaL
    rw [zgA_eq t1]; rfl
  rw [el, if_neg (show ¬ nI 150 < nI (tL T) from nI_nlt hN (by decide)), zpV_eq k1 (Nat.le_of_ble_eq_true rfl)]
  dsimp only [List.set]
  have F2 : Fr g1 (zset g1 (x + 74) (.inr (2, [.ref (x + 90), .int (nI (tL T)), .int q2, .int q3, .int q4, .int q5]))) (x + 74) (x + 75) := Fr.set _ (by omega) (by omega)
  have k2 : (zset g1 (x + 74) (.inr (2, [.ref (x + 90), .int (nI (tL T)), .int q2, .int q3, .int q4, .int q5]))).2 (x + 74) = some (.inr (2, [.ref (x + 90), .int (nI (tL T)), .int q2, .int q3, .int q4, .int q5])) := zset_at _ _ _
  generalize zset g1 (x + 74) (.inr (2, [.ref (x + 90), .int (nI (tL T)), .int q2, .int q3, .int q4, .int q5])) = g2 at F2 k2 ⊢
  rw [zpV_eq k2 (Nat.le_of_ble_eq_true rfl)]
  dsimp only [List.set]
  have F3 : Fr g2 (zset g2 (x + 74) (.inr (2, [.ref (x + 90), .int (nI (tL T)), .int q2, .int q3, .int 0, .int q5]))) (x + 74) (x + 75) := Fr.set _ (by omega) (by omega)
  have k3 : (zset g2 (x + 74) (.inr (2, [.ref (x + 90), .int (nI (tL T)), .int q2, .int q3, .int 0, .int q5]))).2 (x + 74) = some (.inr (2, [.ref (x + 90), .int (nI (tL T)), .int q2, .int q3, .int (nI 0), .int q5])) := zset_at _ _ _
  generalize zset g2 (x + 74) (.inr (2, [.ref (x + 90), .int (nI (tL T)), .int q2, .int q3, .int 0, .int q5])) = g4 at F3 k3 ⊢
  have FA := (F1.tr F2).tr F3
  have s1' := s1.keep FA (by omega)
  obtain ⟨g5, e5, d5, f5⟩ := q_X1_begin s1' 0
  have k5 := (f5.2 (x + 74) (by omega)).trans k3
  have fd5 : FD h g5 x := (FD.r FA).tr (FD.d f5 (by omega) (by omega))
  have tx5 : TXc g5 x (tL T) (tX T) := ⟨g3, (fd5.2 _ (by omega)).trans i1, i2⟩
  have on := okD.new (show kOk 0 from ⟨0, by omega, rfl⟩) D
  have op : okP (newD 0 D).1 (dW (newD 0 D)) 0 := ⟨on.1, on.2.1, 0, Nat.le_refl _, rfl⟩
  refine ⟨(newD 0 D).1, dW (newD 0 D), rfl, rfl, rfl, rfl, op, ?_⟩
  -- the first token: the object's start may be anything
  obtain ⟨h6, nm6, e6, r6, n6, f6⟩ : ∃ h' nm', f_X5_advance (x + 74) g5 = rV h' ∧ RR h' x (tL T) (nI (tK (tX T) (tL T) 0)) (tS (tX T) (tL T) 0) (tE (tX T) (tL T) 0) nm' ∧ (tK (tX T) (tL T) 0 = 2 → nm' = tV (tX T) (tL T) 0) ∧ Fr g5 h' (x + 74) (x + 75) := q_advance0 hN k5 tx5
  have d6 : DR h6 x (newD 0 D).1 (dW (newD 0 D)) := ⟨_, d5.keep f6 (by omega), rfl, rfl, rfl, rfl, rfl⟩
  obtain ⟨h7, e7, ⟨tk7, st7, sp7, nm7, r7⟩, f7, D7, d7⟩ := q_readDoll_32 hN o.2.2.2.2 (tL T + 1) zF 0 0 h6 nm6 (newD 0 D).1 (dW (newD 0 D)) (Nat.le_refl _) (Nat.zero_le _) (by omega) (by show _ < 20000; omega) r6 (tx5.keep f6 (by omega)) d6 op
  have F7 : FD h h7 x := (fd5.tr (FD.r f6)).tr f7
  refine ⟨h7, ?_, r.rd F7 D7 ⟨_, _, _, _, _, r7⟩, F7, d7⟩
  rw [zoc_eq s1'.1, zcV_of e5, zoc_eq k5, zcV_of e6]
  exact e7
theorem op_read : Both f_X9_read f_X10_read := by
  intro h x T r rM o
  have hN : tL T ≤ 150 := o.2.2.2.1
  obtain ⟨S, W, z1, z2, z3, z4, op, h1, e1, r1, f1, d1⟩ := q_readDoll r o
  have sg := rdAll_sign (t := tX T) hN (tL T + 1) 0 0 S W (Nat.le_refl _) (Nat.zero_le _) (by omega)
  have okA := rdAll_ok (t := tX T) hN (tL T + 1) 0 0 S W (Nat.le_refl _) (Nat.zero_le _) op
  obtain ⟨x0, x1, x2, x3, x4, x5, x6, ⟨sd, sw, ⟨_, _, _, _, _, _, s3⟩, srest⟩⟩ := id r
  -- the model, from any heap behind the class's call
  have model : ∀ (g : zH), RM g (x + 159) T → ∃ g' sp bg tk va nf sf bf jf jb ju xf rf yf of im, MAll g' (x + 159) (dPc (tD T), im, nI (tL T), tA T, tB T, sp, bg, tk, va) nf sf bf jf jb ju xf rf yf of ∧ RM2 (x + 159) T im nf bf jf jb ju xf rf ∧ Fr g g' (x + 159) (x + 159 + 11) ∧ ((rdAll (tX T) (tL T) (tL T + 1) 0 0 S W).1 = false → f_X10_read (x + 159) g = rI (rdAll (tX T) (tL T) (tL T + 1) 0 0 S W).2.1 g') ∧ ((rdAll (tX T) (tL T) (tL T + 1) 0 0 S W).1 = true → SRw sf (rdAll (tX T) (tL T) (tL T + 1) 0 0 S W).2.2.1 (rdAll (tX T) (tL T) (tL T + 1) 0 0 S W).2.2.2 ∧ f_X10_read (x + 159) g = zoc g' (x + 159) 6 (zcV (f_X10_take (x + 159) g') fun h2 => zpV h2 (x + 159) 6 3 (.int 0) fun h3 => zrI (rdAll (tX T) (tL T) (tL T + 1) 0 0 S W).2.1 h3)) := by
    intro g rg
    generalize x + 159 = m at rg ⊢
    obtain ⟨im, sp, bg, tk, va, nf, sf, bf, jf, jb, ju, xf, rf, yf, of, A, B⟩ := rg.all
    obtain ⟨g1, sf1, b1, b2, b3, b4, b5⟩ := q_X10_begin (show NW g m _ nf sf bf from ⟨A.1, A.2.1, A.2.2.1, A.2.2.2.1⟩) 0
    have A1 : MAll g1 m (dPc (tD T), im, nI (tL T), tA T, tB T, sp, bg, tk, va) nf sf1 bf jf jb ju xf rf yf of := by
      obtain ⟨h0, h1', h2, h3, h4, h5, h6, h7, h8', h9, h10⟩ := A
      exact ⟨b2.1, b2.2.1, b2.2.2.1, b2.2.2.2, h4.keep b5 (by omega), h5.keep b5 (by omega), h6.keep b5 (by omega), h7.keep b5 (by omega), h8'.keep b5 (by omega), h9.keep b5 (by omega), h10.keep b5 (by omega)⟩
    obtain ⟨A2, F2⟩ := A1.obj (dPc (tD T), im, nI (tL T), tA T, tB T, nI 0, bg, tk, va)
    have ez : ∀ K : zH → zR, zpV g1 m 6 13 (.int 0) K = K (zset g1 m (moE m (dPc (tD T), im, nI (tL T), tA T, tB T, nI 0, bg, tk, va))) := fun K => zpV_eq A1.1 (Nat.le_of_ble_eq_true rfl)
    generalize zset g1 m (moE m (dPc (tD T), im, nI (tL T), tA T, tB T, nI 0, bg, tk, va)) = g2 at A2 F2 ez
    have tx2 : TXm g2 m (tL T) (tX T) := ⟨xf, A2.2.2.2.2.2.2.2.1, B.2.2.2.2.1⟩
    obtain ⟨g3, va3, c1, c2, c3, c4, c5⟩ := q_next (t := tX T) (N := tL T) (M := (dPc (tD T), im, nI (tL T), tA T, tB T, nI 0, bg, tk, va)) (sp := 0) hN rfl (Nat.zero_le _) A2.1 tx2
    have sr : SRw sf1 S W := by
      have iz : ix S.2.1 = 0 := by rw [z2]; exact ix0
      have wz : wL W = 0 := by show ix W.2.2.1 = 0; rw [z3]; exact ix0
      refine ⟨⟨(b4 0 (by omega) (by omega)).trans z2.symm, b3.trans z1.symm, fun i hi => ?_⟩, ⟨(b4 2 (by omega) (by omega)).trans z4.symm, (b4 3 (by omega) (by omega)).trans z3.symm, fun j hj => ?_, fun i hi => ?_⟩, b4 44 (by omega) (by omega), b4 63 (by omega) (by omega)⟩
      · rw [iz] at hi; omega
      · rw [wz] at hj; omega
      · rw [iz] at hi; omega
    have A3m : MA g3 (m + 2) 88 sf1 := A2.2.2.1.keep c5 (by omega)
    have k4 := tK_le (tX T) (tL T) 0
    have FB := (b5.wide (lo2 := m) (hi2 := m + 11) (by omega) (by omega)).tr F2
    by_cases z : tK (tX T) (tL T) 0 = 0
    · have A3 := A2.fm (FM.o c5) c2 A3m
      have eS : tS (tX T) (tL T) 0 = tL T := by
        unfold tK at z
        by_cases y : tS (tX T) (tL T) 0 = tL T
        · exact y
        · rw [if_neg y] at z
          split at z
          · cases z
          · split at z
            · split at z <;> cases z
            · split at z <;> cases z
      have ew : wdAt (tX T) (tL T) 0 = 0 := by unfold wdAt; rw [if_neg (by omega)]
      have eR : rdAll (tX T) (tL T) (tL T + 1) 0 0 S W = (false, -200 - nI (tL T), S, W) := by
        rw [rdAll]
        have ei : itemP (tX T) (tL T) (decide (0 = 0)) 0 S W = itBad (tX T) (tL T) 0 S W := by
          unfold itemP
          rw [ew, decide_eq_true rfl, if_pos rfl, if_neg (by decide)]
        rw [ei]
        show (if false = true then _ else ((false, -200 - nI (tS (tX T) (tL T) 0), S, W) : Bool × Int32 × Sd × Wr)) = _
        rw [if_neg (by decide), eS]
      rw [eR]
      refine ⟨g3, _, _, _, _, nf, sf1, bf, jf, jb, ju, xf, rf, yf, of, im, A3, B, FB.tr (c5.wide (by omega) (by omega)), fun _ => ?_, fun e => by cases e⟩
      unfold f_X10_read
      rw [zoc_eq A.1, zcV_of b1, ez, zoc_eq A2.1, zcV_of c1, zgI_eq c2 rfl, if_pos (show kM (tK (tX T) (tL T) 0) = 0 from (kM_0 k4).mpr z), zgI_eq c2 rfl]
      rfl
    · obtain ⟨g4, sp4, bg4, tk4, va4, sf4, w1, w2, w3, w4, w5⟩ := q_read_32 (t := tX T) (N := tL T) (M := (dPc (tD T), im, nI (tL T), tA T, tB T, nI 0, bg, tk, va)) hN rfl (tL T + 1) zF 0 0 g3 va3 sf1 S W (Nat.le_refl _) (Nat.zero_le _) (by omega) (by show _ < 20000; omega) z c2 c3 A3m (tx2.keep c5 (by omega)) sr op
      have A4 := A2.fm ((FM.o c5).tr w3) w1 w2
      have er : f_X10_read m g = f_X10_read_32 zF m 0 g3 := by
        unfold f_X10_read
        rw [zoc_eq A.1, zcV_of b1, ez, zoc_eq A2.1, zcV_of c1, zgI_eq c2 rfl, if_neg (show ¬ kM (tK (tX T) (tL T) 0) = 0 from fun e => z ((kM_0 k4).mp e))]
      refine ⟨g4, sp4, bg4, tk4, va4, nf, sf4, bf, jf, jb, ju, xf, rf, yf, of, im, A4, B, (FB.tr (c5.wide (by omega) (by omega))).tr w3.toFr, fun e => ?_, fun e => ?_⟩
      · rw [er]; exact w4 e
      · refine ⟨(w5 e).1, ?_⟩
        rw [er]; exact (w5 e).2
  cases q : (rdAll (tX T) (tL T) (tL T + 1) 0 0 S W).1 with
  | false =>
    obtain ⟨g', sp, bg, tk, va, nf, sf, bf, jf, jb, ju, xf, rf, yf, of, im, A, B, F, m1, m2⟩ := model h1 (rM.keep f1.toFr (by omega))
    refine ⟨.int (rdAll (tX T) (tL T) (tL T + 1) 0 0 S W).2.1, h1, g', T, ?_, m1 q, r1.keep F (by omega), RM.mk A B, o, rM.keep f1.toFr (by omega)⟩
    unfold f_X9_read f_X9_read_35
    rw [zgR_eq x0 rfl, zgR_eq x0 rfl, zgI_eq x0 rfl, zgR_eq x0 rfl, zoc_eq s3, zcI_of e1, if_pos (sg.1 q)]
    rfl
  | true =>
    obtain ⟨D, dd, d2, d3, d4, d5, d6⟩ := d1 q
    have oA := okA q
    have oD : okD D := by
      refine ⟨by rw [show dn D = ix D.1.2.1 from rfl, d2]; exact oA.1, by rw [show dn D = ix D.1.2.1 from rfl, d2, d3]; exact oA.2.1, ⟨0, by omega, d4, fun k hk => absurd hk (Nat.not_lt_zero k)⟩, ⟨0, by omega, d5⟩, ⟨0, by omega, d6⟩⟩
    obtain ⟨h2, e2, r2, f2⟩ := q_X1_copyFrom r1.2.1 dd oD (by omega)
    have rx := r1.doll (f2.wide (by omega) (by omega)) r2
    have FX := f1.toFr.tr (f2.wide (lo2 := x) (hi2 := x + 159) (by omega) (by omega))
    obtain ⟨g', sp, bg, tk, va, nf, sf, bf, jf, jb, ju, xf, rf, yf, of, im, A, B, F, m1, m2⟩ := model h2 (rM.keep FX (by omega))
    obtain ⟨sr, m3⟩ := m2 q
    obtain ⟨g3, nf3, t1, t2, t3, t4⟩ := q_X10_take A.1 A.2.1 A.2.2.1
    have A3 : MAll g3 (x + 159) (dPc (tD T), im, nI (tL T), tA T, tB T, sp, bg, tk, va) nf3 sf bf jf jb ju xf rf yf of := by
      obtain ⟨h0, h1', h2, h3, h4, h5, h6, h7, h8', h9, h10⟩ := A
      exact ⟨h0.keep t4 (by omega), t2, h2.keep t4 (by omega), h3.keep t4 (by omega), h4.keep t4 (by omega), h5.keep t4 (by omega), h6.keep t4 (by omega), h7.keep t4 (by omega), h8'.keep t4 (by omega), h9.keep t4 (by omega), h10.keep t4 (by omega)⟩
    obtain ⟨A4, F4⟩ := A3.obj (0, im, nI (tL T), tA T, tB T, sp, bg, tk, va)
    have rowD : RowD nf3 bf D := by
      obtain ⟨s1, s2, s3, s4⟩ := sr
      have n8 := oA.1.2.1
      have l8 := oA.2.1.le n8
      refine ⟨?_, ?_, ⟨?_, fun j hj => ?_, ?_, fun j hj => ?_⟩, fun k hk => ?_⟩
      · rw [show dn D = ix D.1.2.1 from rfl, d2]; exact s1.eq t3 n8
      · rw [show dn D = ix D.1.2.1 from rfl, d2, d3]; exact s2.eq t3 n8 l8
      · rw [d5, ← t3 44 (by omega)]; exact s3
      · rw [d5, ix0] at hj; omega
      · rw [d6, ← t3 63 (by omega)]; exact s4
      · rw [d6, ix0] at hj; omega
      · rw [d4, ix0] at hk; omega
    have A5 : MAll (zset g3 (x + 159) (moE (x + 159) (0, im, nI (tL T), tA T, tB T, sp, bg, tk, va))) (x + 159) (dPc (cpyD D (tD T)), im, nI (tL T), tA T, tB T, sp, bg, tk, va) nf3 sf bf jf jb ju xf rf yf of := by
      rw [show dPc (cpyD D (tD T)) = 0 from d4]; exact A4
    have FF := F.tr ((t4.wide (lo2 := x + 159) (hi2 := x + 159 + 11) (by omega) (by omega)).tr F4)
    refine ⟨.int (rdAll (tX T) (tL T) (tL T + 1) 0 0 S W).2.1, h2, _, (cpyD D (tD T), T.2), ?_, ?_, rx.keep FF (by omega), RM.mk (T := (cpyD D (tD T), T.2)) A5 ⟨rowD.cpy oD _, B.2⟩, ⟨oD.cpy _, o.2⟩, rM.keep FX (by omega)⟩
    · unfold f_X9_read f_X9_read_35
      rw [zgR_eq x0 rfl, zgR_eq x0 rfl, zgI_eq x0 rfl, zgR_eq x0 rfl, zoc_eq s3, zcI_of e1, if_neg (sg.2 q), zgR_eq r1.1 rfl, zgR_eq r1.1 rfl, zoc_eq r1.2.1.1, zcV_of e2]
      rfl
    · rw [m3, zoc_eq A.1, zcV_of t1, zpV_eq A3.1 (Nat.le_of_ble_eq_true rfl)]
      rfl
