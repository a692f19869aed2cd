/-! piece -/
theorem RD.kd {h : zH} {d : Nat} {D : Dl} (r : RD h d D) (f : Nat → Int32) : RD (zset h (d + 1) (.inl (0, 8, .inl f))) d ((D.1.1, D.1.2.1, f, D.1.2.2.2), D.2) := by
  have F : Fr h (zset h (d + 1) (.inl (0, 8, .inl f))) (d + 1) (d + 2) := Fr.set _ (by omega) (by omega)
  obtain ⟨h1, h2, h3, h4, h5, h6, h7, h8⟩ := r
  exact ⟨(F.2 _ (by omega)).trans h1, zset_at _ _ _, h3.keep F (by omega), h4.keep F (by omega), h5.keep F (by omega), h6.keep F (by omega), h7.keep F (by omega), h8.keep F (by omega)⟩
theorem RD.co {h : zH} {d : Nat} {D : Dl} (r : RD h d D) (f : Nat → Int32) : RD (zset h (d + 2) (.inl (0, 8, .inl f))) d ((D.1.1, D.1.2.1, D.1.2.2.1, f, D.1.2.2.2.2), D.2) := by
  have F : Fr h (zset h (d + 2) (.inl (0, 8, .inl f))) (d + 2) (d + 3) := Fr.set _ (by omega) (by omega)
  obtain ⟨h1, h2, h3, h4, h5, h6, h7, h8⟩ := r
  exact ⟨(F.2 _ (by omega)).trans h1, h2.keep F (by omega), zset_at _ _ _, h4.keep F (by omega), h5.keep F (by omega), h6.keep F (by omega), h7.keep F (by omega), h8.keep F (by omega)⟩
theorem RD.pa {h : zH} {d : Nat} {D : Dl} (r : RD h d D) (f : Nat → Int32) : RD (zset h (d + 3) (.inl (0, 8, .inl f))) d ((D.1.1, D.1.2.1, D.1.2.2.1, D.1.2.2.2.1, f), D.2) := by
  have F : Fr h (zset h (d + 3) (.inl (0, 8, .inl f))) (d + 3) (d + 4) := Fr.set _ (by omega) (by omega)
  obtain ⟨h1, h2, h3, h4, h5, h6, h7, h8⟩ := r
  exact ⟨(F.2 _ (by omega)).trans h1, h2.keep F (by omega), h3.keep F (by omega), zset_at _ _ _, h5.keep F (by omega), h6.keep F (by omega), h7.keep F (by omega), h8.keep F (by omega)⟩
abbrev addS (S : Sd) (n : Nat) (a b c : Int32) : Sd := (S.1, nI (n + 1), upd S.2.2.1 n a, upd S.2.2.2.1 n b, upd S.2.2.2.2 n c)
abbrev addD (D : Dl) (n : Nat) (a b c : Int32) : Dl := (addS D.1 n a b c, dW D, 0, dPv D, dNc D, dNt D, dMc D, dMk D)
theorem q_X1_addPiece {h : zH} {d n : Nat} {D : Dl} (r : RD h d D) (hn : D.1.2.1 = nI n) (h8 : n < 8) (a b c : Int32) : ∃ h', f_X1_addPiece d a b c h = rV h' ∧ RD h' d (addD D n a b c) ∧ Fr h h' d (d + 34) := by
  obtain ⟨⟨ch, n', kd, co, pa⟩, W, pc, pv, nc, nt, mc, mk⟩ := D
  have hn : n' = nI n := hn
  subst hn
  unfold f_X1_addPiece f_X1_addPiece_54
  rw [zgI_eq r.1 rfl, if_neg (show ¬ (8 : Int32) ≤ nI n from nI_ge (b := 8) h8 (by decide)), zgR_eq r.1 rfl, zgI_eq r.1 rfl, zsI_x (nI n) n rfl r.2.1 h8 (by decide)]
  have r1 : RD _ d ((ch, nI n, upd kd n a, co, pa), W, pc, pv, nc, nt, mc, mk) := r.kd _
  have f1 : Fr h (zset h (d + 1) (.inl (0, 8, .inl (upd kd n a)))) d (d + 34) := Fr.set _ (by omega) (by omega)
  try dsimp only at r1 f1 ⊢
  generalize zset h (d + 1) (.inl (0, 8, .inl (upd kd n a))) = g1 at r1 f1 ⊢
  rw [zgR_eq r1.1 rfl, zgI_eq r1.1 rfl, zsI_x (nI n) n rfl r1.2.2.1 h8 (by decide)]
  have r2 : RD _ d ((ch, nI n, upd kd n a, upd co n b, pa), W, pc, pv, nc, nt, mc, mk) := r1.co _
  have f2 := f1.tr (Fr.set (h := g1) (a := d + 2) (lo := d) (hi := d + 34) (.inl (0, 8, .inl (upd co n b))) (by omega) (by omega))
  try dsimp only at r2 f2 ⊢
  generalize zset g1 (d + 2) (.inl (0, 8, .inl (upd co n b))) = g2 at r2 f2 ⊢
  rw [zgR_eq r2.1 rfl, zgI_eq r2.1 rfl, zsI_x (nI n) n rfl r2.2.2.2.1 h8 (by decide)]
  have r3 : RD _ d ((ch, nI n, upd kd n a, upd co n b, upd pa n c), W, pc, pv, nc, nt, mc, mk) := r2.pa _
  have f3 := f2.tr (Fr.set (h := g2) (a := d + 3) (lo := d) (hi := d + 34) (.inl (0, 8, .inl (upd pa n c))) (by omega) (by omega))
  try dsimp only at r3 f3 ⊢
  generalize zset g2 (d + 3) (.inl (0, 8, .inl (upd pa n c))) = g3 at r3 f3 ⊢
  rw [zgI_eq r3.1 rfl, nI_1, zpV_eq r3.1 (Nat.le_of_ble_eq_true rfl)]
  have r4 := r3.obj (D2 := ((ch, nI (n + 1), upd kd n a, upd co n b, upd pa n c), W, pc, pv, nc, nt, mc, mk)) rfl rfl rfl rfl rfl
  have f4 := f3.tr (Fr.set (h := g3) (a := d) (lo := d) (hi := d + 34) (rdE d ((ch, nI (n + 1), upd kd n a, upd co n b, upd pa n c), W, pc, pv, nc, nt, mc, mk)) (by omega) (by omega))
  dsimp only [List.set, rdE] at r4 f4 ⊢
  generalize zset g3 d _ = g4 at r4 f4 ⊢
  rw [zpV_eq r4.1 (Nat.le_of_ble_eq_true rfl)]
  exact ⟨_, rfl, r4.obj (D2 := ((ch, nI (n + 1), upd kd n a, upd co n b, upd pa n c), W, 0, pv, nc, nt, mc, mk)) rfl rfl rfl rfl rfl, f4.tr (Fr.set _ (by omega) (by omega))⟩
theorem okW.up {n L : Nat} {W : Wr} (o : okW n L W) : okW (n + 1) L W := ⟨o.1, by have := o.2.1; omega, fun k hk => by
  obtain ⟨j, hj, e⟩ := o.2.2.1 k hk
  exact ⟨j, by omega, e⟩, o.2.2.2⟩
theorem okD.add {D : Dl} {n : Nat} (o : okD D) (hn : dn D = n) (h8 : n < 8) {a : Int32} (ck : kOk a) (b c : Int32) : okD (addD D n a b c) := by
  have e : ix (nI (n + 1)) = n + 1 := ix_nI (by omega)
  obtain ⟨⟨o1, o2, o3, o4⟩, ⟨v1, v2, v3⟩, o5, o6, o7⟩ := o
  rw [hn] at o4 v1 v2
  refine ⟨⟨?_, ?_, o3, fun i hi => ?_⟩, ⟨?_, fun i hi h8 => ?_, v3⟩, ⟨0, by omega, rfl, fun k hk => absurd hk (Nat.not_lt_zero k)⟩, o6, o7⟩
  · show nI (n + 1) = nI (ix (nI (n + 1)))
    rw [e]
  · show ix (nI (n + 1)) ≤ 8
    rw [e]; omega
  · have hi : i < n + 1 := by have z : i < ix (nI (n + 1)) := hi; rw [e] at z; exact z
    show kOk (upd D.1.2.2.1 n a i)
    by_cases q : i = n
    · subst q; rw [upd_self]; exact ck
    · rw [upd_ne _ _ q]; exact o4 i (by omega)
  · show okW (ix (nI (n + 1))) _ _
    rw [e]; exact v1.up
  · have hi : n + 1 ≤ i := by have z : ix (nI (n + 1)) ≤ i := hi; rw [e] at z; exact z
    exact v2 i (by omega) h8
theorem NW.sld {h : zH} {m : Nat} {M : Mo} {nf sf bf : Nat → Int32} (r : NW h m M nf sf bf) (i : Int32) (j : Nat) (hi : i = nI j) (hj : j < 88) {K : Int32 → zR} : (zgR h m 6 1 fun a => zaI h a 0 i K) = K (sf j) := by
  rw [zgR_eq r.1 rfl, zaI_x i j hi r.2.2.1 hj (by decide)]
theorem NW.sst {h : zH} {m : Nat} {M : Mo} {nf sf bf : Nat → Int32} (r : NW h m M nf sf bf) (i : Int32) (j : Nat) (hi : i = nI j) (hj : j < 88) (x : Int32) {K : zH → zR} : (zgR h m 6 1 fun a => zsI h a 0 i x K) = K (zset h (m + 2) (.inl (0, 88, .inl (upd sf j x)))) := by
  rw [zgR_eq r.1 rfl, zsI_x i j hi r.2.2.1 hj (by decide)]
/-- the row with a piece more -/
def addF (f : Nat → Int32) (n : Nat) (a b c : Int32) : Nat → Int32 := upd (upd (upd (upd (upd f (12 + n) a) (20 + n) b) (28 + n) c) (36 + n) 0) 0 (nI (n + 1))
theorem addF_else {f : Nat → Int32} {n : Nat} {a b c : Int32} {j : Nat} (h0 : j ≠ 0) (h1 : j ≠ 12 + n) (h2 : j ≠ 20 + n) (h3 : j ≠ 28 + n) (h4 : j ≠ 36 + n) : addF f n a b c j = f j := by
  unfold addF
  rw [upd_ne _ _ h0, upd_ne _ _ h4, upd_ne _ _ h3, upd_ne _ _ h2, upd_ne _ _ h1]
theorem q_X10_addPiece {h : zH} {m n : Nat} {M : Mo} {nf sf bf : Nat → Int32} (r : NW h m M nf sf bf) (e : sf 0 = nI n) (h8 : n < 8) (a b c : Int32) : ∃ h', f_X10_addPiece m a b c h = rV h' ∧ NW h' m M nf (addF sf n a b c) bf ∧ Fr h h' m (m + 4) := by
  unfold f_X10_addPiece
  rw [r.sld 0 0 rfl (by decide), e, r.sst (12 + nI n) (12 + n) (nI_add 12 n) (by omega)]
  obtain ⟨n1, f1⟩ := r.side (upd sf (12 + n) a)
  generalize zset h (m + 2) (.inl (0, 88, .inl (upd sf (12 + n) a))) = g1 at n1 f1 ⊢
  rw [n1.sst (20 + nI n) (20 + n) (nI_add 20 n) (by omega)]
  obtain ⟨n2, f2⟩ := n1.side (upd (upd sf (12 + n) a) (20 + n) b)
  generalize zset g1 (m + 2) (.inl (0, 88, .inl (upd (upd sf (12 + n) a) (20 + n) b))) = g2 at n2 f2 ⊢
  rw [n2.sst (28 + nI n) (28 + n) (nI_add 28 n) (by omega)]
  obtain ⟨n3, f3⟩ := n2.side (upd (upd (upd sf (12 + n) a) (20 + n) b) (28 + n) c)
  generalize zset g2 (m + 2) (.inl (0, 88, .inl (upd (upd (upd sf (12 + n) a) (20 + n) b) (28 + n) c))) = g3 at n3 f3 ⊢
  rw [n3.sst (36 + nI n) (36 + n) (nI_add 36 n) (by omega)]
  obtain ⟨n4, f4⟩ := n3.side (upd (upd (upd (upd sf (12 + n) a) (20 + n) b) (28 + n) c) (36 + n) 0)
  generalize zset g3 (m + 2) (.inl (0, 88, .inl (upd (upd (upd (upd sf (12 + n) a) (20 + n) b) (28 + n) c) (36 + n) 0))) = g4 at n4 f4 ⊢
  rw [zgR_eq n4.1 rfl, zaI_x 0 0 rfl n4.2.2.1 (by decide) (by decide), zsI_x 0 0 rfl n4.2.2.1 (by decide) (by decide), upd_ne _ _ (show 0 ≠ 36 + n by omega), upd_ne _ _ (show 0 ≠ 28 + n by omega), upd_ne _ _ (show 0 ≠ 20 + n by omega), upd_ne _ _ (show 0 ≠ 12 + n by omega), e, nI_1]
  obtain ⟨n5, f5⟩ := n4.side (addF sf n a b c)
  exact ⟨_, rfl, n5, (((f1.tr f2).tr f3).tr f4).tr f5⟩
theorem RowD.add {nf bf : Nat → Int32} {D : Dl} {n : Nat} (r : RowD nf bf D) (o : okD D) (hn : dn D = n) (h8 : n < 8) (a b c : Int32) : RowD (addF nf n a b c) bf (addD D n a b c) := by
  have e : ix (nI (n + 1)) = n + 1 := ix_nI (by omega)
  have hL : wL (dW D) ≤ 8 := Nat.le_trans o.2.1.1.2.1 o.1.2.1
  obtain ⟨⟨s1, s2, s3⟩, ⟨w1, w2, w3, w4⟩, ⟨b1, b2, b3, b4⟩, p⟩ := r
  rw [hn] at s3 w4
  obtain ⟨c1, hc1, ec1⟩ := o.2.2.2.1
  have ei1 : ix (dNc D) = c1 := by rw [ec1, ix_nI (by omega)]
  refine ⟨⟨upd_self _ _ _, ?_, fun i hi => ?_⟩, ⟨?_, ?_, fun k hk => ?_, fun i hi => ?_⟩, ⟨?_, fun j hj => ?_, ?_, fun j hj => ?_⟩, fun k hk => absurd hk (Nat.not_lt_zero k)⟩
  · rw [addF_else (by omega) (by omega) (by omega) (by omega) (by omega)]; exact s2
  · have hi : i < n + 1 := by have z : i < ix (nI (n + 1)) := hi; rw [e] at z; exact z
    show addF nf n a b c (12 + i) = upd D.1.2.2.1 n a i ∧ addF nf n a b c (20 + i) = upd D.1.2.2.2.1 n b i ∧ addF nf n a b c (28 + i) = upd D.1.2.2.2.2 n c i
    by_cases q : i = n
    · subst q
      rw [upd_self, upd_self, upd_self]
      unfold addF
      refine ⟨?_, ?_, ?_⟩
      · rw [upd_ne _ _ (by omega), upd_ne _ _ (by omega), upd_ne _ _ (by omega), upd_ne _ _ (by omega), upd_self]
      · rw [upd_ne _ _ (by omega), upd_ne _ _ (by omega), upd_ne _ _ (by omega), upd_self]
      · rw [upd_ne _ _ (by omega), upd_ne _ _ (by omega), upd_self]
    · rw [upd_ne _ _ q, upd_ne _ _ q, upd_ne _ _ q, addF_else (by omega) (by omega) (by omega) (by omega) (by omega), addF_else (by omega) (by omega) (by omega) (by omega) (by omega), addF_else (by omega) (by omega) (by omega) (by omega) (by omega)]
      exact s3 i (by omega)
  · rw [addF_else (by omega) (by omega) (by omega) (by omega) (by omega)]; exact w1
  · rw [addF_else (by omega) (by omega) (by omega) (by omega) (by omega)]; exact w2
  · have hk' : k < wL (dW D) := hk
    rw [addF_else (by omega) (by omega) (by omega) (by omega) (by omega)]; exact w3 k hk
  · have hi : i < n + 1 := by have z : i < ix (nI (n + 1)) := hi; rw [e] at z; exact z
    by_cases q : i = n
    · subst q
      have := o.2.1.2.1 i (by rw [hn]; exact Nat.le_refl _) h8
      show addF nf i a b c (36 + i) = (dW D).2.1 i
      rw [this]
      unfold addF
      rw [upd_ne _ _ (by omega), upd_self]
    · rw [addF_else (by omega) (by omega) (by omega) (by omega) (by omega)]; exact w4 i (by omega)
  · rw [addF_else (by omega) (by omega) (by omega) (by omega) (by omega)]; exact b1
  · have hj' : j < 3 * ix (dNc D) := hj
    rw [addF_else (by omega) (by omega) (by omega) (by omega) (by omega)]; exact b2 j hj
  · rw [addF_else (by omega) (by omega) (by omega) (by omega) (by omega)]; exact b3
  · rw [addF_else (by omega) (by omega) (by omega) (by omega) (by omega)]; exact b4 j hj
theorem RowD.eq {f g bf : Nat → Int32} {D : Dl} (r : RowD f bf D) (o : okD D) (e : eqN 88 f g) : RowD g bf D := by
  have hL : wL (dW D) ≤ 8 := Nat.le_trans o.2.1.1.2.1 o.1.2.1
  obtain ⟨c1, hc1, ec1⟩ := o.2.2.2.1
  have ei1 : ix (dNc D) = c1 := by rw [ec1, ix_nI (by omega)]
  obtain ⟨c2, hc2, ec2⟩ := o.2.2.2.2
  have ei2 : ix (dMc D) = c2 := by rw [ec2, ix_nI (by omega)]
  obtain ⟨a, b, ⟨b1, b2, b3, b4⟩, p⟩ := r
  exact ⟨a.eq e o.1.2.1, b.eq e o.1.2.1 hL, ⟨(e 44 (by omega)).symm.trans b1, fun j hj => (e _ (by omega)).symm.trans (b2 j hj), (e 63 (by omega)).symm.trans b3, fun j hj => (e _ (by omega)).symm.trans (b4 j hj)⟩, p⟩
theorem op_piece (a b c : Int32) : Both (fun x => f_X9_piece x a b c) (fun m => f_X10_piece m a b c) := by
  refine Both.of2 (fun T o => ?_)
  cases hc : (rng 0 5 a && rng 0 3 b && rng 1 9 c) with
  | false =>
    refine of2Bad o ?_ ?_
    · intro h x r h1 e1
      show f_X9_piece x a b c h = _
      unfold f_X9_piece f_X9_piece_28
      rw [zcI_of (q_X9_in _ _ _ h), zcI_of (q_X9_in _ _ _ h), zcI_of (q_X9_in _ _ _ h), zoc_eq r.1, zcI_of e1]
      rcases bits3 hc with q | ⟨q1, q⟩ | ⟨q1, q2, q⟩
      · rw [q, if_pos (by decide)]; rfl
      · rw [q1, if_neg (by decide), q, if_pos (by decide)]; rfl
      · rw [q1, if_neg (by decide), q2, if_neg (by decide), q, if_pos (by decide)]; rfl
    · intro h m r h1 e1
      obtain ⟨im, sp, bg, tk, va, h0⟩ := r.mo
      show f_X10_piece m a b c h = _
      unfold f_X10_piece f_X10_piece_36
      rw [zcI_of (q_X10_inn a 0 5 (A := 0) (B := 5) (by decide) (by decide) h), zcI_of (q_X10_inn b 0 3 (A := 0) (B := 3) (by decide) (by decide) h), zcI_of (q_X10_inn c 1 9 (A := 1) (B := 9) (by decide) (by decide) h), zoc_eq h0, zcI_of e1]
      rcases bits3 hc with q | ⟨q1, q⟩ | ⟨q1, q2, q⟩
      · rw [q, if_pos (by decide)]; rfl
      · rw [q1, if_neg (by decide), q, if_pos (by decide)]; rfl
      · rw [q1, if_neg (by decide), q2, if_neg (by decide), q, if_pos (by decide)]; rfl
  | true =>
    have hc1 : rng 0 5 a = true ∧ rng 0 3 b = true ∧ rng 1 9 c = true := by
      rw [Bool.and_eq_true, Bool.and_eq_true] at hc
      exact ⟨hc.1.1, hc.1.2, hc.2⟩
    obtain ⟨ca, cb, cw⟩ := hc1
    obtain ⟨en, hn8⟩ := o.1.n
    generalize hn : dn (tD T) = n at en hn8
    by_cases q : n < 8
    · refine ⟨.int (nI n), (addD (tD T) n a b c, T.2), ⟨o.1.add hn q (kOk_rng.mp ca) b c, o.2⟩, ?_, ?_⟩
      · intro h x r
        obtain ⟨h1, e1, r1, f1⟩ := q_X1_addPiece r.2.1 en q a b c
        have rx := r.doll (f1.wide (by omega) (by omega)) r1
        refine ⟨h1, ?_, rx, f1.wide (by omega) (by omega)⟩
        show f_X9_piece x a b c h = _
        unfold f_X9_piece
        rw [zcI_of (q_X9_in _ _ _ h), ca, if_neg (by decide), zcI_of (q_X9_in _ _ _ h), cb, if_neg (by decide), zcI_of (q_X9_in _ _ _ h), cw, if_neg (by decide), zgR_eq r.1 rfl, zgI_eq r.2.1.1 rfl, if_pos (show (tD T).1.2.1 < 8 by rw [en]; exact nI_lt (b := 8) q (by decide)), zgR_eq r.1 rfl, zoc_eq r.2.1.1, zcV_of e1, zgR_eq rx.1 rfl, zgI_eq r1.1 rfl, nI_pred]
        rfl
      · intro h m r
        obtain ⟨im, ⟨sp, bg, tk, va, nf, sf, bf, n0, a0⟩, u⟩ := r.nw
        obtain ⟨h1, sf1, e1, n1, q1, f1⟩ := n0.aside
        have z0 : sf1 0 = nI n := (q1 0 (by omega)).symm.trans (a0.1.1.trans en)
        obtain ⟨h2, e2, n2, f2⟩ := q_X10_addPiece n1 z0 q a b c
        obtain ⟨h3, nf3, e3, n3, q3, f3⟩ := n2.take
        obtain ⟨n4, f4⟩ := n3.obj (0, im, nI (tL T), tA T, tB T, sp, bg, tk, va)
        have row : RowD nf3 bf (addD (tD T) n a b c) := RowD.eq (RowD.add (RowD.eq a0 o.1 q1) o.1 hn q a b c) (o.1.add hn q (kOk_rng.mp ca) b c) q3
        have F := ((f1.tr f2).tr f3).tr f4
        show ∃ h1, f_X10_piece m a b c h = _ ∧ _
        unfold f_X10_piece
        rw [zcI_of (q_X10_inn a 0 5 (A := 0) (B := 5) (by decide) (by decide) h), ca, if_neg (by decide), zcI_of (q_X10_inn b 0 3 (A := 0) (B := 3) (by decide) (by decide) h), cb, if_neg (by decide), zcI_of (q_X10_inn c 1 9 (A := 1) (B := 9) (by decide) (by decide) h), cw, if_neg (by decide), n0.ld 0 0 rfl (by decide), a0.1.1, en, if_neg (show ¬ nI n = 8 from fun z => by have := (nI_eq (b := 8) (by omega) (by decide)).mp z; omega), zoc_eq n0.1, zcV_of e1, zoc_eq n1.1, zcV_of e2, zoc_eq n2.1, zcV_of e3, n3.um]
        try dsimp only at n4 F ⊢
        generalize zset h3 m (moE m (0, im, nI (tL T), tA T, tB T, sp, bg, tk, va)) = h4 at n4 F ⊢
        rw [n4.ld 0 0 rfl (by decide), show nf3 0 = nI (n + 1) from row.1.1, nI_pred]
        exact ⟨h4, rfl, u h4 (addD (tD T) n a b c) sp bg tk va nf3 _ bf F n4 row, F.wide (by omega) (by omega)⟩
    · refine ⟨.int (-104), nR2 T, o.r2, ?_, ?_⟩
      · intro h x r
        obtain ⟨h1, e1, r1, f1⟩ := (q_X9_refuse r).2.2
        refine ⟨h1, ?_, r1, f1⟩
        show f_X9_piece x a b c h = _
        unfold f_X9_piece
        rw [zcI_of (q_X9_in _ _ _ h), ca, if_neg (by decide), zcI_of (q_X9_in _ _ _ h), cb, if_neg (by decide), zcI_of (q_X9_in _ _ _ h), cw, if_neg (by decide), zgR_eq r.1 rfl, zgI_eq r.2.1.1 rfl, if_neg (show ¬ (tD T).1.2.1 < 8 by rw [en]; exact nI_nlt (b := 8) (by omega) (by omega)), zoc_eq r.1, zcI_of e1]
        rfl
      · intro h m r
        obtain ⟨h1, e1, r1, f1⟩ := q_X10_full r
        obtain ⟨im, ⟨sp, bg, tk, va, nf, sf, bf, n0, a0⟩, u⟩ := r.nw
        refine ⟨h1, ?_, r1, f1⟩
        show f_X10_piece m a b c h = _
        unfold f_X10_piece
        rw [zcI_of (q_X10_inn a 0 5 (A := 0) (B := 5) (by decide) (by decide) h), ca, if_neg (by decide), zcI_of (q_X10_inn b 0 3 (A := 0) (B := 3) (by decide) (by decide) h), cb, if_neg (by decide), zcI_of (q_X10_inn c 1 9 (A := 1) (B := 9) (by decide) (by decide) h), cw, if_neg (by decide), n0.ld 0 0 rfl (by decide), a0.1.1, en, if_pos (show nI n = 8 by rw [show n = 8 by omega]; rfl), zoc_eq n0.1, zcI_of e1]
        rfl
