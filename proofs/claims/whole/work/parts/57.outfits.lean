/-! outfits, lean, spared -/
abbrev tP (T : Tt) : Nat → Bool := oP (tD T).1 (dW (tD T)) (dn (tD T))
theorem q_X9_find {h : zH} {x : Nat} {T : Tt} (r : RX h x T) (o : okT T) : ∃ h', f_X7_findOutfits (x + 76) (x + 1) h = rV h' ∧ WD h' (x + 76) (cntN (tP T) 256) (tP T) ∧ RX h' x T ∧ Fr h h' x (x + 159) := by
  obtain ⟨a, b, c, d, ⟨g, e1, e2⟩, ⟨g2, f1, f2⟩, ⟨g3, i1, i2⟩, ⟨⟨D, s1⟩, ⟨W0, s2⟩, ⟨y, a1, b1, c1, d1, e3, s3⟩, ⟨g4, c2, s4, s5⟩, s6, ⟨k, s7⟩, ⟨gg, s8, s9⟩, s10⟩⟩ := id r
  obtain ⟨h', q1, q2, f⟩ := q_X7_findOutfits (w := x + 76) (nw := x + 1 + 4) b.RS o.1.1 b.2.2.2.2.1 (fun K => zgR_eq b.1 rfl) s4 s5 (by omega) (by omega)
  refine ⟨h', q1, q2, ⟨(f.2 _ (by omega)).trans a, b.keep f (by omega), c.keep f (by omega), d.keep f (by omega), ⟨g, (f.2 _ (by omega)).trans e1, e2⟩, ⟨g2, (f.2 _ (by omega)).trans f1, f2⟩, ⟨g3, (f.2 _ (by omega)).trans i1, i2⟩, ⟨D, s1.keep f (by omega)⟩, ⟨W0, s2.keep f (by omega)⟩, ⟨y, a1, b1, c1, d1, e3, (f.2 _ (by omega)).trans s3⟩, ?_, (f.2 _ (by omega)).trans s6, ⟨k, s7.keep f (by omega)⟩, ⟨gg, (f.2 _ (by omega)).trans s8, s9⟩, fun j hj => ?_⟩, f.wide (by omega) (by omega)⟩
  · obtain ⟨p1, pf, p2, p3⟩ := q2
    exact ⟨pf, _, p1, p2⟩
  · obtain ⟨W, w⟩ := s10 j hj
    exact ⟨W, w.keep f (by omega)⟩
theorem cntN_stop {p : Nat → Bool} {a : Nat} : ∀ {b : Nat}, a ≤ b → (∀ k, a ≤ k → k < b → p k = false) → cntN p b = cntN p a
  | 0, h, _ => by rw [show a = 0 by omega]
  | b + 1, h, hp => by
    by_cases e : a = b + 1
    · rw [e]
    · rw [cntN, hp b (by omega) (by omega), if_neg (by decide)]
      exact cntN_stop (by omega) (fun k h1 h2 => hp k h1 (by omega))
theorem folN_stop {α : Type} {g : α → Nat → α} {z : α} {p : Nat → Bool} {a : Nat} : ∀ {b : Nat}, a ≤ b → (∀ k, a ≤ k → k < b → p k = false) → folN g z p b = folN g z p a
  | 0, h, _ => by rw [show a = 0 by omega]
  | b + 1, h, hp => by
    by_cases e : a = b + 1
    · rw [e]
    · rw [folN, hp b (by omega) (by omega), if_neg (by decide)]
      exact folN_stop (by omega) (fun k h1 h2 => hp k h1 (by omega))
theorem oP_hi {S : Sd} {W : Wr} {n s : Nat} (h : 2 ^ n ≤ s) : oP S W n s = false := by
  unfold oP
  rw [decide_eq_false (by omega)]; rfl
theorem oP_lo {S : Sd} {W : Wr} {n s : Nat} (h : s < 2 ^ n) : oP S W n s = oM S W n s := by
  unfold oP
  rw [decide_eq_true h]; rfl
theorem p256 {n : Nat} (hn : n ≤ 8) : 1 ≤ 2 ^ n ∧ 2 ^ n ≤ 256 := ⟨Nat.two_pow_pos n, Nat.pow_le_pow_right (n := 2) (j := 8) (by omega) hn⟩
theorem oP_c1 {S : Sd} {W : Wr} {n : Nat} : cntN (oP S W n) 1 = 0 := by rw [cntN, oP_0, if_neg (by decide)]; rfl
theorem oP_top {S : Sd} {W : Wr} {n : Nat} (hn : n ≤ 8) : cntN (oP S W n) 256 = cntN (oP S W n) (2 ^ n) := cntN_stop (p256 hn).2 (fun k h1 _ => oP_hi h1)
def atQ (p : Nat → Bool) (v : Int32) (s : Nat) : Bool := p s && decide (nI (cntN p s) = v)
theorem q_X10_outfitAt {h : zH} {m n L : Nat} {M : Mo} {nf : Nat → Int32} {S : Sd} {W : Wr} (hO : MO h m M) (hN : MA h (m + 1) 88 nf) (r : RowS nf n S) (rw_ : RowW nf n L W) (ok : okS n S) (v : Int32) : f_X10_outfitAt m v h = match fstN (atQ (oP S W n) v) (2 ^ n) with
    | some s => rI (nI s) h
    | none => rI (nI (cntN (oP S W n) (2 ^ n))) h := by
  have h8 := ok.2.1
  obtain ⟨p1, p2⟩ := p256 h8
  have z := zloopX (fun f s (a : Int32) => f_X10_outfitAt_4 f m v a (nI s) h) (fun s => nI (cntN (oP S W n) s)) (2 ^ n) (atQ (oP S W n) v) (fun s => rI (nI s) h) (rI (nI (cntN (oP S W n) (2 ^ n))) h) ?_ ?_ ?_ zF 1 (by omega) (by show 2 ^ n < 20000 + 1; omega) (fun j hj => by
    have : j = 0 := by omega
    subst this
    unfold atQ
    rw [oP_0]; rfl)
  · rw [oP_c1] at z
    exact z
  · intro f
    rw [f_X10_outfitAt_4, zgR_eq hO rfl, zaI_x 0 0 rfl hN (by decide) (by decide), r.1, ok.1, sh1N n (by omega), if_pos (Int32.le_refl _)]; rfl
  · intro f s hs hq
    rw [f_X10_outfitAt_4, zgR_eq hO rfl, zaI_x 0 0 rfl hN (by decide) (by decide), r.1, ok.1, sh1N n (by omega), if_neg (nI_ge hs (by omega)), zoc_eq hO, zcI_of (q_X10_isOutfit hO hN r rw_ ok (by omega)), ← oP_lo hs, cntN]
    unfold f_X10_outfitAt_34
    rw [nI_1 s]
    unfold atQ at hq
    cases q : oP S W n s with
    | false => rw [if_pos (by decide), if_neg (by decide)]
    | true =>
      rw [q, Bool.true_and] at hq
      rw [if_neg (by decide), if_neg (of_decide_eq_false hq), if_pos rfl, nI_1]
  · intro f s hs hq
    unfold atQ at hq
    rw [Bool.and_eq_true, decide_eq_true_eq] at hq
    rw [f_X10_outfitAt_4, zgR_eq hO rfl, zaI_x 0 0 rfl hN (by decide) (by decide), r.1, ok.1, sh1N n (by omega), if_neg (nI_ge hs (by omega)), zoc_eq hO, zcI_of (q_X10_isOutfit hO hN r rw_ ok (by omega)), ← oP_lo hs, hq.1, if_neg (by decide), if_pos hq.2]
    rfl
theorem op_outfits (v : Int32) : Both (fun x => f_X9_outfits x v) (fun m => f_X10_outfits m v) := by
  refine Both.of2 (fun T o => ?_)
  obtain ⟨en, hn⟩ := o.1.n
  have c70 : cntN (tP T) 256 ≤ 70 := oP_70 hn
  have ct : cntN (tP T) 256 = cntN (tP T) (2 ^ dn (tD T)) := oP_top hn
  obtain ⟨p1, p2⟩ := p256 hn
  by_cases hv : -1 ≤ v
  · have many : ∀ (h : zH) (m : Nat), RM h m T → f_X10_outfitMany m h = rI (nI (cntN (tP T) 256)) h := by
      intro h m r
      obtain ⟨M, nf, n0, n1, n2, n3, n4⟩ := r.now
      unfold f_X10_outfitMany
      have e := q_X10_outfitAt n0 n1 n2 n3 o.1.1 (-101)
      have nn : fstN (atQ (tP T) (-101)) (2 ^ dn (tD T)) = none := fstN_none.mpr (fun s hs => by
        unfold atQ
        have := cntN_le (tP T) s
        rw [decide_eq_false (m101 (by omega)), Bool.and_false])
      rw [nn] at e
      rw [zoc_eq n0, zcI_of e, ct]; rfl
    by_cases hm : v = -1
    · subst hm
      refine ⟨.int (nI (cntN (tP T) 256)), T, o, ?_, ?_⟩
      · intro h x r
        obtain ⟨h1, e1, w1, r1, f1⟩ := q_X9_find r o
        refine ⟨h1, ?_, r1, f1⟩
        obtain ⟨x0, x1, x2, x3, x4, x5, x6, ⟨sd, sw, sr, ⟨g4, c2, s4, s5⟩, srest⟩⟩ := id r
        show f_X9_outfits x (-1) h = _
        unfold f_X9_outfits
        rw [if_pos hv, zgR_eq r.1 rfl, zgR_eq r.1 rfl, zoc_eq s4, zcV_of e1, if_pos rfl, zgR_eq r1.1 rfl, zgI_eq w1.1 rfl]
        rfl
      · intro h m r
        refine ⟨h, ?_, r, Fr.rf⟩
        obtain ⟨M, nf, n0, n1, n2, n3, n4⟩ := r.now
        show f_X10_outfits m (-1) h = _
        unfold f_X10_outfits f_X10_outfits_38
        rw [if_pos hv, zoc_eq n0, zcI_of (many h m r), if_neg (by decide)]
        rfl
    · have h0 := neg1 hv hm
      obtain ⟨k, hk, ek⟩ := nI_of (Int32.not_lt.mpr h0)
      subst ek
      by_cases hc : k < cntN (tP T) 256
      · refine ⟨.int (nI (rowN (tP T) 256 k)), T, o, ?_, ?_⟩
        · intro h x r
          obtain ⟨h1, e1, ⟨w1, fw, w2, w3⟩, r1, f1⟩ := q_X9_find r o
          refine ⟨h1, ?_, r1, f1⟩
          obtain ⟨x0, x1, x2, x3, x4, x5, x6, ⟨sd, sw, sr, ⟨g4, c2, s4, s5⟩, srest⟩⟩ := id r
          show f_X9_outfits x (nI k) h = _
          unfold f_X9_outfits f_X9_outfits_61
          rw [if_pos hv, zgR_eq r.1 rfl, zgR_eq r.1 rfl, zoc_eq s4, zcV_of e1, if_neg hm, zgR_eq r1.1 rfl, zgI_eq w1 rfl, if_neg (nI_ge hc (by omega)), zgR_eq r1.1 rfl, zgR_eq w1 rfl, zaI_nI w2 (by omega) (by decide), w3 k hc]
          rfl
        · intro h m r
          refine ⟨h, ?_, r, Fr.rf⟩
          obtain ⟨M, nf, n0, n1, n2, n3, n4⟩ := r.now
          have e := q_X10_outfitAt n0 n1 n2 n3 o.1.1 (nI k)
          have hc2 : k < cntN (tP T) (2 ^ dn (tD T)) := by rw [← ct]; exact hc
          have fe := fst_row (tP T) hc2
          have fe2 : fstN (atQ (tP T) (nI k)) (2 ^ dn (tD T)) = some (rowN (tP T) (2 ^ dn (tD T)) k) := by
            rw [← fe]
            refine fstN_cong (fun s hs => ?_)
            unfold atQ
            have := cntN_le (tP T) s
            congr 1
            exact decide_eq_decide.mpr (nI_eq (by omega) (by omega))
          rw [fe2, ← rowN_grow (tP T) p2 hc2] at e
          show f_X10_outfits m (nI k) h = _
          unfold f_X10_outfits f_X10_outfits_38
          rw [if_pos hv, zoc_eq n0, zcI_of (many h m r), if_pos h0, if_neg (nI_ge hc (by omega)), zoc_eq n0, zcI_of e]
          rfl
      · have hc' : nI (cntN (tP T) 256) ≤ nI k := nI_le (by omega) hk
        refine ⟨.int (-5), T, o, ?_, ?_⟩
        · intro h x r
          obtain ⟨h1, e1, w1, r1, f1⟩ := q_X9_find r o
          refine ⟨h1, ?_, r1, f1⟩
          obtain ⟨x0, x1, x2, x3, x4, x5, x6, ⟨sd, sw, sr, ⟨g4, c2, s4, s5⟩, srest⟩⟩ := id r
          show f_X9_outfits x (nI k) h = _
          unfold f_X9_outfits f_X9_outfits_61
          rw [if_pos hv, zgR_eq r.1 rfl, zgR_eq r.1 rfl, zoc_eq s4, zcV_of e1, if_neg hm, zgR_eq r1.1 rfl, zgI_eq w1.1 rfl, if_pos hc']
          rfl
        · intro h m r
          refine ⟨h, ?_, r, Fr.rf⟩
          obtain ⟨M, nf, n0, n1, n2, n3, n4⟩ := r.now
          show f_X10_outfits m (nI k) h = _
          unfold f_X10_outfits f_X10_outfits_38
          rw [if_pos hv, zoc_eq n0, zcI_of (many h m r), if_pos h0, if_pos hc']
          rfl
  · refine of2Bad o ?_ ?_
    · intro h x r h1 e1
      show f_X9_outfits x v h = _
      unfold f_X9_outfits
      rw [if_neg hv, zoc_eq r.1, zcI_of e1]
      rfl
    · intro h m r h1 e1
      obtain ⟨M, nf, n0, n1, n2, n3, n4⟩ := r.now
      show f_X10_outfits m v h = _
      unfold f_X10_outfits
      rw [if_neg hv, zoc_eq n0, zcI_of e1]
      rfl
/-! lean -/
def leG (b : Int32) (s : Nat) : Int32 := if b = -101 then nI s else if pcount s < pcount (ix b) then nI s else b
theorem leG_ok {p : Nat → Bool} {b : Nat} : ∀ k, k ≤ cntN p b → b ≤ 256 → folR leG (-101) (rowN p b) k = -101 ∨ ∃ j, j < 256 ∧ folR leG (-101) (rowN p b) k = nI j
  | 0, _, _ => Or.inl rfl
  | k + 1, hk, hb => by
    have hr := (rowN_spec p b k (by omega)).1
    rw [folR]
    unfold leG
    by_cases c : folR (fun b s => if b = -101 then nI s else if pcount s < pcount (ix b) then nI s else b) (-101) (rowN p b) k = -101
    · rw [if_pos c]; exact Or.inr ⟨_, by omega, rfl⟩
    · rw [if_neg c]
      split
      · exact Or.inr ⟨_, by omega, rfl⟩
      · rcases leG_ok (p := p) (b := b) k (by omega) hb with q | q
        · exact absurd q c
        · exact Or.inr q
theorem pc_le8 (m : Nat) : pcount m ≤ 8 := cntN_le _ 8
theorem q_X7_smallest {h : zH} {w N : Nat} {p : Nat → Bool} (hw : WD h w N p) (hN : N ≤ 70) (hc : N ≤ cntN p 256) : f_X7_smallest w h = rI (folR leG (-101) (rowN p 256) N) h := by
  obtain ⟨w1, f, w2, w3⟩ := hw
  refine zloop (fun e k b => f_X7_smallest_5 e w b (nI k) h) (folR leG (-101) (rowN p 256)) N _ ?_ ?_ zF 0 (Nat.zero_le _) (zF_gt (by omega))
  · intro e
    rw [f_X7_smallest_5, zgI_eq w1 rfl, if_pos (Int32.le_refl _)]; rfl
  · intro e k hk
    have hr := (rowN_spec p 256 k (by omega)).1
    rw [f_X7_smallest_5, zgI_eq w1 rfl, if_neg (nI_ge hk (by omega)), folR]
    unfold f_X7_smallest_35 f_X7_smallest_42
    rw [nI_1 k]
    rcases leG_ok (p := p) (b := 256) k (by omega) (Nat.le_refl _) with q | ⟨j, hj, q⟩
    · rw [q, if_pos rfl, zgR_eq w1 rfl, zaI_nI w2 (by omega) (by decide), w3 k hk]; rfl
    · rw [q, if_neg (m101 hj), zgR_eq w1 rfl, zaI_nI w2 (by omega) (by decide), w3 k hk, zcI_of (q_bitCount hr h), zcI_of (q_bitCount hj h)]
      have l1 := pc_le8 j
      have l2 := pc_le8 (rowN p 256 k)
      show _ = f_X7_smallest_5 e w (if nI j = -101 then nI (rowN p 256 k) else if pcount (rowN p 256 k) < pcount (ix (nI j)) then nI (rowN p 256 k) else nI j) (nI (k + 1)) h
      rw [if_neg (m101 hj), ix_nI (by omega)]
      by_cases z : pcount (rowN p 256 k) < pcount j
      · rw [if_neg (nI_ge z (by omega)), if_pos z, zgR_eq w1 rfl, zaI_nI w2 (by omega) (by decide), w3 k hk]
      · rw [if_pos (nI_le (by omega) (by omega)), if_neg z]
theorem q_X10_lean_20 {h : zH} {m n L : Nat} {M : Mo} {nf : Nat → Int32} {S : Sd} {W : Wr} (hO : MO h m M) (hN : MA h (m + 1) 88 nf) (r : RowS nf n S) (rw_ : RowW nf n L W) (ok : okS n S) (v : Int32) {b : Int32} (hb : folR leG (-101) (rowN (oP S W n) 256) (cntN (oP S W n) 256) = b) : f_X10_lean_20 zF m v (-101) 1 h = if b = -101 then rI b h else if v = 1 then rI b h else f_X10_ones b h := by
  have h8 := ok.2.1
  obtain ⟨p1, p2⟩ := p256 h8
  have eb : folN leG (-101) (oP S W n) (2 ^ n) = b := by
    rw [← hb, ← fol_eq leG (-101) (oP S W n) 256 256 (Nat.le_refl _)]
    exact (folN_stop p2 (fun k h1 _ => oP_hi h1)).symm
  have e1 : folN leG (-101) (oP S W n) 1 = -101 := by rw [folN, oP_0, if_neg (by decide)]; rfl
  have z := zloopF (fun f s a => f_X10_lean_20 f m v a (nI s) h) (folN leG (-101) (oP S W n)) 1 (2 ^ n) (if b = -101 then rI b h else if v = 1 then rI b h else f_X10_ones b h) ?_ ?_ zF 1 (Nat.le_refl _) (by omega) (by show 2 ^ n < 20000 + 1; omega)
  · rw [e1] at z
    exact z
  · intro f
    rw [eb, f_X10_lean_20, zgR_eq hO rfl, zaI_x 0 0 rfl hN (by decide) (by decide), r.1, ok.1, sh1N n (by omega), if_pos (Int32.le_refl _)]
    unfold f_X10_lean_80 f_X10_lean_88
    by_cases q : b = -101
    · rw [if_pos q, if_pos q]; rfl
    · rw [if_neg q, if_neg q]
      by_cases y : v = 1
      · rw [if_pos y, if_pos y]; rfl
      · rw [if_neg y, if_neg y]
        have : b = -101 ∨ ∃ j, j < 256 ∧ b = nI j := by rw [← hb]; exact leG_ok (p := oP S W n) (b := 256) _ (Nat.le_refl _) (Nat.le_refl _)
        rcases this with w | ⟨j, hj, w⟩
        · exact absurd w q
        · rw [w, zcI_of (q_ones hj h), q_ones hj h]; rfl
  · intro f s hs1 hs
    rw [f_X10_lean_20, zgR_eq hO rfl, zaI_x 0 0 rfl hN (by decide) (by decide), r.1, ok.1, sh1N n (by omega), if_neg (nI_ge hs (by omega)), zoc_eq hO, zcI_of (q_X10_isOutfit hO hN r rw_ ok (by omega)), ← oP_lo hs, folN]
    unfold f_X10_lean_61 f_X10_lean_57 f_X10_lean_62
    rw [nI_1 s]
    cases q : oP S W n s with
    | false => rw [if_pos (by decide), if_neg (by decide)]
    | true =>
      rw [if_neg (by decide), if_pos rfl]
      have : folN leG (-101) (oP S W n) s = -101 ∨ ∃ j, j < 256 ∧ folN leG (-101) (oP S W n) s = nI j := by
        rw [fol_eq leG (-101) (oP S W n) 256 s (by omega)]
        exact leG_ok (p := oP S W n) (b := 256) _ (cntN_mono _ (by omega)) (Nat.le_refl _)
      rcases this with w | ⟨j, hj, w⟩
      · rw [w, if_pos rfl]; rfl
      · rw [w, if_neg (m101 hj), zcI_of (q_ones (show s < 256 by omega) h), zcI_of (q_ones hj h)]
        have l1 := pc_le8 j
        have l2 := pc_le8 s
        show _ = f_X10_lean_20 f m v (if nI j = -101 then nI s else if pcount s < pcount (ix (nI j)) then nI s else nI j) (nI (s + 1)) h
        rw [if_neg (m101 hj), ix_nI (by omega)]
        by_cases z : pcount s < pcount j
        · rw [if_neg (nI_ge z (by omega)), if_pos z]
        · rw [if_pos (nI_le (by omega) (by omega)), if_neg z]
theorem op_lean (v : Int32) : Both (fun x => f_X9_lean x v) (fun m => f_X10_lean m v) := by
  refine Both.of2 (fun T o => ?_)
  obtain ⟨en, hn⟩ := o.1.n
  have c70 : cntN (tP T) 256 ≤ 70 := oP_70 hn
  cases hh : rng 0 1 v with
  | false =>
    refine of2Bad o ?_ ?_
    · intro h x r h1 e1
      show f_X9_lean x v h = _
      unfold f_X9_lean
      rw [zcI_of (q_X9_in _ _ _ h), hh, if_pos (by decide), zoc_eq r.1, zcI_of e1]
      rfl
    · intro h m r h1 e1
      obtain ⟨M, nf, n0, n1, n2, n3, n4⟩ := r.now
      show f_X10_lean m v h = _
      unfold f_X10_lean
      rw [zcI_of (q_X10_inn v 0 1 (A := 0) (B := 1) (by decide) (by decide) h), hh, if_pos (by decide), zoc_eq n0, zcI_of e1]
      rfl
  | true =>
    obtain ⟨b, hb⟩ : ∃ b, folR leG (-101) (rowN (tP T) 256) (cntN (tP T) 256) = b := ⟨_, rfl⟩
    have bo : b = -101 ∨ ∃ j, j < 256 ∧ b = nI j := by rw [← hb]; exact leG_ok (p := tP T) (b := 256) _ (Nat.le_refl _) (Nat.le_refl _)
    refine ⟨.int (if b = -101 then -101 else if v = 0 then nI (pcount (ix b)) else b), T, o, ?_, ?_⟩
    · intro h x r
      obtain ⟨h1, e1, w1, r1, f1⟩ := q_X9_find r o
      refine ⟨h1, ?_, r1, f1⟩
      obtain ⟨x0, x1, x2, x3, x4, x5, x6, ⟨sd, sw, sr, ⟨g4, c2, s4, s5⟩, srest⟩⟩ := id r
      have e2 := q_X7_smallest w1 c70 (Nat.le_refl _)
      rw [hb] at e2
      show f_X9_lean x v h = _
      unfold f_X9_lean f_X9_lean_56
      rw [zcI_of (q_X9_in _ _ _ h), hh, if_neg (by decide), zgR_eq r.1 rfl, zgR_eq r.1 rfl, zoc_eq s4, zcV_of e1, zgR_eq r1.1 rfl, zoc_eq w1.1, zcI_of e2]
      by_cases q : b = -101
      · rw [if_pos q, if_pos q]; rfl
      · rw [if_neg q, if_neg q]
        rcases bo with w | ⟨j, hj, w⟩
        · exact absurd w q
        · subst w
          by_cases z : v = 0
          · rw [if_pos z, if_pos z, zcI_of (q_bitCount hj h1), ix_nI (by omega)]; rfl
          · rw [if_neg z, if_neg z]; rfl
    · intro h m r
      refine ⟨h, ?_, r, Fr.rf⟩
      obtain ⟨M, nf, n0, n1, n2, n3, n4⟩ := r.now
      show f_X10_lean m v h = _
      unfold f_X10_lean
      rw [zcI_of (q_X10_inn v 0 1 (A := 0) (B := 1) (by decide) (by decide) h), hh, if_neg (by decide), q_X10_lean_20 n0 n1 n2 n3 o.1.1 v hb]
      by_cases q : b = -101
      · rw [if_pos q, if_pos q, q]
      · rw [if_neg q, if_neg q]
        rcases bo with w | ⟨j, hj, w⟩
        · exact absurd w q
        · subst w
          rcases rng01.mp hh with z | z
          · subst z; rw [if_neg (by decide), if_pos rfl, q_ones hj h, ix_nI (by omega)]
          · subst z; rw [if_pos rfl, if_neg (by decide)]
/-! spared -/
def spG (a s : Nat) : Nat := a ||| s
theorem q_X7_used {h : zH} {w N : Nat} {p : Nat → Bool} (hw : WD h w N p) (hN : N ≤ 70) : f_X7_used w h = rI (nI (folR spG 0 (rowN p 256) N)) h := by
  obtain ⟨w1, f, w2, w3⟩ := hw
  refine zloop (fun e k (b : Nat) => f_X7_used_4 e w (nI b) (nI k) h) (folR spG 0 (rowN p 256)) N _ ?_ ?_ zF 0 (Nat.zero_le _) (zF_gt (by omega))
  · intro e
    rw [f_X7_used_4, zgI_eq w1 rfl, if_pos (Int32.le_refl _)]; rfl
  · intro e k hk
    rw [f_X7_used_4, zgI_eq w1 rfl, if_neg (nI_ge hk (by omega)), zgR_eq w1 rfl, zaI_nI w2 (by omega) (by decide), w3 k hk, zlt_eq, nI_1, nI_or]; rfl
theorem op_spared : Both f_X9_spared f_X10_spared := by
  refine Both.ask (fun T o => ?_)
  obtain ⟨en, hn⟩ := o.1.n
  have c70 : cntN (tP T) 256 ≤ 70 := oP_70 hn
  obtain ⟨p1, p2⟩ := p256 hn
  refine ⟨.int (((1 : Int32) <<< (nI (dn (tD T)) &&& 31) - 1) &&& (nI (folR spG 0 (rowN (tP T) 256) (cntN (tP T) 256)) ^^^ (-1))), ?_, ?_⟩
  · intro h x r
    obtain ⟨h1, e1, w1, r1, f1⟩ := q_X9_find r o
    refine ⟨h1, ?_, r1, f1⟩
    obtain ⟨x0, x1, x2, x3, x4, x5, x6, ⟨sd, sw, sr, ⟨g4, c2, s4, s5⟩, srest⟩⟩ := id r
    unfold f_X9_spared f_X1_allPieces
    rw [zgR_eq r.1 rfl, zgR_eq r.1 rfl, zoc_eq s4, zcV_of e1, zgR_eq r1.1 rfl, zoc_eq r1.2.1.1, zgI_eq r1.2.1.1 rfl, zcI_of (show zrI (1 <<< ((tD T).1.2.1 &&& 31) - 1) h1 = rI _ h1 from rfl), zgR_eq r1.1 rfl, zoc_eq w1.1, zcI_of (q_X7_used w1 c70), en]
    rfl
  · intro h m r
    refine ⟨h, ?_, r, Fr.rf⟩
    obtain ⟨M, nf, n0, n1, n2, n3, n4⟩ := r.now
    have e1 : folN spG 0 (tP T) 1 = 0 := by rw [folN, show tP T 0 = false from oP_0, if_neg (by decide)]; rfl
    have eb : folN spG 0 (tP T) (2 ^ dn (tD T)) = folR spG 0 (rowN (tP T) 256) (cntN (tP T) 256) := by
      rw [← fol_eq spG 0 (tP T) 256 256 (Nat.le_refl _)]
      exact (folN_stop p2 (fun k h1 _ => oP_hi h1)).symm
    have z := zloopF (fun f s (a : Nat) => f_X10_spared_4 f m (nI a) (nI s) h) (folN spG 0 (tP T)) 1 (2 ^ dn (tD T)) (rI (((1 : Int32) <<< (nI (dn (tD T)) &&& 31) - 1) &&& (nI (folR spG 0 (rowN (tP T) 256) (cntN (tP T) 256)) ^^^ (-1))) h) ?_ ?_ zF 1 (Nat.le_refl _) (by omega) (by show 2 ^ dn (tD T) < 20000 + 1; omega)
    · rw [e1] at z
      exact z
    · intro f
      rw [eb, f_X10_spared_4, zgR_eq n0 rfl, zaI_x 0 0 rfl n1 (by decide) (by decide), n2.1, en, sh1N (dn (tD T)) (by omega), if_pos (Int32.le_refl _), zgR_eq n0 rfl, zaI_x 0 0 rfl n1 (by decide) (by decide), n2.1, en, sh1N (dn (tD T)) (by omega)]; rfl
    · intro f s hs1 hs
      rw [f_X10_spared_4, zgR_eq n0 rfl, zaI_x 0 0 rfl n1 (by decide) (by decide), n2.1, en, sh1N (dn (tD T)) (by omega), if_neg (nI_ge hs (by omega)), zoc_eq n0, zcI_of (q_X10_isOutfit n0 n1 n2 n3 o.1.1 (by omega)), ← oP_lo hs, folN]
      unfold f_X10_spared_30
      rw [zlt_eq, zlt_eq, nI_1 s]
      show (if b2i (tP T s) = 0 then _ else _) = _
      cases q : tP T s with
      | false => rw [if_pos (by decide), or0, if_neg (by decide)]
      | true => rw [if_neg (by decide), if_pos rfl, nI_or]; rfl
