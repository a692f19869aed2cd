/-! mark, forget; which pieces are there -/
theorem rng_has {n : Nat} (hn : n < 2 ^ 30) (x : Int32) : rng 0 (nI n - 1) x = sHas (nI n) x := by
  unfold rng sHas
  by_cases c : x < 0
  · simp [c, Int32.not_le.mpr c]
  · obtain ⟨j, hj, e⟩ := nI_of c
    subst e
    have h0 : (0 : Int32) ≤ nI j := nI_pos' hj
    cases n with
    | zero =>
      have h1 : ¬ nI j ≤ nI 0 - 1 := fun q => by
        have : nI 0 - 1 < 0 := by decide
        exact nI_pos hj (Int32.lt_of_le_of_lt q this)
      have h2 : nI 0 ≤ nI j := h0
      simp [h1, h2]
    | succ n =>
      rw [nI_pred]
      by_cases q : j ≤ n
      · have h1 : nI j ≤ nI n := nI_le q (by omega)
        have h2 : ¬ nI (n + 1) ≤ nI j := nI_ge (by omega) (by omega)
        simp [h0, h1, h2, c]
      · have h1 : ¬ nI j ≤ nI n := nI_ge (by omega) hj
        have h2 : nI (n + 1) ≤ nI j := nI_le (by omega) hj
        simp [h1, h2]
theorem q_X10_isPiece {h : zH} {m n : Nat} {M : Mo} {nf : Nat → Int32} (hO : MO h m M) (hN : MA h (m + 1) 88 nf) (e : nf 0 = nI n) (hn : n ≤ 8) (x : Int32) : f_X10_isPiece m x h = rB (sHas (nI n) x) h := by
  unfold f_X10_isPiece
  rw [zgR_eq hO rfl, zaI_x 0 0 rfl hN (by decide) (by decide), e, zcI_of (q_X10_inn x 0 (nI n - 1) (A := 0) (B := (nI n - 1).toInt64) (by decide) rfl h), rng_has (by omega), zrZ_b]
theorem bits4 {a b c d : Bool} : (a && b && c && d) = false → a = false ∨ (a = true ∧ b = false) ∨ (a = true ∧ b = true ∧ c = false) ∨ (a = true ∧ b = true ∧ c = true ∧ d = false) := by
  cases a <;> cases b <;> cases c <;> cases d <;> simp
theorem okD.n {D : Dl} (o : okD D) : D.1.2.1 = nI (dn D) ∧ dn D ≤ 8 := ⟨o.1.1, o.1.2.1⟩
/-- a call whose answer and state hang on the state -/
theorem Both.of2 {fx fm : Nat → zH → zR} (H : ∀ T, okT T → ∃ (A : Value) (N : Tt), okT N ∧ (∀ (h : zH) (x : Nat), RX h x T → ∃ h1, fx x h = some (some A, h1) ∧ RX h1 x N ∧ Fr h h1 x (x + 159)) ∧ ∀ (h : zH) (m : Nat), RM h m T → ∃ h1, fm m h = some (some A, h1) ∧ RM h1 m N ∧ Fr h h1 m (m + 11)) : Both fx fm := by
  intro h x T rX rM ok
  obtain ⟨A, N, oN, hx, hm⟩ := H T ok
  obtain ⟨h1, e1, r1, f1⟩ := hx h x rX
  obtain ⟨h2, e2, r2, f2⟩ := hm h1 (x + 159) (rM.keep f1 (by omega))
  exact ⟨A, h1, h2, N, e1, e2, r1.keep f2 (by omega), r2, oN, rM.keep f1 (by omega)⟩
/-- refused as BAD -/
theorem of2Bad {fx fm : Nat → zH → zR} {T : Tt} (o : okT T) (hx : ∀ (h : zH) (x : Nat), RX h x T → ∀ h1, f_X9_refuse x (-102) h = rI (-102) h1 → fx x h = rI (-102) h1) (hm : ∀ (h : zH) (m : Nat), RM h m T → ∀ h1, f_X10_bad m h = rI (-102) h1 → fm m h = rI (-102) h1) : ∃ (A : Value) (N : Tt), okT N ∧ (∀ (h : zH) (x : Nat), RX h x T → ∃ h1, fx x h = some (some A, h1) ∧ RX h1 x N ∧ Fr h h1 x (x + 159)) ∧ ∀ (h : zH) (m : Nat), RM h m T → ∃ h1, fm m h = some (some A, h1) ∧ RM h1 m N ∧ Fr h h1 m (m + 11) := by
  refine ⟨.int (-102), nR0 T, o.r0, ?_, ?_⟩
  · intro h x r
    obtain ⟨h1, e1, r1, f1⟩ := (q_X9_refuse r).1
    exact ⟨h1, hx h x r h1 e1, r1, f1⟩
  · intro h m r
    obtain ⟨h1, e1, r1, f1⟩ := q_X10_bad r
    exact ⟨h1, hm h m r h1 e1, r1, f1⟩
theorem op_mark (a b w y : Int32) : Both (fun x => f_X9_mark x a b w y) (fun m => f_X10_mark m a b w y) := by
  refine Both.of2 (fun T o => ?_)
  obtain ⟨en, hn⟩ := o.1.n
  cases hc : (sHas (tD T).1.2.1 a && rng 1 9 b && rng 0 99 w && rng (-99) 40 y) with
  | false =>
    refine of2Bad o ?_ ?_
    · intro h x r h1 e1
      show f_X9_mark x a b w y h = _
      unfold f_X9_mark f_X9_mark_43
      rw [zgR_eq r.1 rfl, zoc_eq r.2.1.1, zcI_of (q_X1_has r.2.1.RS a), zcI_of (q_X9_in _ _ _ h), zcI_of (q_X9_in _ _ _ h), zcI_of (q_X9_in _ _ _ h), zoc_eq r.1, zcI_of e1]
      rcases bits4 hc with q | ⟨q1, q⟩ | ⟨q1, q2, q⟩ | ⟨q1, q2, q3, q⟩
      · rw [q, if_pos (by decide)]; rfl
      · rw [q1, if_neg (by decide), q, if_pos (by decide)]; rfl
      · rw [q1, if_neg (by decide), q2, if_neg (by decide), q, if_pos (by decide)]; rfl
      · rw [q1, if_neg (by decide), q2, if_neg (by decide), q3, if_neg (by decide), q, if_pos (by decide)]; rfl
    · intro h m r h1 e1
      obtain ⟨im, ⟨sp, bg, tk, va, nf, sf, bf, n0, a0⟩, u⟩ := r.nw
      have z0 := q_X10_isPiece n0.1 n0.2.1 (a0.1.1.trans en) hn a
      rw [← en] at z0
      show f_X10_mark m a b w y h = _
      unfold f_X10_mark f_X10_mark_47
      rw [zoc_eq n0.1, zcI_of z0, zcI_of (q_X10_inn b 1 9 (A := 1) (B := 9) (by decide) (by decide) h), zcI_of (q_X10_inn w 0 99 (A := 0) (B := 99) (by decide) (by decide) h), zcI_of (q_X10_inn y (-99) 40 (A := -99) (B := 40) (by decide) (by decide) h), zoc_eq n0.1, zcI_of e1]
      rcases bits4 hc with q | ⟨q1, q⟩ | ⟨q1, q2, q⟩ | ⟨q1, q2, q3, q⟩
      · rw [q, if_pos (by decide)]; rfl
      · rw [q1, if_neg (by decide), q, if_pos (by decide)]; rfl
      · rw [q1, if_neg (by decide), q2, if_neg (by decide), q, if_pos (by decide)]; rfl
      · rw [q1, if_neg (by decide), q2, if_neg (by decide), q3, if_neg (by decide), q, if_pos (by decide)]; rfl
  | true =>
    have hc1 : sHas (tD T).1.2.1 a = true ∧ rng 1 9 b = true ∧ rng 0 99 w = true ∧ rng (-99) 40 y = true := by
      rw [Bool.and_eq_true, Bool.and_eq_true, Bool.and_eq_true] at hc
      exact ⟨hc.1.1.1, hc.1.1.2, hc.1.2, hc.2⟩
    obtain ⟨ca, cb, cw, cy⟩ := hc1
    obtain ⟨c, hc6, ec⟩ := o.1.2.2.2.2
    have ei : ix (dMc (tD T)) = c := by rw [ec, ix_nI (by omega)]
    have hX : ∀ (h : zH) (x : Nat), RX h x T → ∀ r0, (if dMc (tD T) < 6 then zgR h x 5 0 fun a12 => zoc h a12 0 (zcV (f_X1_addMark a12 a b w y h) fun h13 => zgR h13 x 5 0 fun a14 => zgI h13 a14 0 11 fun x15 => zrI x15 h13) else zoc h x 5 (zcI (f_X9_refuse x (-104) h) fun x16 h17 => zrI x16 h17)) = r0 → f_X9_mark x a b w y h = r0 := by
      intro h x r r0 e
      unfold f_X9_mark
      rw [zgR_eq r.1 rfl, zoc_eq r.2.1.1, zcI_of (q_X1_has r.2.1.RS a), ca, if_neg (by decide), zcI_of (q_X9_in _ _ _ h), cb, if_neg (by decide), zcI_of (q_X9_in _ _ _ h), cw, if_neg (by decide), zcI_of (q_X9_in _ _ _ h), cy, if_neg (by decide), zgR_eq r.1 rfl, zgI_eq r.2.1.1 rfl]
      exact e
    by_cases q : c < 6
    · refine ⟨.int (nI (c + 1)), (((tD T).1, dW (tD T), dPc (tD T), dPv (tD T), dNc (tD T), dNt (tD T), nI (c + 1), up4 (dMk (tD T)) (4 * c) a b w y), T.2), ⟨⟨o.1.1, o.1.2.1, o.1.2.2.1, o.1.2.2.2.1, ⟨c + 1, by omega, rfl⟩⟩, o.2⟩, ?_, ?_⟩
      · intro h x r
        obtain ⟨h1, e1, r1, f1⟩ := q_X1_addMark r.2.1 ec q a b w y
        have rx := r.doll (f1.wide (by omega) (by omega)) r1
        refine ⟨h1, hX h x r _ ?_, rx, f1.wide (by omega) (by omega)⟩
        rw [if_pos (show dMc (tD T) < 6 by rw [ec]; exact nI_lt (b := 6) q (by decide)), zgR_eq r.1 rfl, zoc_eq r.2.1.1, zcV_of e1, zgR_eq rx.1 rfl, zgI_eq r1.1 rfl]
        rfl
      · intro h m r
        obtain ⟨im, ⟨sp, bg, tk, va, nf, sf, bf, n0, a0⟩, u⟩ := r.nw
        have z0 := q_X10_isPiece n0.1 n0.2.1 (a0.1.1.trans en) hn a
        rw [← en, ca] at z0
        obtain ⟨b1, b2, b3, b4⟩ := a0.2.2.1
        rw [ec] at b3
        show ∃ h1, f_X10_mark m a b w y h = _ ∧ _
        unfold f_X10_mark
        have e3 : 64 + 4 * nI c = nI (64 + 4 * c) := by rw [show (4 : Int32) = nI 4 from rfl, pk_mul]; exact nI_add 64 _
        have e4 : nI (64 + 4 * c) + 2 = nI (64 + 4 * c + 2) := nI_add _ 2
        have e5 : nI (64 + 4 * c) + 3 = nI (64 + 4 * c + 3) := nI_add _ 3
        rw [zoc_eq n0.1, zcI_of z0, if_neg (by decide), zcI_of (q_X10_inn b 1 9 (A := 1) (B := 9) (by decide) (by decide) h), cb, if_neg (by decide), zcI_of (q_X10_inn w 0 99 (A := 0) (B := 99) (by decide) (by decide) h), cw, if_neg (by decide), zcI_of (q_X10_inn y (-99) 40 (A := -99) (B := 40) (by decide) (by decide) h), cy, if_neg (by decide), n0.ld 63 63 rfl (by decide), b3, if_neg (show ¬ nI c = 6 from fun z => by have := (nI_eq (b := 6) (by omega) (by decide)).mp z; omega), n0.ld 63 63 rfl (by decide), b3, zlt_eq, e3, n0.st (nI (64 + 4 * c)) (64 + 4 * c) rfl (by omega)]
        obtain ⟨n1, f1⟩ := n0.now (upd nf (64 + 4 * c) a)
        generalize zset h (m + 1) (.inl (0, 88, .inl (upd nf (64 + 4 * c) a))) = g1 at n1 f1 ⊢
        rw [nI_1, n1.st (nI (64 + 4 * c + 1)) (64 + 4 * c + 1) rfl (by omega)]
        obtain ⟨n2, f2⟩ := n1.now (upd (upd nf (64 + 4 * c) a) (64 + 4 * c + 1) b)
        generalize zset g1 (m + 1) (.inl (0, 88, .inl (upd (upd nf (64 + 4 * c) a) (64 + 4 * c + 1) b))) = g2 at n2 f2 ⊢
        rw [e4, n2.st (nI (64 + 4 * c + 2)) (64 + 4 * c + 2) rfl (by omega)]
        obtain ⟨n3, f3⟩ := n2.now (upd (upd (upd nf (64 + 4 * c) a) (64 + 4 * c + 1) b) (64 + 4 * c + 2) w)
        generalize zset g2 (m + 1) (.inl (0, 88, .inl (upd (upd (upd nf (64 + 4 * c) a) (64 + 4 * c + 1) b) (64 + 4 * c + 2) w))) = g3 at n3 f3 ⊢
        rw [e5, n3.st (nI (64 + 4 * c + 3)) (64 + 4 * c + 3) rfl (by omega)]
        obtain ⟨n4, f4⟩ := n3.now (up4 nf (64 + 4 * c) a b w y)
        rw [show upd (upd (upd (upd nf (64 + 4 * c) a) (64 + 4 * c + 1) b) (64 + 4 * c + 2) w) (64 + 4 * c + 3) y = up4 nf (64 + 4 * c) a b w y from rfl]
        generalize zset g3 (m + 1) (.inl (0, 88, .inl (up4 nf (64 + 4 * c) a b w y))) = g4 at n4 f4 ⊢
        rw [zgR_eq n4.1 rfl, zaI_x 63 63 rfl n4.2.1 (by decide) (by decide), zsI_x 63 63 rfl n4.2.1 (by decide) (by decide), up4_lt _ _ _ _ _ (by omega), b3, nI_1]
        obtain ⟨n5, f5⟩ := n4.now (upd (up4 nf (64 + 4 * c) a b w y) 63 (nI (c + 1)))
        generalize zset g4 (m + 1) (.inl (0, 88, .inl (upd (up4 nf (64 + 4 * c) a b w y) 63 (nI (c + 1))))) = g5 at n5 f5 ⊢
        rw [n5.ld 63 63 rfl (by decide), upd_self]
        have F := (((f1.tr f2).tr f3).tr f4).tr f5
        obtain ⟨c', hc6', ec'⟩ := o.1.2.2.2.1
        have ei' : ix (dNc (tD T)) = c' := by rw [ec', ix_nI (by omega)]
        refine ⟨g5, rfl, u g5 _ sp bg tk va _ sf bf F n5 (a0.far o.1 (fun j hj => ?_) rfl rfl rfl rfl ⟨?_, fun j hj => ?_, ?_, fun j hj => ?_⟩), F.wide (by omega) (by omega)⟩
        · rw [upd_ne _ _ (by omega), up4_lt _ _ _ _ _ (by omega)]
        · rw [upd_ne _ _ (by omega), up4_lt _ _ _ _ _ (by omega)]; exact b1
        · have hj' : j < 3 * ix (dNc (tD T)) := hj
          rw [ei'] at hj'
          rw [upd_ne _ _ (by omega), up4_lt _ _ _ _ _ (by omega)]; exact b2 j hj
        · rw [upd_self]
        · have hj : j < 4 * (c + 1) := by
            have z : j < 4 * ix (nI (c + 1)) := hj
            rw [ix_nI (by omega)] at z; exact z
          rw [upd_ne _ _ (by omega)]
          show up4 nf (64 + 4 * c) a b w y (64 + j) = up4 (dMk (tD T)) (4 * c) a b w y j
          by_cases z : j < 4 * c
          · rw [up4_lt _ _ _ _ _ (by omega), up4_lt _ _ _ _ _ z]; exact b4 j (by rw [ei]; exact z)
          · have := up4_at nf (dMk (tD T)) (64 + 4 * c) (4 * c) (j - 4 * c) a b w y (by omega)
            rw [show 64 + 4 * c + (j - 4 * c) = 64 + j by omega, show 4 * c + (j - 4 * c) = j by omega] at this
            exact this
    · refine ⟨.int (-104), nR2 T, o.r2, ?_, ?_⟩
      · intro h x r
        obtain ⟨h1, e1, r1, f1⟩ := (q_X9_refuse r).2.2
        refine ⟨h1, hX h x r _ ?_, r1, f1⟩
        rw [if_neg (show ¬ dMc (tD T) < 6 by rw [ec]; exact nI_nlt (b := 6) (by omega) (by omega)), zoc_eq r.1, zcI_of e1]
        rfl
      · intro h m r
        obtain ⟨h1, e1, r1, f1⟩ := q_X10_full r
        obtain ⟨im, ⟨sp, bg, tk, va, nf, sf, bf, n0, a0⟩, u⟩ := r.nw
        have z0 := q_X10_isPiece n0.1 n0.2.1 (a0.1.1.trans en) hn a
        rw [← en, ca] at z0
        have b3 := a0.2.2.1.2.2.1
        rw [ec] at b3
        refine ⟨h1, ?_, r1, f1⟩
        show f_X10_mark m a b w y h = _
        unfold f_X10_mark
        rw [zoc_eq n0.1, zcI_of z0, if_neg (by decide), zcI_of (q_X10_inn b 1 9 (A := 1) (B := 9) (by decide) (by decide) h), cb, if_neg (by decide), zcI_of (q_X10_inn w 0 99 (A := 0) (B := 99) (by decide) (by decide) h), cw, if_neg (by decide), zcI_of (q_X10_inn y (-99) 40 (A := -99) (B := 40) (by decide) (by decide) h), cy, if_neg (by decide), n0.ld 63 63 rfl (by decide), b3, if_pos (show nI c = 6 by rw [show c = 6 by omega]; rfl), zoc_eq n0.1, zcI_of e1]
        rfl
