/-! puts, takes, mends: both sides -/
theorem op_go {what : Int32} (hw : what = 0 ∨ what = 1 ∨ what = 2) (a : Int32) {fx fm : Nat → zH → zR} (hno : ∀ (h : zH) (x : Nat) (T : Tt) (y : Int32) (h1 : zH), RX h x T → ¬ y = 0 → f_X9_whyNoMove x what a h = rI y h → f_X9_refuse x y h = rI y h1 → fx x h = rI y h1) (hyes : ∀ (h : zH) (x : Nat) (T : Tt) (D2 : Dl) (i : Nat) (h1 : zH), RX h x T → i < 8 → a = nI i → f_X9_whyNoMove x what a h = rI 0 h → f_X1_moveForGood (x + 1) what a h = rV h1 → RX h1 x (D2, T.2) → fx x h = rI (if what = 2 then (dW (tD T)).2.1 i else (dW D2).2.2.1) h1) (hfm : ∀ (h : zH) (m : Nat) (M : Mo) (y : Int32) (h1 : zH), MO h m M → f_X10_move m what a h = rI y h1 → fm m h = rI y h1) : Both fx fm := by
  refine Both.of2 (fun T o => ?_)
  obtain ⟨en, hn⟩ := o.1.n
  cases hh : sHas (tD T).1.2.1 a with
  | false =>
    refine of2Bad o ?_ ?_
    · intro h x r h1 e1
      exact hno h x T _ h1 r (by decide) ((q_X9_whyNoMove r o hw a).1 hh) e1
    · intro h m r h1 e1
      obtain ⟨im, ⟨sp, bg, tk, va, nf, sf, bf, n0, a0⟩, u⟩ := r.nw
      refine hfm h m _ _ h1 n0.1 ?_
      unfold f_X10_move
      rw [zoc_eq n0.1, zcI_of (q_X10_isPiece n0.1 n0.2.1 (a0.1.1.trans en) hn a), ← en, hh, if_pos (by decide), zoc_eq n0.1, zcI_of e1]
      rfl
  | true =>
    obtain ⟨i, hi, ea⟩ := (sHas_nI (n := dn (tD T)) (x := a) (by omega)).mp (by rw [← en]; exact hh)
    subst ea
    obtain ⟨v, hv9, hv, -⟩ := o.1.2.1.2.2
    obtain ⟨c, hc8, hc, hcp⟩ := o.1.2.2.1
    by_cases bad : (9999 : Int32) ≤ (dW (tD T)).2.2.2 ∨ canMove (tD T).1 (dW (tD T)) (wL (dW (tD T))) what i = false
    · refine ⟨.int (-103), nR1 T, o.r1, ?_, ?_⟩
      · intro h x r
        obtain ⟨h1, e1, r1, f1⟩ := (q_X9_refuse r).2.1
        have w := (q_X9_whyNoMove r o hw (nI i)).2 i hi rfl
        rw [if_pos bad] at w
        exact ⟨h1, hno h x T _ h1 r (by decide) w e1, r1, f1⟩
      · intro h m r
        obtain ⟨im, ⟨sp, bg, tk, va, nf, sf, bf, n0, a0⟩, u⟩ := r.nw
        obtain ⟨h1, sf1, e1, n1, q1, f1⟩ := n0.aside
        have row1 := RowD.eq a0 o.1 q1
        have rm1 : RM h1 m T := u h1 (tD T) sp bg tk va nf sf1 bf f1 n1 a0
        by_cases c9 : v = 9999
        · obtain ⟨h2, e2, r2, f2⟩ := q_X10_no rm1
          refine ⟨h2, hfm h m _ _ h2 n0.1 ?_, r2, (f1.wide (by omega) (by omega)).tr f2⟩
          unfold f_X10_move f_X10_move_38
          rw [zoc_eq n0.1, zcI_of (q_X10_isPiece n0.1 n0.2.1 (a0.1.1.trans en) hn (nI i)), ← en, hh, if_neg (by decide), zoc_eq n0.1, zcV_of e1, n1.ld 2 2 rfl (by decide), if_pos (show nf 2 = 9999 by rw [a0.2.1.1, hv, c9]; rfl), zoc_eq n1.1, zcI_of e2]
          rfl
        · have cf : canMove (tD T).1 (dW (tD T)) (wL (dW (tD T))) what i = false := by
            rcases bad with q | q
            · rw [hv] at q
              have := (nI_leI (a := 9999) (b := v) (by decide) (by omega)).mp q
              omega
            · exact q
          obtain ⟨h2, sf2, e2, s2, f2, k2, -, s3⟩ := q_X10_goMove n1.1 n1.2.2.1 row1.1 row1.2.1 o.1.2.1.1 o.1.1 hi hw
          rw [cf] at e2
          have eq2 := s3 cf
          have n2 : NW h2 m _ nf sf2 bf := ⟨n1.1.keep f2 (by omega), n1.2.1.keep f2 (by omega), s2, n1.2.2.2.keep f2 (by omega)⟩
          have F2 := f1.tr (f2.wide (lo2 := m) (hi2 := m + 4) (by omega) (by omega))
          have rm2 : RM h2 m T := u h2 (tD T) sp bg tk va nf sf2 bf F2 n2 a0
          obtain ⟨h3, e3, r3, f3⟩ := q_X10_no rm2
          refine ⟨h3, hfm h m _ _ h3 n0.1 ?_, r3, (F2.wide (by omega) (by omega)).tr f3⟩
          unfold f_X10_move f_X10_move_38
          rw [zoc_eq n0.1, zcI_of (q_X10_isPiece n0.1 n0.2.1 (a0.1.1.trans en) hn (nI i)), ← en, hh, if_neg (by decide), zoc_eq n0.1, zcV_of e1, n1.ld 2 2 rfl (by decide), if_neg (show ¬ nf 2 = 9999 from fun z => by rw [a0.2.1.1, hv] at z; have := (nI_eq (b := 9999) (by omega) (by decide)).mp z; omega), zoc_eq n1.1, zcI_of e2, if_pos (by decide), zoc_eq n2.1, zcI_of e3]
          rfl
    · have cm : canMove (tD T).1 (dW (tD T)) (wL (dW (tD T))) what i = true := by
        cases z : canMove (tD T).1 (dW (tD T)) (wL (dW (tD T))) what i with
        | true => rfl
        | false => exact absurd (Or.inr z) bad
      have v9 : v < 9999 := by
        rcases Nat.lt_or_ge v 9999 with q | q
        · exact q
        · refine absurd (Or.inl ?_) bad
          rw [hv]; exact nI_le (a := 9999) q (by omega)
      have okN := o.1.mv hc hc8 hi hw cm hv v9
      refine ⟨.int (if what = 2 then (dW (tD T)).2.1 i else (dW (mvD (tD T) c what i)).2.2.1), (mvD (tD T) c what i, T.2), ⟨okN, o.2⟩, ?_, ?_⟩
      · intro h x r
        obtain ⟨h1, e1, r1, f1⟩ := q_X1_moveForGood r.2.1 o.1 hc hc8 hi hw cm
        have rx := r.doll (f1.wide (by omega) (by omega)) r1
        have w := (q_X9_whyNoMove r o hw (nI i)).2 i hi rfl
        rw [if_neg bad] at w
        exact ⟨h1, hyes h x T _ i h1 r (by omega) rfl w e1 rx, rx, f1.wide (by omega) (by omega)⟩
      · intro h m r
        obtain ⟨im, ⟨sp, bg, tk, va, nf, sf, bf, n0, a0⟩, u⟩ := r.nw
        obtain ⟨h1, sf1, e1, n1, q1, f1⟩ := n0.aside
        have row1 := RowD.eq a0 o.1 q1
        obtain ⟨h2, sf2, e2, s2, f2, k2, s3, -⟩ := q_X10_goMove n1.1 n1.2.2.1 row1.1 row1.2.1 o.1.2.1.1 o.1.1 hi hw
        rw [cm] at e2
        have w2 := s3 cm
        have n2 : NW h2 m (dPc (tD T), im, nI (tL T), tA T, tB T, sp, bg, tk, va) nf sf2 bf := ⟨n1.1.keep f2 (by omega), n1.2.1.keep f2 (by omega), s2, n1.2.2.2.keep f2 (by omega)⟩
        have F2 := f1.tr (f2.wide (lo2 := m) (hi2 := m + 4) (by omega) (by omega))
        obtain ⟨h3, bf3, e3, n3, b3, f3⟩ := q_X10_remember n2 hc hc8
        obtain ⟨h4, nf4, e4, n4, q4, f4⟩ := n3.take
        have F := (F2.tr f3).tr f4
        have eL : wL (dW (mvD (tD T) c what i)) = moveL (wL (dW (tD T))) what := (o.1.2.1.move hn hi hw cm hv v9).2
        have l8 := okN.2.1.le hn
        have row : RowD nf4 bf3 (mvD (tD T) c what i) := by
          refine ⟨(row1.1.keep k2 hn).eq q4 hn, ?_, ?_, RowD.mvB o.1 a0 hc hc8 b3⟩
          · rw [eL] at l8 ⊢
            exact w2.eq q4 hn l8
          · obtain ⟨b1, b2, b5, b6⟩ := row1.2.2.1
            obtain ⟨c1, hc1, ec1⟩ := o.1.2.2.2.1
            have ei1 : ix (dNc (tD T)) = c1 := by rw [ec1, ix_nI (by omega)]
            obtain ⟨c2, hc2, ec2⟩ := o.1.2.2.2.2
            have ei2 : ix (dMc (tD T)) = c2 := by rw [ec2, ix_nI (by omega)]
            have key : ∀ j, 44 ≤ j → j < 88 → nf4 j = sf1 j := fun j h1 h2 => (q4 j h2).symm.trans (k2 j (by omega) (by omega))
            exact ⟨(key 44 (by omega) (by omega)).trans b1, fun j hj => (key _ (by omega) (by have hj : j < 3 * ix (dNc (tD T)) := hj; omega)).trans (b2 j hj), (key 63 (by omega) (by omega)).trans b5, fun j hj => (key _ (by omega) (by have hj : j < 4 * ix (dMc (tD T)) := hj; omega)).trans (b6 j hj)⟩
        refine ⟨h4, hfm h m _ _ h4 n0.1 ?_, u h4 (mvD (tD T) c what i) sp bg tk va nf4 sf2 bf3 F n4 row, F.wide (by omega) (by omega)⟩
        unfold f_X10_move f_X10_move_76
        rw [zoc_eq n0.1, zcI_of (q_X10_isPiece n0.1 n0.2.1 (a0.1.1.trans en) hn (nI i)), ← en, hh, if_neg (by decide), zoc_eq n0.1, zcV_of e1, n1.ld 2 2 rfl (by decide), if_neg (show ¬ nf 2 = 9999 from fun z => by rw [a0.2.1.1, hv] at z; have := (nI_eq (b := 9999) (by omega) (by decide)).mp z; omega), zoc_eq n1.1, zcI_of e2, if_neg (by decide), zoc_eq n2.1, zcV_of e3, n3.ld (36 + nI i) (36 + i) (nI_add 36 i) (by omega), zoc_eq n3.1, zcV_of e4, a0.2.1.2.2.2 i hi, n4.ld 3 3 rfl (by decide), row.2.1.2.1]
        by_cases z : what = 2
        · rw [if_pos z, if_pos z]; rfl
        · rw [if_neg z, if_neg z]; rfl
theorem op_puts (a : Int32) : Both (fun x => f_X9_puts x a) (fun m => f_X10_puts m a) := by
  refine op_go (what := 0) (Or.inl rfl) a ?_ ?_ ?_
  · intro h x T y h1 r hy e1 e2
    show f_X9_puts x a h = _
    unfold f_X9_puts
    rw [zoc_eq r.1, zcI_of e1, if_neg hy, zoc_eq r.1, zcI_of e2]; rfl
  · intro h x T D2 i h1 r hi ea e1 e2 r1
    show f_X9_puts x a h = _
    unfold f_X9_puts
    rw [zoc_eq r.1, zcI_of e1, if_pos rfl, zgR_eq r.1 rfl, zoc_eq r.2.1.1, zcV_of e2, zgR_eq r1.1 rfl, zgR_eq r1.2.1.1 rfl, zgI_eq r1.2.1.2.2.2.2.1.1 rfl]; rfl
  · intro h m M y h1 r e
    show f_X10_puts m a h = _
    unfold f_X10_puts
    rw [zoc_eq r, zcI_of e]; rfl
theorem op_takes (a : Int32) : Both (fun x => f_X9_takes x a) (fun m => f_X10_takes m a) := by
  refine op_go (what := 1) (Or.inr (Or.inl rfl)) a ?_ ?_ ?_
  · intro h x T y h1 r hy e1 e2
    show f_X9_takes x a h = _
    unfold f_X9_takes
    rw [zoc_eq r.1, zcI_of e1, if_neg hy, zoc_eq r.1, zcI_of e2]; rfl
  · intro h x T D2 i h1 r hi ea e1 e2 r1
    show f_X9_takes x a h = _
    unfold f_X9_takes
    rw [zoc_eq r.1, zcI_of e1, if_pos rfl, zgR_eq r.1 rfl, zoc_eq r.2.1.1, zcV_of e2, zgR_eq r1.1 rfl, zgR_eq r1.2.1.1 rfl, zgI_eq r1.2.1.2.2.2.2.1.1 rfl]; rfl
  · intro h m M y h1 r e
    show f_X10_takes m a h = _
    unfold f_X10_takes
    rw [zoc_eq r, zcI_of e]; rfl
theorem op_mends (a : Int32) : Both (fun x => f_X9_mends x a) (fun m => f_X10_mends m a) := by
  refine op_go (what := 2) (Or.inr (Or.inr rfl)) a ?_ ?_ ?_
  · intro h x T y h1 r hy e1 e2
    show f_X9_mends x a h = _
    unfold f_X9_mends
    rw [zoc_eq r.1, zcI_of e1, if_neg hy, zoc_eq r.1, zcI_of e2]; rfl
  · intro h x T D2 i h1 r hi ea e1 e2 r1
    show f_X9_mends x a h = _
    unfold f_X9_mends
    rw [zoc_eq r.1, zcI_of e1, if_pos rfl, zgR_eq r.1 rfl, zgR_eq r.2.1.1 rfl, zgR_eq r.2.1.2.2.2.2.1.1 rfl, zaI_x a i ea r.2.1.2.2.2.2.1.2.2 hi (by decide), zgR_eq r.1 rfl, zoc_eq r.2.1.1, zcV_of e2]; rfl
  · intro h m M y h1 r e
    show f_X10_mends m a h = _
    unfold f_X10_mends
    rw [zoc_eq r, zcI_of e]; rfl
