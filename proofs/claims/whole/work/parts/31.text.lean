/-! status, type -/
theorem three {P : Nat → Prop} (h0 : P 0) (h1 : P 1) (h2 : P 2) : ∀ j, j ≤ 2 → P j := by
  intro j hj
  match j, hj with
  | 0, _ => exact h0
  | 1, _ => exact h1
  | 2, _ => exact h2
def stOf (T : Tt) (j : Nat) : Int32 := match j with
  | 0 => tR0 T
  | 1 => tR1 T
  | _ => tR2 T
theorem op_status (what : Int32) : Both (fun x => f_X9_status x what) (fun m => f_X10_status m what) := by
  cases c : rng 0 2 what with
  | false =>
    have c0 : ∀ j, j ≤ 2 → ¬ what = nI j := fun j hj e => by
      have := (rng_0 (b := 2) (n := 2) rfl (by decide)).mpr ⟨j, hj, e⟩
      rw [this] at c; cases c
    refine Both.of (fun _ => .int (-1)) nR0 ?_ ?_ (fun T o => o.r0)
    · intro h x T r o
      obtain ⟨h1, e1, r1, f1⟩ := (q_X9_refuse r).1
      refine ⟨h1, ?_, r1, f1⟩
      show f_X9_status x what h = _
      unfold f_X9_status
      rw [if_neg (show ¬ what = 0 from c0 0 (by omega)), if_neg (show ¬ what = 1 from c0 1 (by omega)), if_neg (show ¬ what = 2 from c0 2 (by omega)), zoc_eq r.1, zcI_of e1]
      rfl
    · intro h m T r o
      obtain ⟨h1, e1, r1, f1⟩ := q_X10_bad r
      obtain ⟨im, sp, bg, tk, va, h0⟩ := r.mo
      refine ⟨h1, ?_, r1, f1⟩
      show f_X10_status m what h = _
      unfold f_X10_status
      rw [zcI_of (q_X10_inn what 0 2 (A := 0) (B := 2) (by decide) (by decide) h), c, if_pos (by decide), zoc_eq h0, zcI_of e1]
      rfl
  | true =>
    obtain ⟨j, hj, e⟩ := (rng_0 (b := 2) (n := 2) rfl (by decide)).mp c
    subst e
    refine Both.of (fun T => .int (stOf T j)) id ?_ ?_ (fun T o => o)
    · intro h x T r o
      refine ⟨h, ?_, r, Fr.rf⟩
      show f_X9_status x (nI j) h = _
      unfold f_X9_status
      clear c
      revert j
      refine three ?_ ?_ ?_
      · rw [if_pos (by decide), zgI_eq r.1 rfl]; rfl
      · rw [if_neg (by decide), if_pos (by decide), zgI_eq r.1 rfl]; rfl
      · rw [if_neg (by decide), if_neg (by decide), if_pos (by decide), zgI_eq r.1 rfl]; rfl
    · intro h m T r o
      obtain ⟨M, rf, h0, h8, i, k, l, u⟩ := r.ref
      refine ⟨h, ?_, r, Fr.rf⟩
      show f_X10_status m (nI j) h = _
      unfold f_X10_status
      rw [zcI_of (q_X10_inn (nI j) 0 2 (A := 0) (B := 2) (by decide) (by decide) h), c, if_neg (by decide), zgR_eq h0 rfl, zaI_nI h8 (by omega) (by decide)]
      clear c
      revert j
      refine three ?_ ?_ ?_
      · rw [i]; rfl
      · rw [k]; rfl
      · rw [l]; rfl
theorem byteOf : ∀ c, c < 128 → vp_nar .byte ((nI c).toInt8.toInt32) = nI c := by decide +kernel
theorem op_type (c : Int32) : Both (fun x => f_X9_type x c) (fun m => f_X10_type m c) := by
  cases hc : rng 0 127 c with
  | false =>
    refine bothBad ?_ ?_
    · intro h x T r h1 e1
      show f_X9_type x c h = _
      unfold f_X9_type
      rw [zcI_of (q_X9_in _ _ _ h), hc, if_pos (by decide), zoc_eq r.1, zcI_of e1]
      rfl
    · intro h m T r h1 e1
      obtain ⟨im, sp, bg, tk, va, h0⟩ := r.mo
      show f_X10_type m c h = _
      unfold f_X10_type
      rw [zcI_of (q_X10_inn c 0 127 (A := 0) (B := 127) (by decide) (by decide) h), hc, if_pos (by decide), zoc_eq h0, zcI_of e1]
      rfl
  | true =>
    obtain ⟨j, hj, e⟩ := (rng_0 (b := 127) (n := 127) rfl (by decide)).mp hc
    subst e
    refine Both.of (fun T => if tL T < 150 then .int (nI (tL T + 1)) else .int (-104)) (fun T => if tL T < 150 then (tD T, tI0 T, tI1 T, tK0 T, tK1 T, upd (tX T) (tL T) (nI j), tL T + 1, tA T, tB T, tR0 T, tR1 T, tR2 T) else nR2 T) ?_ ?_ ?_
    · intro h x T r o
      show ∃ h1, f_X9_type x (nI j) h = _ ∧ _
      have oL : tL T ≤ 150 := o.2.2.2.1
      unfold f_X9_type
      by_cases q : tL T < 150
      · simp only [if_pos q]
        obtain ⟨a, b, c, d, ⟨g, e1, e2⟩, ⟨g2, f1, f2⟩, ⟨g3, i1, i2⟩, s⟩ := id r
        rw [zcI_of (q_X9_in _ _ _ h), hc, if_neg (by decide), zgI_eq a rfl, if_pos (show nI (tL T) < 150 from nI_lt (b := 150) q (by decide)), zgR_eq a rfl, zgI_eq a rfl, zsI_x (nI (tL T)) (tL T) rfl i1 q (by decide), byteOf j (by omega)]
        have F : Fr h (zset h (x + 90) (.inl (1, 150, .inl (upd g3 (tL T) (nI j))))) (x + 90) (x + 91) := Fr.set _ (by omega) (by omega)
        have k0 : (zset h (x + 90) (.inl (1, 150, .inl (upd g3 (tL T) (nI j))))).2 (x + 90) = _ := zset_at _ _ _
        generalize zset h (x + 90) (.inl (1, 150, .inl (upd g3 (tL T) (nI j)))) = h1 at F k0 ⊢
        have a1 := (F.2 x (by omega)).trans a
        rw [zgI_eq a1 rfl, nI_1, zpV_eq a1 (Nat.le_of_ble_eq_true rfl)]
        have F2 : Fr h1 (zset h1 x (.inr (5, [.ref (x + 1), .ref (x + 35), .ref (x + 69), .ref (x + 70), .ref (x + 71), .ref (x + 74), .ref (x + 76), .ref (x + 78), .ref (x + 90), .int (nI (tL T + 1)), .long (tA T), .long (tB T), .int (tR0 T), .int (tR1 T), .int (tR2 T)]))) x (x + 1) := Fr.set _ (by omega) (by omega)
        have k1 : (zset h1 x (.inr (5, [.ref (x + 1), .ref (x + 35), .ref (x + 69), .ref (x + 70), .ref (x + 71), .ref (x + 74), .ref (x + 76), .ref (x + 78), .ref (x + 90), .int (nI (tL T + 1)), .long (tA T), .long (tB T), .int (tR0 T), .int (tR1 T), .int (tR2 T)]))).2 x = _ := zset_at _ _ _
        dsimp only [List.set]
        generalize zset h1 x (.inr (5, [.ref (x + 1), .ref (x + 35), .ref (x + 69), .ref (x + 70), .ref (x + 71), .ref (x + 74), .ref (x + 76), .ref (x + 78), .ref (x + 90), .int (nI (tL T + 1)), .long (tA T), .long (tB T), .int (tR0 T), .int (tR1 T), .int (tR2 T)])) = h2 at F2 k1 ⊢
        rw [zgI_eq k1 rfl]
        refine ⟨h2, rfl, ⟨k1, (b.keep F (by omega)).keep F2 (by omega), (c.keep F (by omega)).keep F2 (by omega), (d.keep F (by omega)).keep F2 (by omega), ⟨g, (F2.2 _ (by omega)).trans ((F.2 _ (by omega)).trans e1), e2⟩, ⟨g2, (F2.2 _ (by omega)).trans ((F.2 _ (by omega)).trans f1), f2⟩, ⟨_, (F2.2 _ (by omega)).trans k0, fun k hk => ?_⟩, ?_⟩, (F.wide (by omega) (by omega)).tr (F2.wide (by omega) (by omega))⟩
        · show upd g3 (tL T) (nI j) k = upd (tX T) (tL T) (nI j) k
          by_cases z : k = tL T
          · subst z; rw [upd_self, upd_self]
          · rw [upd_ne _ _ z, upd_ne _ _ z]
            exact i2 k (by have : k < tL T + 1 := hk; omega)
        · obtain ⟨⟨D, a⟩, ⟨W, b⟩, ⟨y, a1, b1, c1, d1, e1, c⟩, ⟨g, c2, d, e⟩, i, ⟨k, l⟩, ⟨gg, o, p⟩, q⟩ := s
          refine ⟨⟨D, (a.keep F (by omega)).keep F2 (by omega)⟩, ⟨W, (b.keep F (by omega)).keep F2 (by omega)⟩, ⟨y, a1, b1, c1, d1, e1, (F2.2 _ (by omega)).trans ((F.2 _ (by omega)).trans c)⟩, ⟨g, c2, (F2.2 _ (by omega)).trans ((F.2 _ (by omega)).trans d), (e.keep F (by omega)).keep F2 (by omega)⟩, (F2.2 _ (by omega)).trans ((F.2 _ (by omega)).trans i), ⟨k, (l.keep F (by omega)).keep F2 (by omega)⟩, ⟨gg, (F2.2 _ (by omega)).trans ((F.2 _ (by omega)).trans o), p⟩, fun j hj => ?_⟩
          obtain ⟨W, w⟩ := q j hj
          exact ⟨W, (w.keep F (by omega)).keep F2 (by omega)⟩
      · simp only [if_neg q]
        obtain ⟨h1, e1, r1, f1⟩ := (q_X9_refuse r).2.2
        rw [zcI_of (q_X9_in _ _ _ h), hc, if_neg (by decide), zgI_eq r.1 rfl, if_neg (show ¬ nI (tL T) < 150 from nI_nlt (b := 150) (by omega) (by omega)), zoc_eq r.1, zcI_of e1]
        exact ⟨h1, rfl, r1, f1⟩
    · intro h m T r o
      show ∃ h1, f_X10_type m (nI j) h = _ ∧ _
      have oL : tL T ≤ 150 := o.2.2.2.1
      unfold f_X10_type
      by_cases q : tL T < 150
      · simp only [if_pos q]
        obtain ⟨im, sp, bg, tk, va, nf, sf, bf, jf, jb, ju, xf, rf, yf, of, h0, h1, h2, h3, h4, h5, h6, h7, h8, h9, h10, a, b, c, d, e, i⟩ := r
        rw [zcI_of (q_X10_inn (nI j) 0 127 (A := 0) (B := 127) (by decide) (by decide) h), hc, if_neg (by decide), zgI_eq h0 rfl, if_neg (show ¬ nI (tL T) = 150 from fun z => by have := (nI_eq (b := 150) (by omega) (by decide)).mp z; omega), zgR_eq h0 rfl, zgI_eq h0 rfl, zsI_x (nI (tL T)) (tL T) rfl h7 q (by decide)]
        have F : Fr h (zset h (m + 7) (.inl (0, 150, .inl (upd xf (tL T) (nI j))))) (m + 7) (m + 8) := Fr.set _ (by omega) (by omega)
        have k0 : MA (zset h (m + 7) (.inl (0, 150, .inl (upd xf (tL T) (nI j))))) (m + 7) 150 _ := zset_at _ _ _
        generalize zset h (m + 7) (.inl (0, 150, .inl (upd xf (tL T) (nI j)))) = g1 at F k0 ⊢
        have a1 := h0.keep F (by omega)
        rw [zgI_eq a1 rfl, nI_1, zpV_eq a1 (Nat.le_of_ble_eq_true rfl)]
        dsimp only [List.set]
        have F2 : Fr g1 (zset g1 m (.inr (6, [.ref (m + 1), .ref (m + 2), .ref (m + 3), .int (dPc (tD T)), .ref (m + 4), .ref (m + 5), .ref (m + 6), .int im, .int (nI (tL T + 1)), .ref (m + 7), .long (tA T), .long (tB T), .ref (m + 8), .int sp, .int bg, .int tk, .int va, .ref (m + 9), .ref (m + 10)]))) m (m + 1) := Fr.set _ (by omega) (by omega)
        have k1 : MO (zset g1 m (.inr (6, [.ref (m + 1), .ref (m + 2), .ref (m + 3), .int (dPc (tD T)), .ref (m + 4), .ref (m + 5), .ref (m + 6), .int im, .int (nI (tL T + 1)), .ref (m + 7), .long (tA T), .long (tB T), .ref (m + 8), .int sp, .int bg, .int tk, .int va, .ref (m + 9), .ref (m + 10)]))) m (dPc (tD T), im, nI (tL T + 1), tA T, tB T, sp, bg, tk, va) := zset_at _ _ _
        generalize zset g1 m (.inr (6, [.ref (m + 1), .ref (m + 2), .ref (m + 3), .int (dPc (tD T)), .ref (m + 4), .ref (m + 5), .ref (m + 6), .int im, .int (nI (tL T + 1)), .ref (m + 7), .long (tA T), .long (tB T), .ref (m + 8), .int sp, .int bg, .int tk, .int va, .ref (m + 9), .ref (m + 10)])) = g2 at F2 k1 ⊢
        rw [zgI_eq k1 rfl]
        refine ⟨g2, rfl, ⟨im, sp, bg, tk, va, nf, sf, bf, jf, jb, ju, _, rf, yf, of, k1, (h1.keep F (by omega)).keep F2 (by omega), (h2.keep F (by omega)).keep F2 (by omega), (h3.keep F (by omega)).keep F2 (by omega), (h4.keep F (by omega)).keep F2 (by omega), (h5.keep F (by omega)).keep F2 (by omega), (h6.keep F (by omega)).keep F2 (by omega), k0.keep F2 (by omega), (h8.keep F (by omega)).keep F2 (by omega), (h9.keep F (by omega)).keep F2 (by omega), (h10.keep F (by omega)).keep F2 (by omega), a, b, c, d, fun k hk => ?_, i⟩, (F.wide (by omega) (by omega)).tr (F2.wide (by omega) (by omega))⟩
        show upd xf (tL T) (nI j) k = upd (tX T) (tL T) (nI j) k
        by_cases z : k = tL T
        · subst z; rw [upd_self, upd_self]
        · rw [upd_ne _ _ z, upd_ne _ _ z]
          exact e k (by have : k < tL T + 1 := hk; omega)
      · simp only [if_neg q]
        obtain ⟨h1, e1, r1, f1⟩ := q_X10_full r
        obtain ⟨im, sp, bg, tk, va, h0⟩ := r.mo
        rw [zcI_of (q_X10_inn (nI j) 0 127 (A := 0) (B := 127) (by decide) (by decide) h), hc, if_neg (by decide), zgI_eq h0 rfl, if_pos (show nI (tL T) = 150 by rw [show tL T = 150 by omega]; rfl), zoc_eq h0, zcI_of e1]
        exact ⟨h1, rfl, r1, f1⟩
    · intro T o
      by_cases q : tL T < 150
      · simp only [if_pos q]
        obtain ⟨o1, o2, o3, o4, o5⟩ := o
        refine ⟨o1, o2, o3, by show tL T + 1 ≤ 150; omega, fun k hk => ?_⟩
        show ∃ c, c < 128 ∧ upd (tX T) (tL T) (nI j) k = nI c
        by_cases z : k = tL T
        · subst z; exact ⟨j, by omega, upd_self _ _ _⟩
        · rw [upd_ne _ _ z]; exact o5 k (by have : k < tL T + 1 := hk; omega)
      · simp only [if_neg q]; exact o.r2
