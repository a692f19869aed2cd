/-! THE SIMPLEST CALLS: part, status, clear, type, child -/
def rng (a b x : Int32) : Bool := decide (a ≤ x) && decide (x ≤ b)
theorem rng_0 {b x : Int32} {n : Nat} (hb : b = nI n) (hn : n + 1 < 2 ^ 31) : rng 0 b x = true ↔ ∃ j, j ≤ n ∧ x = nI j := by
  subst hb
  unfold rng
  rw [Bool.and_eq_true, decide_eq_true_eq, decide_eq_true_eq]
  constructor
  · intro ⟨h1, h2⟩
    obtain ⟨j, hj, e⟩ := nI_of (x := x) (Int32.not_lt.mpr h1)
    subst e
    exact ⟨j, (nI_leI hj (by omega)).mp h2, rfl⟩
  · intro ⟨j, hj, e⟩
    subst e
    exact ⟨nI_pos' (by omega), nI_le hj (by omega)⟩
theorem q_X9_in (x a b : Int32) (h : zH) : f_X9_within x a b h = rB (rng a b x) h := q_X9_within x a b h
theorem q_X10_inn (x a b : Int32) {A B : Int64} (hA : a.toInt64 = A) (hB : b.toInt64 = B) (h : zH) : f_X10_in x.toInt64 A B h = rB (rng a b x) h := q_X10_in x a b hA hB h
theorem op_clear : Both f_X9_clear f_X10_clear := by
  refine Both.of (fun T => .int (nI (tL T))) (fun T => (tD T, tI0 T, tI1 T, tK0 T, tK1 T, tX T, 0, tA T, tB T, tR0 T, tR1 T, tR2 T)) ?_ ?_ ?_
  · intro h x T r o
    unfold f_X9_clear
    rw [zgI_eq r.1 rfl, zpV_eq r.1 (Nat.le_of_ble_eq_true rfl)]
    exact ⟨_, rfl, r.obj (T2 := (tD T, tI0 T, tI1 T, tK0 T, tK1 T, tX T, 0, tA T, tB T, tR0 T, tR1 T, tR2 T)) ⟨rfl, rfl, rfl, rfl, rfl, rfl, Nat.zero_le _⟩, Fr.set _ (by omega) (by omega)⟩
  · intro h m T r o
    obtain ⟨im, sp, bg, tk, va, nf, sf, bf, jf, jb, ju, xf, rf, yf, of, h0, h1, h2, h3, h4, h5, h6, h7, h8, h9, h10, a, b, c, d, e, i⟩ := r
    unfold f_X10_clear
    rw [zgI_eq h0 rfl, zpV_eq h0 (Nat.le_of_ble_eq_true rfl)]
    refine ⟨_, rfl, ?_, Fr.set _ (by omega) (by omega)⟩
    refine ⟨im, sp, bg, tk, va, nf, sf, bf, jf, jb, ju, xf, rf, yf, of, zset_at _ _ _, ?_, ?_, ?_, ?_, ?_, ?_, ?_, ?_, ?_, ?_, a, b, c, d, fun j hj => absurd hj (Nat.not_lt_zero j), i⟩ <;> (refine (zset_ne _ (by omega)).trans ?_; assumption)
  · intro T o
    exact ⟨o.1, o.2.1, o.2.2.1, Nat.zero_le _, fun j hj => absurd hj (Nat.not_lt_zero j)⟩
theorem rng01 {x : Int32} : rng 0 1 x = true ↔ x = 0 ∨ x = 1 := by
  rw [rng_0 (b := 1) (n := 1) rfl (by decide)]
  constructor
  · intro ⟨j, hj, e⟩
    rcases (show j = 0 ∨ j = 1 by omega) with q | q <;> subst q
    · exact Or.inl e
    · exact Or.inr e
  · rintro (e | e)
    · exact ⟨0, by omega, e⟩
    · exact ⟨1, by omega, e⟩
theorem RM.mo {h : zH} {m : Nat} {T : Tt} (r : RM h m T) : ∃ (im sp bg tk va : Int32), MO h m (dPc (tD T), im, nI (tL T), tA T, tB T, sp, bg, tk, va) := by
  obtain ⟨im, sp, bg, tk, va, nf, sf, bf, jf, jb, ju, xf, rf, yf, of, h0, rest⟩ := r
  exact ⟨im, sp, bg, tk, va, h0⟩
theorem op_part (what : Int32) : Both (fun x => f_X9_part x what) (fun m => f_X10_part m what) := by
  by_cases c : what = 0
  · subst c
    refine Both.of (fun T => .long (tA T)) id ?_ ?_ (fun T o => o)
    · intro h x T r o
      refine ⟨h, ?_, r, Fr.rf⟩
      show f_X9_part x 0 h = _
      unfold f_X9_part f_X9_part_32
      rw [zcI_of (q_X9_in _ _ _ h), show rng 0 1 0 = true from by decide, if_neg (by decide), if_pos rfl, zgJ_eq r.1 rfl]
      rfl
    · intro h m T r o
      obtain ⟨im, sp, bg, tk, va, h0⟩ := r.mo
      refine ⟨h, ?_, r, Fr.rf⟩
      show f_X10_part m 0 h = _
      unfold f_X10_part
      rw [if_pos rfl, zgJ_eq h0 rfl]
      rfl
  · by_cases c2 : what = 1
    · subst c2
      refine Both.of (fun T => .long (tB T)) id ?_ ?_ (fun T o => o)
      · intro h x T r o
        refine ⟨h, ?_, r, Fr.rf⟩
        show f_X9_part x 1 h = _
        unfold f_X9_part f_X9_part_32
        rw [zcI_of (q_X9_in _ _ _ h), show rng 0 1 1 = true from by decide, if_neg (by decide), if_neg (by decide), zgJ_eq r.1 rfl]
        rfl
      · intro h m T r o
        obtain ⟨im, sp, bg, tk, va, h0⟩ := r.mo
        refine ⟨h, ?_, r, Fr.rf⟩
        show f_X10_part m 1 h = _
        unfold f_X10_part
        rw [if_neg (by decide), if_pos rfl, zgJ_eq h0 rfl]
        rfl
    · refine Both.of (fun T => .long (-102 : Int32).toInt64) nR0 ?_ ?_ (fun T o => o.r0)
      · intro h x T r o
        obtain ⟨h1, e1, r1, f1⟩ := (q_X9_refuse r).1
        refine ⟨h1, ?_, r1, f1⟩
        show f_X9_part x what h = _
        unfold f_X9_part
        rw [zcI_of (q_X9_in _ _ _ h), show rng 0 1 what = false from by
          cases q : rng 0 1 what with
          | false => rfl
          | true => rcases rng01.mp q with e | e <;> contradiction, if_pos (by decide), zoc_eq r.1, zcI_of e1]
        rfl
      · intro h m T r o
        obtain ⟨h1, e1, r1, f1⟩ := q_X10_bad r
        obtain ⟨im, sp, bg, tk, va, h0⟩ := r.mo
        refine ⟨h1, ?_, r1, f1⟩
        show f_X10_part m what h = _
        unfold f_X10_part
        rw [if_neg c, if_neg c2, zoc_eq h0, zcI_of e1]
        rfl
/-- a class's doll changed, all else kept -/
theorem RX.doll {h h' : zH} {x : Nat} {T : Tt} {D2 : Dl} (r : RX h x T) (f : Fr h h' (x + 1) (x + 35)) (hD : RD h' (x + 1) D2) : RX h' x (D2, T.2) := by
  obtain ⟨a, b, c, d, ⟨g, e1, e2⟩, ⟨g2, f1, f2⟩, ⟨g3, i1, i2⟩, j⟩ := r
  exact ⟨(f.2 _ (by omega)).trans a, hD, c.keep f (by omega), d.keep f (by omega), ⟨g, (f.2 _ (by omega)).trans e1, e2⟩, ⟨g2, (f.2 _ (by omega)).trans f1, f2⟩, ⟨g3, (f.2 _ (by omega)).trans i1, i2⟩, j.keep f (by omega)⟩
theorem RM.doll {h : zH} {m : Nat} {T : Tt} (r : RM h m T) : ∃ im, (∃ (sp bg tk va : Int32) (nf sf bf : Nat → Int32), MO h m (dPc (tD T), im, nI (tL T), tA T, tB T, sp, bg, tk, va) ∧ MA h (m + 1) 88 nf ∧ MA h (m + 2) 88 sf ∧ MA h (m + 3) 144 bf ∧ RowD nf bf (tD T)) ∧ ∀ (h' : zH) (D2 : Dl) (sp bg tk va : Int32) (nf sf bf : Nat → Int32), Fr h h' m (m + 4) → MO h' m (dPc D2, im, nI (tL T), tA T, tB T, sp, bg, tk, va) → MA h' (m + 1) 88 nf → MA h' (m + 2) 88 sf → MA h' (m + 3) 144 bf → RowD nf bf D2 → RM h' m (D2, T.2) := by
  obtain ⟨im, sp, bg, tk, va, nf, sf, bf, jf, jb, ju, xf, rf, yf, of, h0, h1, h2, h3, h4, h5, h6, h7, h8, h9, h10, a, rest⟩ := r
  refine ⟨im, ⟨sp, bg, tk, va, nf, sf, bf, h0, h1, h2, h3, a⟩, ?_⟩
  intro h' D2 sp bg tk va nf sf bf f g0 g1 g2 g3 a2
  exact ⟨im, sp, bg, tk, va, nf, sf, bf, jf, jb, ju, xf, rf, yf, of, g0, g1, g2, g3, h4.keep f (by omega), h5.keep f (by omega), h6.keep f (by omega), h7.keep f (by omega), h8.keep f (by omega), h9.keep f (by omega), h10.keep f (by omega), a2, rest⟩
theorem RD.obj {h : zH} {d : Nat} {D D2 : Dl} (r : RD h d D) (e1 : D2.1.2.2 = D.1.2.2) (e2 : dW D2 = dW D) (e3 : dPv D2 = dPv D) (e4 : dNt D2 = dNt D) (e5 : dMk D2 = dMk D) : RD (zset h d (.inr (0, [.int D2.1.1, .int D2.1.2.1, .ref (d + 1), .ref (d + 2), .ref (d + 3), .ref (d + 4), .ref (d + 7), .int (dPc D2), .ref (d + 8), .int (dNc D2), .ref (d + 9), .int (dMc D2)]))) d D2 := by
  obtain ⟨h1, h2, h3, h4, h5, h6, h7, h8⟩ := r
  have f : Fr h (zset h d (.inr (0, [.int D2.1.1, .int D2.1.2.1, .ref (d + 1), .ref (d + 2), .ref (d + 3), .ref (d + 4), .ref (d + 7), .int (dPc D2), .ref (d + 8), .int (dNc D2), .ref (d + 9), .int (dMc D2)]))) d (d + 1) := Fr.set _ (by omega) (by omega)
  refine ⟨zset_at _ _ _, ?_, ?_, ?_, ?_, ?_, ?_, ?_⟩
  · rw [e1]; exact h2.keep f (by omega)
  · rw [e1]; exact h3.keep f (by omega)
  · rw [e1]; exact h4.keep f (by omega)
  · rw [e2]; exact h5.keep f (by omega)
  · rw [e3]; exact h6.keep f (by omega)
  · rw [e4]; exact h7.keep f (by omega)
  · rw [e5]; exact h8.keep f (by omega)
/-- how a call is refused on both sides -/
theorem bothBad {fx fm : Nat → zH → zR} (hx : ∀ (h : zH) (x : Nat) (T : Tt), RX h x T → ∀ h1, f_X9_refuse x (-102) h = rI (-102) h1 → fx x h = rI (-102) h1) (hm : ∀ (h : zH) (m : Nat) (T : Tt), RM h m T → ∀ h1, f_X10_bad m h = rI (-102) h1 → fm m h = rI (-102) h1) : Both fx fm := by
  refine Both.of (fun _ => .int (-102)) nR0 ?_ ?_ (fun T o => o.r0)
  · intro h x T r o
    obtain ⟨h1, e1, r1, f1⟩ := (q_X9_refuse r).1
    exact ⟨h1, hx h x T r h1 e1, r1, f1⟩
  · intro h m T r o
    obtain ⟨h1, e1, r1, f1⟩ := q_X10_bad r
    exact ⟨h1, hm h m T r h1 e1, r1, f1⟩
theorem kOk_rng {x : Int32} : rng 0 5 x = true ↔ kOk x := by
  rw [rng_0 (b := 5) (n := 5) rfl (by decide)]
  constructor
  · intro ⟨j, hj, e⟩; exact ⟨j, by omega, e⟩
  · intro ⟨j, hj, e⟩; exact ⟨j, by omega, e⟩
theorem op_child (kind : Int32) : Both (fun x => f_X9_child x kind) (fun m => f_X10_child m kind) := by
  cases c : rng 0 5 kind with
  | false =>
    refine bothBad ?_ ?_
    · intro h x T r h1 e1
      show f_X9_child x kind h = _
      unfold f_X9_child
      rw [zcI_of (q_X9_in _ _ _ h), c, if_pos (by decide), zoc_eq r.1, zcI_of e1]
      rfl
    · intro h m T r h1 e1
      obtain ⟨im, sp, bg, tk, va, h0⟩ := r.mo
      show f_X10_child m kind h = _
      unfold f_X10_child
      rw [zcI_of (q_X10_inn kind 0 5 (A := 0) (B := 5) (by decide) (by decide) h), c, if_pos (by decide), zoc_eq h0, zcI_of e1]
      rfl
  | true =>
    have ck := kOk_rng.mp c
    refine Both.of (fun T => .int (tD T).1.1) (fun T => (((kind, (tD T).1.2), dW (tD T), 0, (tD T).2.2.2), T.2)) ?_ ?_ ?_
    · intro h x T r o
      show ∃ h1, f_X9_child x kind h = _ ∧ _
      unfold f_X9_child
      have rd := r.2.1
      rw [zcI_of (q_X9_in _ _ _ h), c, if_neg (by decide), zgR_eq r.1 rfl, zgI_eq rd.1 rfl, zgR_eq r.1 rfl, zpV_eq rd.1 (Nat.le_of_ble_eq_true rfl)]
      have rd1 := rd.obj (D2 := ((kind, (tD T).1.2), (tD T).2)) rfl rfl rfl rfl rfl
      have f1 : Fr h (zset h (x + 1) (.inr (0, [.int kind, .int (tD T).1.2.1, .ref (x + 1 + 1), .ref (x + 1 + 2), .ref (x + 1 + 3), .ref (x + 1 + 4), .ref (x + 1 + 7), .int (dPc (tD T)), .ref (x + 1 + 8), .int (dNc (tD T)), .ref (x + 1 + 9), .int (dMc (tD T))]))) (x + 1) (x + 35) := Fr.set _ (by omega) (by omega)
      have r1 := r.doll f1 rd1
      dsimp only [List.set]
      generalize zset h (x + 1) (.inr (0, [.int kind, .int (tD T).1.2.1, .ref (x + 1 + 1), .ref (x + 1 + 2), .ref (x + 1 + 3), .ref (x + 1 + 4), .ref (x + 1 + 7), .int (dPc (tD T)), .ref (x + 1 + 8), .int (dNc (tD T)), .ref (x + 1 + 9), .int (dMc (tD T))])) = h1 at rd1 f1 r1 ⊢
      rw [zgR_eq r1.1 rfl, zpV_eq rd1.1 (Nat.le_of_ble_eq_true rfl)]
      have rd2 := rd1.obj (D2 := ((kind, (tD T).1.2), dW (tD T), 0, (tD T).2.2.2)) rfl rfl rfl rfl rfl
      exact ⟨_, rfl, r1.doll (Fr.set _ (by omega) (by omega)) rd2, (f1.tr (Fr.set _ (by omega) (by omega))).wide (by omega) (by omega)⟩
    · intro h m T r o
      obtain ⟨im, ⟨sp, bg, tk, va, nf, sf, bf, h0, h1, h2, h3, a⟩, u⟩ := r.doll
      obtain ⟨⟨s1, s2, s3⟩, b, n, _⟩ := a
      show ∃ h1, f_X10_child m kind h = _ ∧ _
      unfold f_X10_child
      rw [zcI_of (q_X10_inn kind 0 5 (A := 0) (B := 5) (by decide) (by decide) h), c, if_neg (by decide), zgR_eq h0 rfl, zaI_x 1 1 rfl h1 (by decide) (by decide), s2, zgR_eq h0 rfl, zsI_x 1 1 rfl h1 (by decide) (by decide)]
      have f1 : Fr h (zset h (m + 1) (.inl (0, 88, .inl (upd nf 1 kind)))) m (m + 4) := Fr.set _ (by omega) (by omega)
      have g0 : MO (zset h (m + 1) (.inl (0, 88, .inl (upd nf 1 kind)))) m _ := (zset_ne _ (by omega)).trans h0
      have g1 : MA (zset h (m + 1) (.inl (0, 88, .inl (upd nf 1 kind)))) (m + 1) 88 _ := zset_at _ _ _
      have g2 : MA (zset h (m + 1) (.inl (0, 88, .inl (upd nf 1 kind)))) (m + 2) 88 sf := (zset_ne _ (by omega)).trans h2
      have g3 : MA (zset h (m + 1) (.inl (0, 88, .inl (upd nf 1 kind)))) (m + 3) 144 bf := (zset_ne _ (by omega)).trans h3
      generalize zset h (m + 1) (.inl (0, 88, .inl (upd nf 1 kind))) = h4 at f1 g0 g1 g2 g3 ⊢
      rw [zpV_eq g0 (Nat.le_of_ble_eq_true rfl)]
      have f2 := f1.tr (Fr.set (h := h4) (a := m) (lo := m) (hi := m + 4) (.inr (6, [.ref (m + 1), .ref (m + 2), .ref (m + 3), .int 0, .ref (m + 4), .ref (m + 5), .ref (m + 6), .int im, .int (nI (tL T)), .ref (m + 7), .long (tA T), .long (tB T), .ref (m + 8), .int sp, .int bg, .int tk, .int va, .ref (m + 9), .ref (m + 10)])) (by omega) (by omega))
      refine ⟨_, rfl, u _ _ sp bg tk va (upd nf 1 kind) sf bf f2 (zset_at _ _ _) ((zset_ne _ (by omega)).trans g1) ((zset_ne _ (by omega)).trans g2) ((zset_ne _ (by omega)).trans g3) ⟨⟨?_, ?_, ?_⟩, ?_, ?_, ?_⟩, f2.wide (by omega) (by omega)⟩
      · rw [upd_ne _ _ (by decide)]; exact s1
      · exact upd_self _ _ _
      · intro i hi
        rw [upd_ne _ _ (by omega), upd_ne _ _ (by omega), upd_ne _ _ (by omega)]
        exact s3 i hi
      · obtain ⟨b1, b2, b3, b4⟩ := b
        refine ⟨?_, ?_, ?_, ?_⟩
        · rw [upd_ne _ _ (by decide)]; exact b1
        · rw [upd_ne _ _ (by decide)]; exact b2
        · intro k hk; rw [upd_ne _ _ (by omega)]; exact b3 k hk
        · intro k hk; rw [upd_ne _ _ (by omega)]; exact b4 k hk
      · obtain ⟨b1, b2, b3, b4⟩ := n
        refine ⟨?_, ?_, ?_, ?_⟩
        · rw [upd_ne _ _ (by decide)]; exact b1
        · intro k hk; rw [upd_ne _ _ (by omega)]; exact b2 k hk
        · rw [upd_ne _ _ (by decide)]; exact b3
        · intro k hk; rw [upd_ne _ _ (by omega)]; exact b4 k hk
      · intro k hk
        exact absurd hk (Nat.not_lt_zero k)
    · intro T o
      obtain ⟨⟨o1, o2, o3, o4, o5⟩, rest⟩ := o
      exact ⟨⟨⟨o1.1, o1.2.1, ck, o1.2.2.2⟩, o2, ⟨0, by omega, rfl, fun k hk => absurd hk (Nat.not_lt_zero k)⟩, o4, o5⟩, rest⟩
