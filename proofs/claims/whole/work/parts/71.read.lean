/-! read: both sides -/
theorem okP.add {S : Sd} {W : Wr} {k : Nat} (o : okP S W k) (h8 : ¬ (8 : Int32) ≤ S.2.1) {a : Int32} (ck : kOk a) (b c : Int32) : okP (addS S (ix S.2.1) a b c) W (k + 1) := by
  obtain ⟨⟨o1, o2, o3, o4⟩, ⟨v1, v2, v3⟩, v, hv, hvv⟩ := o
  have n8 : ix S.2.1 < 8 := by
    rw [o1] at h8
    rcases Nat.lt_or_ge (ix S.2.1) 8 with z | z
    · exact z
    · exact absurd (nI_le (a := 8) z (by omega)) h8
  have en : ix (addS S (ix S.2.1) a b c).2.1 = ix S.2.1 + 1 := ix_nI (by omega)
  refine ⟨?_, ?_, v, by omega, hvv⟩
  · rw [en]
    refine ⟨rfl, by omega, o3, fun i hi => ?_⟩
    show kOk (upd S.2.2.1 (ix S.2.1) a i)
    by_cases z : i = ix S.2.1
    · rw [z, upd_self]; exact ck
    · rw [upd_ne _ _ z]; exact o4 i (by omega)
  · rw [en]
    exact ⟨v1.up, fun i h1 h2 => v2 i (by omega) h2, v3⟩
theorem okP.item {t : Nat → Int32} {N p k : Nat} {S : Sd} {W : Wr} (first : Bool) (hk : k < 9999) (o : okP S W k) (h : (itemP t N first p S W).1 = true) : okP (itemP t N first p S W).2.2.2.1 (itemP t N first p S W).2.2.2.2 (k + 1) := by
  have up : okP S W (k + 1) := by
    obtain ⟨a, b, v, hv, e⟩ := o
    exact ⟨a, b, v, by omega, e⟩
  have mv : ∀ what, (what = 0 ∨ what = 1 ∨ what = 2) → okP (itMove t N what p S W).2.2.2.1 (itMove t N what p S W).2.2.2.2 (k + 1) := by
    intro what hw
    unfold itMove
    split
    · rename_i c
      rw [Bool.and_eq_true] at c
      obtain ⟨c1, c2⟩ := c
      obtain ⟨a, b, v, hv, e⟩ := o
      have n8 := a.2.1
      unfold numOk at c1
      rw [Bool.and_eq_true] at c1
      obtain ⟨i, hi, ei⟩ := (sHas_nI (n := ix S.2.1) (x := tV t N (tE t N p)) (by omega)).mp (by
        have := c1.2
        rw [a.1, rng_has (by omega)] at this
        exact this)
      rw [ei, ix_nI (by omega)] at c2 ⊢
      have m := b.move n8 hi hw c2 e (by omega)
      obtain ⟨m1, m2, v', hv', ev', hw'⟩ := m.1
      refine ⟨a, m.1, v + 1, by omega, ?_⟩
      show (moveW W (wL W) what i).2.2.2 = _
      rcases hw with rfl | rfl | rfl
      · show W.2.2.2 + 1 = _
        rw [e, nI_1]
      · obtain ⟨q, hq⟩ := canTake_at c2
        unfold moveW
        rw [if_neg n10, if_pos rfl, hq]
        show W.2.2.2 + 1 = _
        rw [e, nI_1]
      · show W.2.2.2 + 1 = _
        rw [e, nI_1]
    · exact up
  unfold itemP at h ⊢
  cases first with
  | true =>
    rw [if_pos rfl] at h ⊢
    by_cases z : wdAt t N p = 146828
    · rw [if_pos z] at h ⊢
      cases q : numOk t N (tE t N p) 0 5 with
      | false => rw [q, if_neg (by decide)] at h; cases h
      | true =>
        rw [if_pos rfl]
        obtain ⟨a, b, v, hv, e⟩ := o
        unfold numOk at q
        rw [Bool.and_eq_true] at q
        exact ⟨⟨a.1, a.2.1, kOk_rng.mp q.2, a.2.2.2⟩, b, v, by omega, e⟩
    · rw [if_neg z]; exact up
  | false =>
    rw [if_neg (by decide)] at h ⊢
    by_cases z1 : wdAt t N p = 17077349 ∧ ¬ (8 : Int32) ≤ S.2.1
    · rw [if_pos z1] at h ⊢
      unfold itPiece at h ⊢
      cases q1 : numOk t N (tE t N p) 0 5 with
      | false => rw [q1, if_neg (by decide)] at h; cases h
      | true =>
        rw [q1, if_pos rfl] at h
        rw [if_pos rfl]
        cases q2 : numOk t N (tE t N (tE t N p)) 0 3 with
        | false => rw [q2, if_neg (by decide)] at h; cases h
        | true =>
          rw [q2, if_pos rfl] at h
          rw [if_pos rfl]
          cases q3 : numOk t N (tE t N (tE t N (tE t N p))) 1 9 with
          | false => rw [q3, if_neg (by decide)] at h; cases h
          | true =>
            rw [if_pos rfl]
            unfold numOk at q1
            rw [Bool.and_eq_true] at q1
            exact o.add z1.2 (kOk_rng.mp q1.2) _ _
    · rw [if_neg z1]
      split
      · exact mv 0 (Or.inl rfl)
      · split
        · exact mv 1 (Or.inr (Or.inl rfl))
        · split
          · exact mv 2 (Or.inr (Or.inr rfl))
          · exact up
/-- where an item ends -/
theorem item_pos {t : Nat → Int32} {N p : Nat} {S : Sd} {W : Wr} (first : Bool) (hp : p ≤ N) (h : (itemP t N first p S W).1 = true) : p < (itemP t N first p S W).2.2.1 ∧ (itemP t N first p S W).2.2.1 ≤ N := by
  have fin : ∀ q S W, p ≤ q → q ≤ N → (itFin t N q S W).1 = true → p < (itFin t N q S W).2.2.1 ∧ (itFin t N q S W).2.2.1 ≤ N := by
    intro q S W h1 h2 h3
    have h3 : tK t N q = 3 := of_decide_eq_true h3
    have a := tS_spec (t := t) h2
    have b := tE_spec (t := t) h2
    have : ¬ tS t N q = N := fun e => by unfold tK at h3; rw [if_pos e] at h3; cases h3
    show p < tE t N q ∧ tE t N q ≤ N
    omega
  have st : ∀ q, p ≤ q → q ≤ N → p ≤ tE t N q ∧ tE t N q ≤ N := fun q h1 h2 => by
    have a := tS_spec (t := t) h2
    have b := tE_spec (t := t) h2
    omega
  have s1 := st p (Nat.le_refl _) hp
  have s2 := st _ s1.1 s1.2
  have s3 := st _ s2.1 s2.2
  have s4 := st _ s3.1 s3.2
  have mv : ∀ what, (itMove t N what p S W).1 = true → p < (itMove t N what p S W).2.2.1 ∧ (itMove t N what p S W).2.2.1 ≤ N := by
    intro what h
    unfold itMove at h ⊢
    cases c : (numOk t N (tE t N p) 0 (S.2.1 - 1) && canMove S W (wL W) what (ix (tV t N (tE t N p)))) with
    | false => rw [c, if_neg (by decide)] at h; cases h
    | true =>
      rw [c, if_pos rfl] at h
      rw [if_pos rfl]
      exact fin _ _ _ s2.1 s2.2 h
  unfold itemP at h ⊢
  cases first with
  | true =>
    rw [if_pos rfl] at h ⊢
    by_cases z : wdAt t N p = 146828
    · rw [if_pos z] at h ⊢
      cases q : numOk t N (tE t N p) 0 5 with
      | false => rw [q, if_neg (by decide)] at h; cases h
      | true =>
        rw [q, if_pos rfl] at h
        rw [if_pos rfl]
        exact fin _ _ _ s2.1 s2.2 h
    · rw [if_neg z] at h; cases h
  | false =>
    rw [if_neg (by decide)] at h ⊢
    by_cases z1 : wdAt t N p = 17077349 ∧ ¬ (8 : Int32) ≤ S.2.1
    · rw [if_pos z1] at h ⊢
      unfold itPiece at h ⊢
      cases q1 : numOk t N (tE t N p) 0 5 with
      | false => rw [q1, if_neg (by decide)] at h; cases h
      | true =>
        rw [q1, if_pos rfl] at h
        rw [if_pos rfl]
        cases q2 : numOk t N (tE t N (tE t N p)) 0 3 with
        | false => rw [q2, if_neg (by decide)] at h; cases h
        | true =>
          rw [q2, if_pos rfl] at h
          rw [if_pos rfl]
          cases q3 : numOk t N (tE t N (tE t N (tE t N p))) 1 9 with
          | false => rw [q3, if_neg (by decide)] at h; cases h
          | true =>
            rw [q3, if_pos rfl] at h
            rw [if_pos rfl]
            exact fin _ _ _ s4.1 s4.2 h
    · rw [if_neg z1] at h ⊢
      by_cases y2 : wdAt t N p = 494
      · rw [if_pos y2] at h ⊢; exact mv 0 h
      · rw [if_neg y2] at h ⊢
        by_cases y3 : wdAt t N p = 15558
        · rw [if_pos y3] at h ⊢; exact mv 1 h
        · rw [if_neg y3] at h ⊢
          by_cases y4 : wdAt t N p = 431556
          · rw [if_pos y4] at h ⊢; exact mv 2 h
          · rw [if_neg y4] at h; cases h
/-- all of it: whether it was read, what is answered, the doll -/
def rdAll (t : Nat → Int32) (N : Nat) : Nat → Nat → Nat → Sd → Wr → Bool × Int32 × Sd × Wr
  | 0, _, _, S, W => (false, 0, S, W)
  | f + 1, k, p, S, W => if (itemP t N (decide (k = 0)) p S W).1 then (if tK t N (itemP t N (decide (k = 0)) p S W).2.2.1 = 0 then (true, nI (k + 1), (itemP t N (decide (k = 0)) p S W).2.2.2.1, (itemP t N (decide (k = 0)) p S W).2.2.2.2) else rdAll t N f (k + 1) (itemP t N (decide (k = 0)) p S W).2.2.1 (itemP t N (decide (k = 0)) p S W).2.2.2.1 (itemP t N (decide (k = 0)) p S W).2.2.2.2) else (false, -200 - nI (itemP t N (decide (k = 0)) p S W).2.1, S, W)
theorem rdAll_ok {t : Nat → Int32} {N : Nat} (hN : N ≤ 150) : ∀ (f k p : Nat) (S : Sd) (W : Wr), k ≤ p → p ≤ N → okP S W k → (rdAll t N f k p S W).1 = true → okP (rdAll t N f k p S W).2.2.1 (rdAll t N f k p S W).2.2.2 200 := by
  intro f
  induction f with
  | zero => intro k p S W _ _ _ h; cases h
  | succ f ih =>
    intro k p S W hk hp o h
    rw [rdAll] at h ⊢
    cases q : (itemP t N (decide (k = 0)) p S W).1 with
    | false => rw [q, if_neg (by decide)] at h; cases h
    | true =>
      have o2 := o.item (decide (k = 0)) (by omega) q
      have ps := item_pos (decide (k = 0)) hp q
      rw [q, if_pos rfl] at h
      rw [if_pos rfl]
      generalize itemP t N (decide (k = 0)) p S W = R at h o2 ps ⊢
      by_cases z : tK t N R.2.2.1 = 0
      · rw [if_pos z] at h ⊢
        obtain ⟨a, b, v, hv, e⟩ := o2
        exact ⟨a, b, v, by omega, e⟩
      · rw [if_neg z] at h ⊢
        exact ih (k + 1) R.2.2.1 _ _ (by omega) ps.2 o2 h
theorem b2i_first (k : Nat) (h : zH) (a b : zR) : True := trivial
theorem q_readDoll_32 {x N : Nat} {t : Nat → Int32} (hN : N ≤ 150) (hl : ∀ j, j < N → ∃ c, c < 128 ∧ t j = nI c) : ∀ (f fuel k p : Nat) (h : zH) (nm : Int32) (S : Sd) (W : Wr), k ≤ p → p ≤ N → N < f + p → f < fuel → RR h x N (nI (tK t N p)) (tS t N p) (tE t N p) nm → TXc h x N t → DR h x S W → okP S W k → ∃ h', f_X5_readDoll_32 fuel (x + 74) (x + 35) (nI k) h = rI (rdAll t N f k p S W).2.1 h' ∧ (∃ tk st sp nm', RR h' x N tk st sp nm') ∧ FD h h' x ∧ (∃ D, RD h' (x + 35) D) ∧ ((rdAll t N f k p S W).1 = true → DR h' x (rdAll t N f k p S W).2.2.1 (rdAll t N f k p S W).2.2.2) := by
  intro f
  induction f with
  | zero => intro fuel k p h nm S W h1 h2 h3; omega
  | succ f ih =>
    intro fuel k p h nm S W hk hp hf hfu r tx d o
    obtain ⟨fuel, rfl⟩ : ∃ f', fuel = f' + 1 := ⟨fuel - 1, by omega⟩
    obtain ⟨h1, tk1, nm1, e1, r1, tx1, F1, D1, d1⟩ := q_readItem (decide (k = 0)) hN hp hl r tx d o
    have e0 : f_X5_readDoll_32 (fuel + 1) (x + 74) (x + 35) (nI k) h = f_X5_readDoll_44 (f_X5_readDoll_32 fuel) (x + 74) (x + 35) (nI k) (b2i (decide (k = 0))) (x + 35) (x + 74) h := by
      rw [f_X5_readDoll_32]
      by_cases z : k = 0
      · rw [if_pos (show nI k = 0 by rw [z]; rfl), decide_eq_true z]; rfl
      · rw [if_neg (nI_ne0 (by omega) (by omega)), decide_eq_false z]; rfl
    rw [e0, rdAll]
    unfold f_X5_readDoll_44 f_X5_readDoll_82
    rw [zoc_eq r, zcI_of e1]
    have ps := item_pos (t := t) (N := N) (p := p) (S := S) (W := W) (decide (k = 0)) hp
    have o2 := okP.item (t := t) (N := N) (p := p) (decide (k = 0)) (by omega : k < 9999) o
    generalize itemP t N (decide (k = 0)) p S W = R at r1 d1 ps o2 ⊢
    obtain ⟨ok, st, sp, S', W'⟩ := R
    dsimp only
    cases ok with
    | false =>
      rw [if_pos (by decide), zgI_eq r1 rfl, if_neg (by decide)]
      exact ⟨h1, rfl, ⟨_, _, _, _, r1⟩, F1, D1, fun e => by cases e⟩
    | true =>
      have ps := ps rfl
      have o2 := o2 rfl
      have d1 := d1 rfl
      dsimp only at ps o2 d1 r1
      obtain ⟨h2, nm2, e2, r2, n2, f2⟩ := q_advance hN ps.2 r1 tx1
      have tx2 := tx1.keep f2 (by omega)
      have d2 := d1.kr f2
      have F2 := F1.tr (FD.r f2)
      have k4 := tK_le t N sp
      rw [if_neg (by decide), zoc_eq r1, zcV_of e2, zgI_eq r2 rfl, if_pos (show true = true from rfl), nI_1]
      by_cases z : tK t N sp = 0
      · rw [if_pos (show nI (tK t N sp) = 0 by rw [z]; rfl), if_pos z]
        obtain ⟨D, dd, -⟩ := id d2
        exact ⟨h2, rfl, ⟨_, _, _, _, r2⟩, F2, ⟨D, dd⟩, fun _ => d2⟩
      · have hsn : sp < N := by
          have a := tS_spec (t := t) ps.2
          have : ¬ tS t N sp = N := fun e => z (by unfold tK; rw [if_pos e])
          omega
        rw [if_neg (show ¬ nI (tK t N sp) = 0 from fun e => z ((nI_eq (b := 0) (by omega) (by decide)).mp e)), zgI_eq r2 rfl, if_pos (nI_lt (show k + 1 < N by omega) (by omega)), if_neg z]
        obtain ⟨h3, e3, r3, F3, D3, d3⟩ := ih fuel (k + 1) sp h2 nm2 S' W' (by omega) ps.2 (by omega) (by omega) r2 tx2 d2 o2
        exact ⟨h3, e3, r3, F2.tr F3, D3, d3⟩
theorem q_read_32 {m N : Nat} {t : Nat → Int32} {M : Mo} (hN : N ≤ 150) (hM : M.2.2.1 = nI N) : ∀ (f fuel k p : Nat) (h : zH) (va : Int32) (sf : Nat → Int32) (S : Sd) (W : Wr), k ≤ p → p ≤ N → N < f + p → f < fuel → tK t N p ≠ 0 → MO h m (mN M (nI (tE t N p)) (nI (tS t N p)) (kM (tK t N p)) va) → (tK t N p = 1 → va = tW t N p) → MA h (m + 2) 88 sf → TXm h m N t → SRw sf S W → okP S W k → ∃ h' sp bg tk va' sf', MO h' m (mN M sp bg tk va') ∧ MA h' (m + 2) 88 sf' ∧ FM h h' m ∧ ((rdAll t N f k p S W).1 = false → f_X10_read_32 fuel m (nI k) h = rI (rdAll t N f k p S W).2.1 h') ∧ ((rdAll t N f k p S W).1 = true → SRw sf' (rdAll t N f k p S W).2.2.1 (rdAll t N f k p S W).2.2.2 ∧ f_X10_read_32 fuel m (nI k) h = zoc h' m 6 (zcV (f_X10_take m h') fun h2 => zpV h2 m 6 3 (.int 0) fun h3 => zrI (rdAll t N f k p S W).2.1 h3)) := by
  intro f
  induction f with
  | zero => intro fuel k p h va sf S W h1 h2 h3; omega
  | succ f ih =>
    intro fuel k p h va sf S W hk hp hf hfu hk0 r hv hA tx sr o
    obtain ⟨fuel, rfl⟩ : ∃ f', fuel = f' + 1 := ⟨fuel - 1, by omega⟩
    have k4 := tK_le t N p
    obtain ⟨h1, tk1, va1, sf1, e1, r1, A1, tx1, F1, s1⟩ := q_item (decide (k = 0)) hN hM hp r hv hA tx sr o (by omega)
    have e0 : f_X10_read_32 (fuel + 1) m (nI k) h = f_X10_read_49 (f_X10_read_32 fuel) m (nI k) (b2i (decide (k = 0))) m h := by
      rw [f_X10_read_32, zgI_eq r rfl, if_neg (show ¬ kM (tK t N p) = 0 from fun e => hk0 ((kM_0 k4).mp e))]
      by_cases z : k = 0
      · rw [if_pos (show nI k = 0 by rw [z]; rfl), decide_eq_true z]; rfl
      · rw [if_neg (nI_ne0 (by omega) (by omega)), decide_eq_false z]; rfl
    rw [e0, rdAll]
    unfold f_X10_read_49
    rw [zoc_eq r, zcI_of e1]
    have ps := item_pos (t := t) (N := N) (p := p) (S := S) (W := W) (decide (k = 0)) hp
    have o2 := okP.item (t := t) (N := N) (p := p) (decide (k = 0)) (by omega : k < 9999) o
    generalize itemP t N (decide (k = 0)) p S W = R at r1 s1 ps o2 ⊢
    obtain ⟨ok, st, sp, S', W'⟩ := R
    dsimp only
    cases ok with
    | false =>
      rw [if_neg (show ¬ (false = true) by decide), if_pos (show b2i false = 0 from rfl), zgI_eq r1 rfl]
      exact ⟨h1, _, _, _, _, sf1, r1, A1, F1, fun _ => rfl, fun e => by cases e⟩
    | true =>
      have ps := ps rfl
      have o2 := o2 rfl
      have s1 := s1 rfl
      dsimp only at ps o2 s1 r1
      obtain ⟨h2, va2, e2, r2, n1, n2, f2⟩ := q_next hN hM ps.2 r1 tx1
      have tx2 := tx1.keep f2 (by omega)
      have A2 := A1.keep f2 (by omega)
      have F2 := F1.tr (FM.o f2)
      have k4' := tK_le t N sp
      rw [if_pos (show true = true from rfl), if_neg (show ¬ b2i true = 0 by decide), zoc_eq r1, zcV_of e2, nI_1]
      by_cases z : tK t N sp = 0
      · rw [if_pos z]
        obtain ⟨fuel, rfl⟩ : ∃ f', fuel = f' + 1 := ⟨fuel - 1, by omega⟩
        refine ⟨h2, _, _, _, _, sf1, r2, A2, F2, fun e => (by cases e), fun _ => ⟨s1, ?_⟩⟩
        rw [f_X10_read_32, zgI_eq r2 rfl, if_pos (show kM (tK t N sp) = 0 from (kM_0 k4').mpr z)]
      · rw [if_neg z]
        have hsn : sp < N := by
          have a := tS_spec (t := t) ps.2
          have : ¬ tS t N sp = N := fun e => z (by unfold tK; rw [if_pos e])
          omega
        obtain ⟨h3, sp3, bg3, tk3, va3, sf3, r3, A3, F3, d3, d4⟩ := ih fuel (k + 1) sp h2 va2 sf1 S' W' (by omega) ps.2 (by omega) (by omega) z r2 n1 A2 tx2 s1 o2
        exact ⟨h3, sp3, bg3, tk3, va3, sf3, r3, A3, F2.tr F3, d3, d4⟩
