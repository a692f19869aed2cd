/-! read: tokens -/
def runN (q : Nat → Bool) (N p : Nat) : Nat := match fstN (fun k => !q (p + k)) (N - p) with
  | some k => p + k
  | none => N
theorem runN_spec {q : Nat → Bool} {N p : Nat} (hp : p ≤ N) : p ≤ runN q N p ∧ runN q N p ≤ N ∧ (∀ j, p ≤ j → j < runN q N p → q j = true) ∧ (runN q N p < N → q (runN q N p) = false) := by
  unfold runN
  cases e : fstN (fun k => !q (p + k)) (N - p) with
  | none =>
    have := fstN_none.mp e
    refine ⟨hp, Nat.le_refl _, fun j h1 h2 => ?_, fun h => absurd h (Nat.lt_irrefl _)⟩
    have := this (j - p) (by have h2 : j < N := h2; omega)
    rw [show p + (j - p) = j by omega] at this
    simpa using this
  | some k =>
    obtain ⟨h1, h2, h3⟩ := fstN_some.mp e
    refine ⟨Nat.le_add_right _ _, by show p + k ≤ N; omega, fun j g1 g2 => ?_, fun _ => ?_⟩
    · have := h3 (j - p) (by have g2 : j < p + k := g2; omega)
      rw [show p + (j - p) = j by omega] at this
      simpa using this
    · show q (p + k) = false
      simpa using h2
theorem runN_step {q : Nat → Bool} {N p : Nat} (hp : p < N) (hq : q p = true) : runN q N (p + 1) = runN q N p := by
  obtain ⟨a1, a2, a3, a4⟩ := runN_spec (q := q) (N := N) (p := p) (by omega)
  obtain ⟨b1, b2, b3, b4⟩ := runN_spec (q := q) (N := N) (p := p + 1) (by omega)
  have : p < runN q N p := by
    rcases Nat.lt_or_ge p (runN q N p) with z | z
    · exact z
    · have e : runN q N p = p := by omega
      rw [e] at a4
      rw [a4 hp] at hq; cases hq
  rcases Nat.lt_trichotomy (runN q N (p + 1)) (runN q N p) with z | z | z
  · have := a3 _ (by omega) z
    rw [b4 (by omega)] at this; cases this
  · exact z
  · have := b3 _ (by omega) z
    rw [a4 (by omega)] at this; cases this
theorem runN_stop {q : Nat → Bool} {N p : Nat} (hp : p ≤ N) (h : p = N ∨ q p = false) : runN q N p = p := by
  obtain ⟨a1, a2, a3, a4⟩ := runN_spec (q := q) (N := N) (p := p) hp
  rcases h with h | h
  · omega
  · rcases Nat.lt_or_ge p (runN q N p) with z | z
    · rw [a3 p (Nat.le_refl _) z] at h; cases h
    · omega
section TK
variable (t : Nat → Int32) (N : Nat)
def qB (j : Nat) : Bool := decide (t j = 32)
def qL (j : Nat) : Bool := rng 97 122 (t j)
def qF (j : Nat) : Bool := rng 48 57 (t j)
def tS (p : Nat) : Nat := runN (qB t) N p
def tE (p : Nat) : Nat := if tS t N p = N then N else if qL t (tS t N p) then runN (qL t) N (tS t N p) else if qF t (tS t N p) then runN (qF t) N (tS t N p) else tS t N p + 1
/-- 0 end, 1 word, 2 number, 3 semicolon, 4 other -/
def tK (p : Nat) : Nat := if tS t N p = N then 0 else if qL t (tS t N p) then 1 else if qF t (tS t N p) then (if 2 < tE t N p - tS t N p then 4 else 2) else if t (tS t N p) = 59 then 3 else 4
def nuV (s : Nat) : Nat → Int32
  | 0 => 0
  | k + 1 => nuV s k * 10 + t (s + k) - 48
def tV (p : Nat) : Int32 := nuV t (tS t N p) (tE t N p - tS t N p)
def wdV (s : Nat) : Nat → Int32
  | 0 => 0
  | k + 1 => if 6 ≤ k then -1 else 32 * wdV s k + t (s + k) - 96
def tW (p : Nat) : Int32 := wdV t (tS t N p) (tE t N p - tS t N p)
def kM (k : Nat) : Int32 := if k = 4 then -1 else nI k
end TK
theorem tS_spec {t : Nat → Int32} {N p : Nat} (hp : p ≤ N) : p ≤ tS t N p ∧ tS t N p ≤ N := ⟨(runN_spec hp).1, (runN_spec hp).2.1⟩
theorem tE_spec {t : Nat → Int32} {N p : Nat} (hp : p ≤ N) : tS t N p ≤ tE t N p ∧ tE t N p ≤ N ∧ (tS t N p < N → tS t N p < tE t N p) := by
  obtain ⟨a1, a2⟩ := tS_spec (t := t) hp
  unfold tE
  generalize tS t N p = s at a1 a2 ⊢
  by_cases z : s = N
  · rw [if_pos z]; omega
  · rw [if_neg z]
    have grow : ∀ q : Nat → Bool, q s = true → s < runN q N s := fun q hq => by
      have := runN_step (N := N) (show s < N by omega) hq
      have := (runN_spec (q := q) (N := N) (p := s + 1) (by omega)).1
      omega
    cases l : qL t s with
    | true =>
      rw [if_pos rfl]
      have := grow _ l
      have := (runN_spec (q := qL t) (N := N) (p := s) a2).2.1
      omega
    | false =>
      rw [if_neg (by decide)]
      cases f : qF t s with
      | true =>
        rw [if_pos rfl]
        have := grow _ f
        have := (runN_spec (q := qF t) (N := N) (p := s) a2).2.1
        omega
      | false => rw [if_neg (by decide)]; omega
/-! the class's reader -/
def RR (h : zH) (x N : Nat) (tk : Int32) (st sp : Nat) (nm : Int32) : Prop := h.2 (x + 74) = some (.inr (2, [.ref (x + 90), .int (nI N), .int tk, .int (nI st), .int (nI sp), .int nm]))
def TXc (h : zH) (x N : Nat) (t : Nat → Int32) : Prop := ∃ f : Nat → Int32, h.2 (x + 90) = some (.inl (1, 150, .inl f)) ∧ ∀ j, j < N → f j = t j
theorem TXc.keep {h h' : zH} {x N lo hi : Nat} {t : Nat → Int32} (r : TXc h x N t) (f : Fr h h' lo hi) (hd : x + 90 < lo ∨ hi ≤ x + 90) : TXc h' x N t := by
  obtain ⟨g, g1, g2⟩ := r
  exact ⟨g, (f.2 _ hd).trans g1, g2⟩
theorem RR.set {h : zH} {x N : Nat} (tk : Int32) (st sp : Nat) (nm : Int32) : RR (zset h (x + 74) (.inr (2, [.ref (x + 90), .int (nI N), .int tk, .int (nI st), .int (nI sp), .int nm]))) x N tk st sp nm ∧ Fr h (zset h (x + 74) (.inr (2, [.ref (x + 90), .int (nI N), .int tk, .int (nI st), .int (nI sp), .int nm]))) (x + 74) (x + 75) := ⟨zset_at _ _ _, Fr.set _ (by omega) (by omega)⟩
section CA
variable {x N : Nat} {t : Nat → Int32}
theorem TXc.ld {h : zH} (r : TXc h x N t) (hN : N ≤ 150) {j : Nat} (hj : j < N) {K : Int32 → zR} : zaI h (x + 90) 1 (nI j) K = K (t j) := by
  obtain ⟨f, f1, f2⟩ := r
  rw [zaI_nI f1 (by omega) (by decide), f2 j hj]
theorem q_word (hN : N ≤ 150) : ∀ (e sp fuel : Nat) (h : zH) (tk : Int32) (st : Nat) (nm : Int32), sp + e = runN (qL t) N sp → sp ≤ N → e < fuel → RR h x N tk st sp nm → TXc h x N t → ∃ h', f_X5_advanceOverWord_0 fuel (x + 74) h = rV h' ∧ RR h' x N 1 st (runN (qL t) N sp) nm ∧ Fr h h' (x + 74) (x + 75) := by
  intro e
  induction e with
  | zero =>
    intro sp fuel h tk st nm he hs hf r tx
    obtain ⟨fuel, rfl⟩ : ∃ f', fuel = f' + 1 := ⟨fuel - 1, by omega⟩
    obtain ⟨a1, a2, a3, a4⟩ := runN_spec (q := qL t) hs
    have fin : f_X5_advanceOverWord_43 (x + 74) h = rV (zset h (x + 74) (.inr (2, [.ref (x + 90), .int (nI N), .int 1, .int (nI st), .int (nI sp), .int nm]))) := by
      unfold f_X5_advanceOverWord_43
      rw [zpV_eq r (Nat.le_of_ble_eq_true rfl)]; rfl
    obtain ⟨r1, f1⟩ := RR.set (h := h) (x := x) (N := N) 1 st sp nm
    rw [← he, Nat.add_zero]
    refine ⟨_, ?_, r1, f1⟩
    rw [f_X5_advanceOverWord_0, zgI_eq r rfl, zgI_eq r rfl, fin]
    by_cases z : sp = N
    · rw [if_pos (nI_le (by omega) (by omega))]
    · have hq : qL t sp = false := by rw [← he, Nat.add_zero] at a4; exact a4 (by omega)
      rw [if_neg (nI_ge (show sp < N by omega) (by omega)), zgR_eq r rfl, zgI_eq r rfl, tx.ld hN (by omega), zcI_of (q_X9_in _ _ _ h), show rng 97 122 (t sp) = false from hq, if_pos (by decide)]
      exact fin
  | succ e ih =>
    intro sp fuel h tk st nm he hs hf r tx
    obtain ⟨fuel, rfl⟩ : ∃ f', fuel = f' + 1 := ⟨fuel - 1, by omega⟩
    obtain ⟨a1, a2, a3, a4⟩ := runN_spec (q := qL t) hs
    have hq : qL t sp = true := a3 sp (Nat.le_refl _) (by omega)
    have hsn : sp < N := by omega
    have st1 := runN_step (q := qL t) hsn hq
    obtain ⟨r1, f1⟩ := RR.set (h := h) (x := x) (N := N) tk st (sp + 1) nm
    obtain ⟨h', e', r', f'⟩ := ih (sp + 1) fuel _ tk st nm (by rw [st1]; omega) (by omega) (by omega) r1 (tx.keep f1 (by omega))
    rw [st1] at r'
    refine ⟨h', ?_, r', f1.tr f'⟩
    rw [f_X5_advanceOverWord_0, zgI_eq r rfl, zgI_eq r rfl, if_neg (nI_ge hsn (by omega)), zgR_eq r rfl, zgI_eq r rfl, tx.ld hN hsn, zcI_of (q_X9_in _ _ _ h), show rng 97 122 (t sp) = true from hq, if_neg (by decide), zgI_eq r rfl, nI_1, zpV_eq r (Nat.le_of_ble_eq_true rfl)]
    exact e'
theorem q_numb (hN : N ≤ 150) : ∀ (e sp fuel : Nat) (h : zH) (tk : Int32) (st : Nat), sp + e = runN (qF t) N sp → st ≤ sp → sp ≤ N → e < fuel → RR h x N tk st sp (nuV t st (sp - st)) → TXc h x N t → ∃ h', f_X5_advanceOverNumber_5 fuel (x + 74) h = rV h' ∧ RR h' x N (if 2 < runN (qF t) N sp - st then 4 else 2) st (runN (qF t) N sp) (nuV t st (runN (qF t) N sp - st)) ∧ Fr h h' (x + 74) (x + 75) := by
  intro e
  induction e with
  | zero =>
    intro sp fuel h tk st he hst hs hf r tx
    obtain ⟨fuel, rfl⟩ : ∃ f', fuel = f' + 1 := ⟨fuel - 1, by omega⟩
    obtain ⟨a1, a2, a3, a4⟩ := runN_spec (q := qF t) hs
    obtain ⟨r1, f1⟩ := RR.set (h := h) (x := x) (N := N) (if 2 < sp - st then 4 else 2) st sp (nuV t st (sp - st))
    have fin : f_X5_advanceOverNumber_72 (x + 74) h = rV (zset h (x + 74) (.inr (2, [.ref (x + 90), .int (nI N), .int (if 2 < sp - st then 4 else 2), .int (nI st), .int (nI sp), .int (nuV t st (sp - st))]))) := by
      unfold f_X5_advanceOverNumber_72 f_X5_advanceOverNumber_91
      rw [zgI_eq r rfl, zgI_eq r rfl, pk_sub hst, zpV_eq r (Nat.le_of_ble_eq_true rfl), zpV_eq r (Nat.le_of_ble_eq_true rfl)]
      by_cases z : 2 < sp - st
      · rw [if_pos (show (2 : Int32) < nI (sp - st) from nI_lt (a := 2) z (by omega)), if_pos z]; rfl
      · rw [if_neg (show ¬ (2 : Int32) < nI (sp - st) from nI_nlt (a := 2) (by omega) (by omega)), if_neg z]; rfl
    rw [← he, Nat.add_zero]
    refine ⟨_, ?_, r1, f1⟩
    rw [f_X5_advanceOverNumber_5, zgI_eq r rfl, zgI_eq r rfl, fin]
    by_cases z : sp = N
    · rw [if_pos (nI_le (by omega) (by omega))]
    · have hq : qF t sp = false := by rw [← he, Nat.add_zero] at a4; exact a4 (by omega)
      rw [if_neg (nI_ge (show sp < N by omega) (by omega)), zgR_eq r rfl, zgI_eq r rfl, tx.ld hN (by omega), zcI_of (q_X9_in _ _ _ h), show rng 48 57 (t sp) = false from hq, if_pos (by decide)]
      exact fin
  | succ e ih =>
    intro sp fuel h tk st he hst hs hf r tx
    obtain ⟨fuel, rfl⟩ : ∃ f', fuel = f' + 1 := ⟨fuel - 1, by omega⟩
    obtain ⟨a1, a2, a3, a4⟩ := runN_spec (q := qF t) hs
    have hq : qF t sp = true := a3 sp (Nat.le_refl _) (by omega)
    have hsn : sp < N := by omega
    have st1 := runN_step (q := qF t) hsn hq
    have en : nuV t st (sp + 1 - st) = nuV t st (sp - st) * 10 + t sp - 48 := by
      rw [show sp + 1 - st = (sp - st) + 1 by omega, nuV, show st + (sp - st) = sp by omega]
    obtain ⟨r0, f0⟩ := RR.set (h := h) (x := x) (N := N) tk st sp (nuV t st (sp + 1 - st))
    obtain ⟨r1, f1⟩ := RR.set (h := zset h (x + 74) (.inr (2, [.ref (x + 90), .int (nI N), .int tk, .int (nI st), .int (nI sp), .int (nuV t st (sp + 1 - st))]))) (x := x) (N := N) tk st (sp + 1) (nuV t st (sp + 1 - st))
    obtain ⟨h', e', r', f'⟩ := ih (sp + 1) fuel _ tk st (by rw [st1]; omega) (by omega) (by omega) (by omega) r1 ((tx.keep f0 (by omega)).keep f1 (by omega))
    rw [st1] at r'
    refine ⟨h', ?_, r', (f0.tr f1).tr f'⟩
    rw [f_X5_advanceOverNumber_5, zgI_eq r rfl, zgI_eq r rfl, if_neg (nI_ge hsn (by omega)), zgR_eq r rfl, zgI_eq r rfl, tx.ld hN hsn, zcI_of (q_X9_in _ _ _ h), show rng 48 57 (t sp) = true from hq, if_neg (by decide), zgI_eq r rfl, zgR_eq r rfl, zgI_eq r rfl, tx.ld hN hsn, ← en, zpV_eq r (Nat.le_of_ble_eq_true rfl)]
    dsimp only [List.set]
    rw [zgI_eq r0 rfl, nI_1, zpV_eq r0 (Nat.le_of_ble_eq_true rfl)]
    exact e'
theorem q_skip (hN : N ≤ 150) : ∀ (e st fuel : Nat) (h : zH) (tk : Int32) (sp : Nat) (nm : Int32), st + e = runN (qB t) N st → st ≤ N → e < fuel → RR h x N tk st sp nm → TXc h x N t → ∃ h', f_X5_advance_8 fuel (x + 74) h = f_X5_advance_46 (x + 74) h' ∧ RR h' x N tk (runN (qB t) N st) sp nm ∧ Fr h h' (x + 74) (x + 75) := by
  intro e
  induction e with
  | zero =>
    intro st fuel h tk sp nm he hs hf r tx
    obtain ⟨fuel, rfl⟩ : ∃ f', fuel = f' + 1 := ⟨fuel - 1, by omega⟩
    obtain ⟨a1, a2, a3, a4⟩ := runN_spec (q := qB t) hs
    rw [← he, Nat.add_zero]
    refine ⟨h, ?_, r, Fr.rf⟩
    rw [f_X5_advance_8, zgI_eq r rfl, zgI_eq r rfl]
    by_cases z : st = N
    · rw [if_pos (nI_le (by omega) (by omega))]
    · have hq : qB t st = false := by rw [← he, Nat.add_zero] at a4; exact a4 (by omega)
      rw [if_neg (nI_ge (show st < N by omega) (by omega)), zgR_eq r rfl, zgI_eq r rfl, tx.ld hN (by omega), if_neg (of_decide_eq_false hq)]
  | succ e ih =>
    intro st fuel h tk sp nm he hs hf r tx
    obtain ⟨fuel, rfl⟩ : ∃ f', fuel = f' + 1 := ⟨fuel - 1, by omega⟩
    obtain ⟨a1, a2, a3, a4⟩ := runN_spec (q := qB t) hs
    have hq : qB t st = true := a3 st (Nat.le_refl _) (by omega)
    have hsn : st < N := by omega
    have st1 := runN_step (q := qB t) hsn hq
    obtain ⟨r1, f1⟩ := RR.set (h := h) (x := x) (N := N) tk (st + 1) sp nm
    obtain ⟨h', e', r', f'⟩ := ih (st + 1) fuel _ tk sp nm (by rw [st1]; omega) (by omega) (by omega) r1 (tx.keep f1 (by omega))
    rw [st1] at r'
    refine ⟨h', ?_, r', f1.tr f'⟩
    rw [f_X5_advance_8, zgI_eq r rfl, zgI_eq r rfl, if_neg (nI_ge hsn (by omega)), zgR_eq r rfl, zgI_eq r rfl, tx.ld hN hsn, if_pos (of_decide_eq_true hq), zgI_eq r rfl, nI_1, zpV_eq r (Nat.le_of_ble_eq_true rfl)]
    exact e'
theorem q_advance {h : zH} {tk : Int32} {st sp : Nat} {nm : Int32} (hN : N ≤ 150) (hs : sp ≤ N) (r : RR h x N tk st sp nm) (tx : TXc h x N t) : ∃ h' nm', f_X5_advance (x + 74) h = rV h' ∧ RR h' x N (nI (tK t N sp)) (tS t N sp) (tE t N sp) nm' ∧ (tK t N sp = 2 → nm' = tV t N sp) ∧ Fr h h' (x + 74) (x + 75) := by
  obtain ⟨r0, f0⟩ := RR.set (h := h) (x := x) (N := N) tk sp sp nm
  obtain ⟨b1, b2, b3, b4⟩ := runN_spec (q := qB t) hs
  obtain ⟨h1, e1, r1, f1⟩ := q_skip hN (runN (qB t) N sp - sp) sp zF _ tk sp nm (by omega) hs (by show _ < 20000; omega) r0 (tx.keep f0 (by omega))
  have e0 : f_X5_advance (x + 74) h = f_X5_advance_46 (x + 74) h1 := by
    unfold f_X5_advance
    rw [zgI_eq r rfl, zpV_eq r (Nat.le_of_ble_eq_true rfl)]
    exact e1
  have F1 := f0.tr f1
  have t1 := tx.keep F1 (by omega)
  rw [e0]
  have es : runN (qB t) N sp = tS t N sp := rfl
  rw [es] at r1 b1 b2 b3 b4
  unfold tK tV tE
  generalize tS t N sp = s at r1 b1 b2 b3 b4 ⊢
  obtain ⟨r2, f2⟩ := RR.set (h := h1) (x := x) (N := N) tk s s nm
  have t2 := t1.keep f2 (by omega)
  unfold f_X5_advance_46 f_X5_advance_158
  rw [zgI_eq r1 rfl, zpV_eq r1 (Nat.le_of_ble_eq_true rfl)]
  dsimp only [List.set]
  generalize zset h1 (x + 74) (.inr (2, [.ref (x + 90), .int (nI N), .int tk, .int (nI s), .int (nI s), .int nm])) = g at r2 f2 t2 ⊢
  rw [zgI_eq r2 rfl, zgI_eq r2 rfl]
  by_cases z : s = N
  · rw [if_neg (nI_nlt (by omega) (by omega)), if_pos z, if_pos z, zpV_eq r2 (Nat.le_of_ble_eq_true rfl)]
    obtain ⟨r3, f3⟩ := RR.set (h := g) (x := x) (N := N) 0 s s nm
    exact ⟨_, nm, rfl, by rw [← z]; rw [← z] at r3; exact r3, fun e => (by cases e), (F1.tr f2).tr f3⟩
  · have hsn : s < N := by omega
    rw [if_pos (nI_lt hsn (by omega)), if_neg z, if_neg z, zgR_eq r2 rfl, zgI_eq r2 rfl, t2.ld hN hsn, zcI_of (q_X9_in _ _ _ g)]
    cases l : qL t s with
    | true =>
      obtain ⟨g3, e3, r3, f3⟩ := q_word hN (runN (qL t) N s - s) s zF g tk s nm (by have := (runN_spec (q := qL t) (p := s) (N := N) (by omega)).1; omega) (by omega) (by have := (runN_spec (q := qL t) (p := s) (N := N) (by omega)).2.1; show _ < 20000; omega) r2 t2
      rw [show rng 97 122 (t s) = true from l, if_neg (by decide), zoc_eq r2]
      unfold f_X5_advanceOverWord
      rw [zcV_of e3, if_pos rfl, if_pos rfl]
      exact ⟨g3, nm, rfl, r3, fun e => (by cases e), (F1.tr f2).tr f3⟩
    | false =>
      rw [show rng 97 122 (t s) = false from l, if_pos (by decide), if_neg (show ¬ (false = true) by decide), if_neg (show ¬ (false = true) by decide), zgR_eq r2 rfl, zgI_eq r2 rfl, t2.ld hN hsn, zcI_of (q_X9_in _ _ _ g)]
      cases f : qF t s with
      | true =>
        obtain ⟨r4, f4⟩ := RR.set (h := g) (x := x) (N := N) tk s s 0
        obtain ⟨g3, e3, r3, f3⟩ := q_numb (t := t) hN (runN (qF t) N s - s) s zF _ tk s (by have := (runN_spec (q := qF t) (p := s) (N := N) (by omega)).1; omega) (Nat.le_refl _) (by omega) (by have := (runN_spec (q := qF t) (p := s) (N := N) (by omega)).2.1; show _ < 20000; omega) (by rw [Nat.sub_self]; exact r4) (t2.keep f4 (by omega))
        rw [show rng 48 57 (t s) = true from f, if_neg (by decide), zoc_eq r2]
        unfold f_X5_advanceOverNumber
        rw [zpV_eq r2 (Nat.le_of_ble_eq_true rfl)]
        dsimp only [List.set]
        rw [zcV_of e3]
        simp only [↓reduceIte]
        refine ⟨g3, _, rfl, ?_, fun _ => rfl, ((F1.tr f2).tr f4).tr f3⟩
        by_cases y : 2 < runN (qF t) N s - s
        · rw [if_pos y] at r3 ⊢; exact r3
        · rw [if_neg y] at r3 ⊢; exact r3
      | false =>
        rw [show rng 48 57 (t s) = false from f, if_pos (by decide), if_neg (show ¬ (false = true) by decide), if_neg (show ¬ (false = true) by decide), zgR_eq r2 rfl, zgI_eq r2 rfl, t2.ld hN hsn]
        have fin : ∀ k : Nat, k < 10 → ∃ g3, f_X5_advance_145 (x + 74) (nI k) (x + 74) g = rV g3 ∧ RR g3 x N (nI k) s (s + 1) nm ∧ Fr g g3 (x + 74) (x + 75) := by
          intro k _
          obtain ⟨r5, f5⟩ := RR.set (h := g) (x := x) (N := N) (nI k) s s nm
          unfold f_X5_advance_145 f_X5_advance_158
          rw [zpV_eq r2 (Nat.le_of_ble_eq_true rfl)]
          dsimp only [List.set]
          generalize zset g (x + 74) (.inr (2, [.ref (x + 90), .int (nI N), .int (nI k), .int (nI s), .int (nI s), .int nm])) = g5 at r5 f5 ⊢
          obtain ⟨r6, f6⟩ := RR.set (h := g5) (x := x) (N := N) (nI k) s (s + 1) nm
          rw [zgI_eq r5 rfl, nI_1, zpV_eq r5 (Nat.le_of_ble_eq_true rfl)]
          exact ⟨_, rfl, r6, f5.tr f6⟩
        by_cases y : t s = 59
        · obtain ⟨g3, e3, r3, f3⟩ := fin 3 (by omega)
          rw [if_pos y, if_pos y]
          exact ⟨g3, nm, e3, r3, fun e => (by cases e), (F1.tr f2).tr f3⟩
        · obtain ⟨g3, e3, r3, f3⟩ := fin 4 (by omega)
          rw [if_neg y, if_neg y]
          exact ⟨g3, nm, e3, r3, fun e => (by cases e), (F1.tr f2).tr f3⟩
end CA
