/-! read: the model's tokens -/
abbrev mN (M : Mo) (sp bg tk va : Int32) : Mo := (M.1, M.2.1, M.2.2.1, M.2.2.2.1, M.2.2.2.2.1, sp, bg, tk, va)
def TXm (h : zH) (m N : Nat) (t : Nat → Int32) : Prop := ∃ f : Nat → Int32, MA h (m + 7) 150 f ∧ ∀ j, j < N → f j = t j
theorem TXm.keep {h h' : zH} {m N lo hi : Nat} {t : Nat → Int32} (r : TXm h m N t) (f : Fr h h' lo hi) (hd : m + 7 < lo ∨ hi ≤ m + 7) : TXm h' m N t := by
  obtain ⟨g, g1, g2⟩ := r
  exact ⟨g, g1.keep f hd, g2⟩
theorem MO.set {h : zH} {m : Nat} (M : Mo) : MO (zset h m (moE m M)) m M ∧ Fr h (zset h m (moE m M)) m (m + 1) := ⟨zset_at _ _ _, Fr.set _ (by omega) (by omega)⟩
def nuM (t : Nat → Int32) (s : Nat) : Nat → Int32
  | 0 => 0
  | k + 1 => if 2 ≤ k then nuM t s k else 10 * nuM t s k + t (s + k) - 48
theorem nuM_eq {t : Nat → Int32} {s : Nat} : ∀ {k : Nat}, k ≤ 2 → nuM t s k = nuV t s k
  | 0, _ => rfl
  | k + 1, h => by
    rw [nuM, nuV, if_neg (by omega), nuM_eq (k := k) (by omega), Int32.mul_comm]
section MN
variable {m N : Nat} {t : Nat → Int32} {M : Mo}
theorem TXm.ld {h : zH} (r : TXm h m N t) (hN : N ≤ 150) {j : Nat} (hj : j < N) {K : Int32 → zR} : zaI h (m + 7) 0 (nI j) K = K (t j) := by
  obtain ⟨f, f1, f2⟩ := r
  rw [zaI_nI f1 (by omega) (by decide), f2 j hj]
theorem q_isLetter (y : Int32) (h : zH) : f_X10_isLetter y h = rB (rng 97 122 y) h := by
  unfold f_X10_isLetter
  rw [zcI_of (q_X10_inn y 97 122 (A := 97) (B := 122) (by decide) (by decide) h), zrZ_b]
theorem q_isFigure (y : Int32) (h : zH) : f_X10_isFigure y h = rB (rng 48 57 y) h := by
  unfold f_X10_isFigure
  rw [zcI_of (q_X10_inn y 48 57 (A := 48) (B := 57) (by decide) (by decide) h), zrZ_b]
theorem qm_word (hN : N ≤ 150) (hM : M.2.2.1 = nI N) : ∀ (e sp fuel : Nat) (h : zH) (tk : Int32) (bg : Nat), sp + e = runN (qL t) N sp → bg ≤ sp → sp ≤ N → e < fuel → MO h m (mN M (nI sp) (nI bg) tk (wdV t bg (sp - bg))) → TXm h m N t → ∃ h', f_X10_next_85 fuel m h = rV h' ∧ MO h' m (mN M (nI (runN (qL t) N sp)) (nI bg) 1 (wdV t bg (runN (qL t) N sp - bg))) ∧ Fr h h' m (m + 1) := by
  intro e
  induction e with
  | zero =>
    intro sp fuel h tk bg he hb hs hf r tx
    obtain ⟨fuel, rfl⟩ : ∃ f', fuel = f' + 1 := ⟨fuel - 1, by omega⟩
    obtain ⟨a1, a2, a3, a4⟩ := runN_spec (q := qL t) hs
    obtain ⟨r1, f1⟩ := MO.set (h := h) (m := m) (mN M (nI sp) (nI bg) 1 (wdV t bg (sp - bg)))
    have fin : f_X10_next_166 m h = rV (zset h m (moE m (mN M (nI sp) (nI bg) 1 (wdV t bg (sp - bg))))) := by
      unfold f_X10_next_166 f_X10_next_314
      rw [zpV_eq r (Nat.le_of_ble_eq_true rfl)]; rfl
    rw [← he, Nat.add_zero]
    refine ⟨_, ?_, r1, f1⟩
    rw [f_X10_next_85, zgI_eq r rfl, zgI_eq r rfl, hM]
    by_cases z : sp = N
    · rw [if_pos (show nI N ≤ nI sp from nI_le (by omega) (by omega))]; exact fin
    · have hq : qL t sp = false := by rw [← he, Nat.add_zero] at a4; exact a4 (by omega)
      rw [if_neg (show ¬ nI N ≤ nI sp from nI_ge (show sp < N by omega) (by omega)), zgR_eq r rfl, zgI_eq r rfl, tx.ld hN (by omega), zcI_of (q_isLetter _ h), show rng 97 122 (t sp) = false from hq, if_pos (by decide)]
      exact fin
  | succ e ih =>
    intro sp fuel h tk bg he hb hs hf r tx
    obtain ⟨fuel, rfl⟩ : ∃ f', fuel = f' + 1 := ⟨fuel - 1, by omega⟩
    obtain ⟨a1, a2, a3, a4⟩ := runN_spec (q := qL t) hs
    have hq : qL t sp = true := a3 sp (Nat.le_refl _) (by omega)
    have hsn : sp < N := by omega
    have st1 := runN_step (q := qL t) hsn hq
    have en : wdV t bg (sp + 1 - bg) = if 6 ≤ sp - bg then -1 else 32 * wdV t bg (sp - bg) + t sp - 96 := by
      rw [show sp + 1 - bg = (sp - bg) + 1 by omega, wdV, show bg + (sp - bg) = sp by omega]
    obtain ⟨r0, f0⟩ := MO.set (h := h) (m := m) (mN M (nI sp) (nI bg) tk (wdV t bg (sp + 1 - bg)))
    obtain ⟨r1, f1⟩ := MO.set (h := zset h m (moE m (mN M (nI sp) (nI bg) tk (wdV t bg (sp + 1 - bg))))) (m := m) (mN M (nI (sp + 1)) (nI bg) tk (wdV t bg (sp + 1 - bg)))
    obtain ⟨h', e', r', f'⟩ := ih (sp + 1) fuel _ tk bg (by rw [st1]; omega) (by omega) (by omega) (by omega) r1 ((tx.keep f0 (by omega)).keep f1 (by omega))
    rw [st1] at r'
    refine ⟨h', ?_, r', (f0.tr f1).tr f'⟩
    have fin : ∀ y, y = wdV t bg (sp + 1 - bg) → f_X10_next_150 (f_X10_next_85 fuel) m y m h = rV h' := by
      intro y ey
      subst ey
      unfold f_X10_next_150
      rw [zpV_eq r (Nat.le_of_ble_eq_true rfl)]
      show (zgI (zset h m (moE m (mN M (nI sp) (nI bg) tk (wdV t bg (sp + 1 - bg))))) m 6 13 fun x2 => zpV (zset h m (moE m (mN M (nI sp) (nI bg) tk (wdV t bg (sp + 1 - bg))))) m 6 13 (.int (x2 + 1)) fun h3 => f_X10_next_85 fuel m h3) = _
      rw [zgI_eq r0 rfl, nI_1, zpV_eq r0 (Nat.le_of_ble_eq_true rfl)]
      exact e'
    rw [f_X10_next_85, zgI_eq r rfl, zgI_eq r rfl, hM, if_neg (show ¬ nI N ≤ nI sp from nI_ge hsn (by omega)), zgR_eq r rfl, zgI_eq r rfl, tx.ld hN hsn, zcI_of (q_isLetter _ h), show rng 97 122 (t sp) = true from hq, if_neg (by decide), zgI_eq r rfl, zgI_eq r rfl, pk_sub hb]
    by_cases z : 6 ≤ sp - bg
    · rw [if_pos (show (6 : Int32) ≤ nI (sp - bg) from nI_le (a := 6) z (by omega))]
      exact fin _ (by rw [en, if_pos z])
    · rw [if_neg (show ¬ (6 : Int32) ≤ nI (sp - bg) from nI_ge (b := 6) (by omega) (by decide)), zgI_eq r rfl, zgR_eq r rfl, zgI_eq r rfl, tx.ld hN hsn]
      exact fin _ (by rw [en, if_neg z])
theorem qm_numb (hN : N ≤ 150) (hM : M.2.2.1 = nI N) : ∀ (e sp fuel : Nat) (h : zH) (tk : Int32) (bg : Nat), sp + e = runN (qF t) N sp → bg ≤ sp → sp ≤ N → e < fuel → MO h m (mN M (nI sp) (nI bg) tk (nuM t bg (sp - bg))) → TXm h m N t → ∃ h', f_X10_next_181 fuel m h = rV h' ∧ MO h' m (mN M (nI (runN (qF t) N sp)) (nI bg) (if 2 < runN (qF t) N sp - bg then -1 else 2) (nuM t bg (runN (qF t) N sp - bg))) ∧ Fr h h' m (m + 1) := by
  intro e
  induction e with
  | zero =>
    intro sp fuel h tk bg he hb hs hf r tx
    obtain ⟨fuel, rfl⟩ : ∃ f', fuel = f' + 1 := ⟨fuel - 1, by omega⟩
    obtain ⟨a1, a2, a3, a4⟩ := runN_spec (q := qF t) hs
    obtain ⟨r1, f1⟩ := MO.set (h := h) (m := m) (mN M (nI sp) (nI bg) (if 2 < sp - bg then -1 else 2) (nuM t bg (sp - bg)))
    have fin : f_X10_next_264 m h = rV (zset h m (moE m (mN M (nI sp) (nI bg) (if 2 < sp - bg then -1 else 2) (nuM t bg (sp - bg))))) := by
      unfold f_X10_next_264 f_X10_next_283 f_X10_next_314
      rw [zgI_eq r rfl, zgI_eq r rfl, pk_sub hb, zpV_eq r (Nat.le_of_ble_eq_true rfl), zpV_eq r (Nat.le_of_ble_eq_true rfl)]
      by_cases z : 2 < sp - bg
      · rw [if_pos (show (3 : Int32) ≤ nI (sp - bg) from nI_le (a := 3) (by omega) (by omega)), if_pos z]; rfl
      · rw [if_neg (show ¬ (3 : Int32) ≤ nI (sp - bg) from nI_ge (b := 3) (by omega) (by decide)), if_neg z]; rfl
    rw [← he, Nat.add_zero]
    refine ⟨_, ?_, r1, f1⟩
    rw [f_X10_next_181, zgI_eq r rfl, zgI_eq r rfl, hM]
    by_cases z : sp = N
    · rw [if_pos (show nI N ≤ nI sp from nI_le (by omega) (by omega))]; exact fin
    · have hq : qF t sp = false := by rw [← he, Nat.add_zero] at a4; exact a4 (by omega)
      rw [if_neg (show ¬ nI N ≤ nI sp from nI_ge (show sp < N by omega) (by omega)), zgR_eq r rfl, zgI_eq r rfl, tx.ld hN (by omega), zcI_of (q_isFigure _ h), show rng 48 57 (t sp) = false from hq, if_pos (by decide)]
      exact fin
  | succ e ih =>
    intro sp fuel h tk bg he hb hs hf r tx
    obtain ⟨fuel, rfl⟩ : ∃ f', fuel = f' + 1 := ⟨fuel - 1, by omega⟩
    obtain ⟨a1, a2, a3, a4⟩ := runN_spec (q := qF t) hs
    have hq : qF t sp = true := a3 sp (Nat.le_refl _) (by omega)
    have hsn : sp < N := by omega
    have st1 := runN_step (q := qF t) hsn hq
    have en : nuM t bg (sp + 1 - bg) = if 2 ≤ sp - bg then nuM t bg (sp - bg) else 10 * nuM t bg (sp - bg) + t sp - 48 := by
      rw [show sp + 1 - bg = (sp - bg) + 1 by omega, nuM, show bg + (sp - bg) = sp by omega]
    obtain ⟨r0, f0⟩ := MO.set (h := h) (m := m) (mN M (nI sp) (nI bg) tk (nuM t bg (sp + 1 - bg)))
    obtain ⟨r1, f1⟩ := MO.set (h := zset h m (moE m (mN M (nI sp) (nI bg) tk (nuM t bg (sp + 1 - bg))))) (m := m) (mN M (nI (sp + 1)) (nI bg) tk (nuM t bg (sp + 1 - bg)))
    obtain ⟨h', e', r', f'⟩ := ih (sp + 1) fuel _ tk bg (by rw [st1]; omega) (by omega) (by omega) (by omega) r1 ((tx.keep f0 (by omega)).keep f1 (by omega))
    rw [st1] at r'
    refine ⟨h', ?_, r', (f0.tr f1).tr f'⟩
    have fin : ∀ y, y = nuM t bg (sp + 1 - bg) → f_X10_next_248 (f_X10_next_181 fuel) m y m h = rV h' := by
      intro y ey
      subst ey
      unfold f_X10_next_248
      rw [zpV_eq r (Nat.le_of_ble_eq_true rfl)]
      show (zgI (zset h m (moE m (mN M (nI sp) (nI bg) tk (nuM t bg (sp + 1 - bg))))) m 6 13 fun x2 => zpV (zset h m (moE m (mN M (nI sp) (nI bg) tk (nuM t bg (sp + 1 - bg))))) m 6 13 (.int (x2 + 1)) fun h3 => f_X10_next_181 fuel m h3) = _
      rw [zgI_eq r0 rfl, nI_1, zpV_eq r0 (Nat.le_of_ble_eq_true rfl)]
      exact e'
    rw [f_X10_next_181, zgI_eq r rfl, zgI_eq r rfl, hM, if_neg (show ¬ nI N ≤ nI sp from nI_ge hsn (by omega)), zgR_eq r rfl, zgI_eq r rfl, tx.ld hN hsn, zcI_of (q_isFigure _ h), show rng 48 57 (t sp) = true from hq, if_neg (by decide), zgI_eq r rfl, zgI_eq r rfl, pk_sub hb]
    by_cases z : 2 ≤ sp - bg
    · rw [if_pos (show (2 : Int32) ≤ nI (sp - bg) from nI_le (a := 2) z (by omega)), zgI_eq r rfl]
      exact fin _ (by rw [en, if_pos z])
    · rw [if_neg (show ¬ (2 : Int32) ≤ nI (sp - bg) from nI_ge (b := 2) (by omega) (by decide)), zgI_eq r rfl, zgR_eq r rfl, zgI_eq r rfl, tx.ld hN hsn]
      exact fin _ (by rw [en, if_neg z])
theorem qm_skip (hN : N ≤ 150) (hM : M.2.2.1 = nI N) : ∀ (e sp fuel : Nat) (h : zH) (bg tk va : Int32), sp + e = runN (qB t) N sp → sp ≤ N → e < fuel → MO h m (mN M (nI sp) bg tk va) → TXm h m N t → ∃ h', f_X10_next_0 fuel m h = f_X10_next_38 m h' ∧ MO h' m (mN M (nI (runN (qB t) N sp)) bg tk va) ∧ Fr h h' m (m + 1) := by
  intro e
  induction e with
  | zero =>
    intro sp fuel h bg tk va he hs hf r tx
    obtain ⟨fuel, rfl⟩ : ∃ f', fuel = f' + 1 := ⟨fuel - 1, by omega⟩
    obtain ⟨a1, a2, a3, a4⟩ := runN_spec (q := qB t) hs
    rw [← he, Nat.add_zero]
    refine ⟨h, ?_, r, Fr.rf⟩
    rw [f_X10_next_0, zgI_eq r rfl, zgI_eq r rfl, hM]
    by_cases z : sp = N
    · rw [if_pos (show nI N ≤ nI sp from nI_le (by omega) (by omega))]
    · have hq : qB t sp = false := by rw [← he, Nat.add_zero] at a4; exact a4 (by omega)
      rw [if_neg (show ¬ nI N ≤ nI sp from nI_ge (show sp < N by omega) (by omega)), zgR_eq r rfl, zgI_eq r rfl, tx.ld hN (by omega), if_neg (of_decide_eq_false hq)]
  | succ e ih =>
    intro sp fuel h bg tk va he hs hf r tx
    obtain ⟨fuel, rfl⟩ : ∃ f', fuel = f' + 1 := ⟨fuel - 1, by omega⟩
    obtain ⟨a1, a2, a3, a4⟩ := runN_spec (q := qB t) hs
    have hq : qB t sp = true := a3 sp (Nat.le_refl _) (by omega)
    have hsn : sp < N := by omega
    have st1 := runN_step (q := qB t) hsn hq
    obtain ⟨r1, f1⟩ := MO.set (h := h) (m := m) (mN M (nI (sp + 1)) bg tk va)
    obtain ⟨h', e', r', f'⟩ := ih (sp + 1) fuel _ bg tk va (by rw [st1]; omega) (by omega) (by omega) r1 (tx.keep f1 (by omega))
    rw [st1] at r'
    refine ⟨h', ?_, r', f1.tr f'⟩
    rw [f_X10_next_0, zgI_eq r rfl, zgI_eq r rfl, hM, if_neg (show ¬ nI N ≤ nI sp from nI_ge hsn (by omega)), zgR_eq r rfl, zgI_eq r rfl, tx.ld hN hsn, if_pos (of_decide_eq_true hq), zgI_eq r rfl, nI_1, zpV_eq r (Nat.le_of_ble_eq_true rfl)]
    exact e'
theorem q_next {h : zH} {sp : Nat} {bg tk va : Int32} (hN : N ≤ 150) (hM : M.2.2.1 = nI N) (hs : sp ≤ N) (r : MO h m (mN M (nI sp) bg tk va)) (tx : TXm h m N t) : ∃ h' va', f_X10_next m h = rV h' ∧ MO h' m (mN M (nI (tE t N sp)) (nI (tS t N sp)) (kM (tK t N sp)) va') ∧ (tK t N sp = 1 → va' = tW t N sp) ∧ (tK t N sp = 2 → va' = tV t N sp) ∧ Fr h h' m (m + 1) := by
  obtain ⟨b1, b2, b3, b4⟩ := runN_spec (q := qB t) hs
  obtain ⟨h1, e1, r1, f1⟩ := qm_skip hN hM (runN (qB t) N sp - sp) sp zF h bg tk va (by omega) hs (by show _ < 20000; omega) r tx
  have e0 : f_X10_next m h = f_X10_next_38 m h1 := e1
  have t1 := tx.keep f1 (by omega)
  rw [e0]
  have es : runN (qB t) N sp = tS t N sp := rfl
  rw [es] at r1 b1 b2 b3 b4
  unfold tK tV tW tE
  generalize tS t N sp = s at r1 b1 b2 b3 b4 ⊢
  unfold f_X10_next_38
  rw [zgI_eq r1 rfl, zpV_eq r1 (Nat.le_of_ble_eq_true rfl)]
  obtain ⟨r2, f2⟩ := MO.set (h := h1) (m := m) (mN M (nI s) (nI s) tk va)
  dsimp only [List.set, moE, mN] at r2 f2 ⊢
  generalize zset h1 m _ = g2 at r2 f2 ⊢
  rw [zpV_eq r2 (Nat.le_of_ble_eq_true rfl)]
  obtain ⟨r3, f3⟩ := MO.set (h := g2) (m := m) (mN M (nI s) (nI s) 0 va)
  dsimp only [List.set, moE, mN] at r3 f3 ⊢
  generalize zset g2 m _ = g3 at r3 f3 ⊢
  rw [zpV_eq r3 (Nat.le_of_ble_eq_true rfl)]
  obtain ⟨r4, f4⟩ := MO.set (h := g3) (m := m) (mN M (nI s) (nI s) 0 0)
  dsimp only [List.set, moE] at r4 f4 ⊢
  generalize zset g3 m _ = g at r4 f4 ⊢
  have F := ((f1.tr f2).tr f3).tr f4
  have t2 := tx.keep F (by omega)
  rw [zgI_eq r4 rfl, zgI_eq r4 rfl]
  by_cases z : s = N
  · rw [if_pos (show nI s = M.2.2.1 by rw [z, hM]), if_pos z, if_pos z]
    refine ⟨g, 0, rfl, ?_, fun e => (by cases e), fun e => (by cases e), F⟩
    rw [← z]; exact r4
  · have hsn : s < N := by omega
    rw [if_neg (show ¬ nI s = M.2.2.1 from fun e => z ((nI_eq (by omega) (by omega)).mp (e.trans hM))), if_neg z, if_neg z, zgR_eq r4 rfl, zgI_eq r4 rfl, t2.ld hN hsn, zcI_of (q_isLetter _ g)]
    cases l : qL t s with
    | true =>
      obtain ⟨g5, e5, r5, f5⟩ := qm_word (t := t) hN hM (runN (qL t) N s - s) s zF g 0 s (by have := (runN_spec (q := qL t) (p := s) (N := N) (by omega)).1; omega) (Nat.le_refl _) (by omega) (by have := (runN_spec (q := qL t) (p := s) (N := N) (by omega)).2.1; show _ < 20000; omega) (by rw [Nat.sub_self]; exact r4) t2
      rw [show rng 97 122 (t s) = true from l, if_neg (by decide)]
      simp only [↓reduceIte]
      exact ⟨g5, _, e5, r5, fun _ => rfl, fun e => (by cases e), F.tr f5⟩
    | false =>
      rw [show rng 97 122 (t s) = false from l, if_pos (by decide), zcI_of (q_isFigure _ g)]
      simp only [Bool.false_eq_true, ↓reduceIte]
      cases f : qF t s with
      | true =>
        obtain ⟨g5, e5, r5, f5⟩ := qm_numb (t := t) hN hM (runN (qF t) N s - s) s zF g 0 s (by have := (runN_spec (q := qF t) (p := s) (N := N) (by omega)).1; omega) (Nat.le_refl _) (by omega) (by have := (runN_spec (q := qF t) (p := s) (N := N) (by omega)).2.1; show _ < 20000; omega) (by rw [Nat.sub_self]; exact r4) t2
        rw [show rng 48 57 (t s) = true from f, if_neg (by decide)]
        simp only [↓reduceIte]
        refine ⟨g5, nuM t s (runN (qF t) N s - s), e5, ?_, fun e => ?_, fun e => ?_, F.tr f5⟩
        · by_cases y : 2 < runN (qF t) N s - s
          · rw [if_pos y] at r5 ⊢; exact r5
          · rw [if_neg y] at r5 ⊢; exact r5
        · split at e <;> cases e
        · have y : ¬ 2 < runN (qF t) N s - s := fun y => by rw [if_pos y] at e; cases e
          exact nuM_eq (by omega)
      | false =>
        rw [show rng 48 57 (t s) = false from f, if_pos (by decide), zgI_eq r4 rfl, nI_1, zpV_eq r4 (Nat.le_of_ble_eq_true rfl)]
        simp only [Bool.false_eq_true, ↓reduceIte]
        obtain ⟨r5, f5⟩ := MO.set (h := g) (m := m) (mN M (nI (s + 1)) (nI s) 0 0)
        dsimp only [List.set, moE] at r5 f5 ⊢
        generalize zset g m _ = g5 at r5 f5 ⊢
        unfold f_X10_next_311 f_X10_next_314
        rw [zpV_eq r5 (Nat.le_of_ble_eq_true rfl), zpV_eq r5 (Nat.le_of_ble_eq_true rfl)]
        by_cases y : t s = 59
        · obtain ⟨r6, f6⟩ := MO.set (h := g5) (m := m) (mN M (nI (s + 1)) (nI s) 3 0)
          rw [if_pos y, if_pos y]
          exact ⟨_, 0, rfl, r6, fun e => (by cases e), fun e => (by cases e), (F.tr f5).tr f6⟩
        · obtain ⟨r6, f6⟩ := MO.set (h := g5) (m := m) (mN M (nI (s + 1)) (nI s) (-1) 0)
          rw [if_neg y, if_neg y]
          exact ⟨_, 0, rfl, r6, fun e => (by cases e), fun e => (by cases e), (F.tr f5).tr f6⟩
end MN
