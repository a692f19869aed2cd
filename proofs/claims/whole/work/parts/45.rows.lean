/-! ROWS: those below a bound that have a property, in order -/
def cntN (p : Nat → Bool) : Nat → Nat
  | 0 => 0
  | k + 1 => if p k then cntN p k + 1 else cntN p k
def rowN (p : Nat → Bool) : Nat → Nat → Nat
  | 0 => fun _ => 0
  | k + 1 => if p k then (fun i => if i = cntN p k then k else rowN p k i) else rowN p k
theorem cntN_le (p : Nat → Bool) : ∀ k, cntN p k ≤ k
  | 0 => Nat.le_refl _
  | k + 1 => by
    have := cntN_le p k
    rw [cntN]
    split <;> omega
theorem cntN_mono (p : Nat → Bool) {a : Nat} : ∀ {b : Nat}, a ≤ b → cntN p a ≤ cntN p b
  | 0, h => by rw [show a = 0 by omega]; exact Nat.le_refl _
  | b + 1, h => by
    by_cases e : a = b + 1
    · rw [e]; exact Nat.le_refl _
    · have := cntN_mono p (a := a) (b := b) (by omega)
      rw [cntN]
      split <;> omega
theorem cntN_cong {p q : Nat → Bool} : ∀ {b : Nat}, (∀ k, k < b → p k = q k) → cntN p b = cntN q b
  | 0, _ => rfl
  | b + 1, h => by rw [cntN, cntN, h b (by omega), cntN_cong (b := b) (fun k hk => h k (by omega))]
theorem rowN_cong {p q : Nat → Bool} : ∀ {b : Nat}, (∀ k, k < b → p k = q k) → rowN p b = rowN q b
  | 0, _ => rfl
  | b + 1, h => by rw [rowN, rowN, h b (by omega), rowN_cong (b := b) (fun k hk => h k (by omega)), cntN_cong (b := b) (fun k hk => h k (by omega))]
theorem rowN_spec (p : Nat → Bool) : ∀ b i, i < cntN p b → rowN p b i < b ∧ p (rowN p b i) = true ∧ cntN p (rowN p b i) = i
  | 0, i, h => absurd h (Nat.not_lt_zero i)
  | b + 1, i, h => by
    rw [cntN] at h
    rw [rowN]
    cases e : p b with
    | false =>
      rw [e, if_neg (by decide)] at h
      rw [if_neg (by decide)]
      obtain ⟨h1, h2, h3⟩ := rowN_spec p b i h
      exact ⟨by omega, h2, h3⟩
    | true =>
      rw [e, if_pos rfl] at h
      rw [if_pos rfl]
      show (if i = cntN p b then b else rowN p b i) < b + 1 ∧ p (if i = cntN p b then b else rowN p b i) = true ∧ cntN p (if i = cntN p b then b else rowN p b i) = i
      by_cases z : i = cntN p b
      · rw [if_pos z]; exact ⟨by omega, e, z.symm⟩
      · rw [if_neg z]
        obtain ⟨h1, h2, h3⟩ := rowN_spec p b i (by omega)
        exact ⟨by omega, h2, h3⟩
theorem rowN_of (p : Nat → Bool) {b k : Nat} (hk : k < b) (hp : p k = true) : cntN p k < cntN p b ∧ rowN p b (cntN p k) = k := by
  have h1 : cntN p (k + 1) = cntN p k + 1 := by rw [cntN, hp, if_pos rfl]
  have h2 := cntN_mono p (a := k + 1) (b := b) (by omega)
  refine ⟨by omega, ?_⟩
  obtain ⟨g1, g2, g3⟩ := rowN_spec p b (cntN p k) (by omega)
  generalize rowN p b (cntN p k) = j at g1 g2 g3
  have h3 : cntN p (j + 1) = cntN p j + 1 := by rw [cntN, g2, if_pos rfl]
  rcases Nat.lt_trichotomy j k with q | q | q
  · have := cntN_mono p (a := j + 1) (b := k) (by omega); omega
  · exact q
  · have := cntN_mono p (a := k + 1) (b := j) (by omega); omega
theorem rowN_inj (p : Nat → Bool) {b i j : Nat} (hi : i < cntN p b) (hj : j < cntN p b) (e : rowN p b i = rowN p b j) : i = j := by
  have h1 := (rowN_spec p b i hi).2.2
  have h2 := (rowN_spec p b j hj).2.2
  rw [e] at h1
  exact h1.symm.trans h2
/-- the row grows -/
theorem rowN_grow (p : Nat → Bool) {a b i : Nat} (h : a ≤ b) (hi : i < cntN p a) : rowN p b i = rowN p a i := by
  obtain ⟨g1, g2, g3⟩ := rowN_spec p a i hi
  have := (rowN_of p (b := b) (k := rowN p a i) (by omega) g2).2
  rw [g3] at this
  exact this
/-- fold along all, fold along the row -/
def folN {α : Type} (g : α → Nat → α) (a : α) (p : Nat → Bool) : Nat → α
  | 0 => a
  | k + 1 => if p k then g (folN g a p k) k else folN g a p k
def folR {α : Type} (g : α → Nat → α) (a : α) (r : Nat → Nat) : Nat → α
  | 0 => a
  | k + 1 => g (folR g a r k) (r k)
theorem fol_eq {α : Type} (g : α → Nat → α) (a : α) (p : Nat → Bool) (b : Nat) : ∀ k, k ≤ b → folN g a p k = folR g a (rowN p b) (cntN p k)
  | 0, _ => rfl
  | k + 1, h => by
    rw [folN, cntN, fol_eq g a p b k (by omega)]
    cases e : p k with
    | false => rw [if_neg (by decide), if_neg (by decide)]
    | true => rw [if_pos rfl, if_pos rfl, folR, (rowN_of p (b := b) (by omega) e).2]
/-- the first that is i-th -/
theorem fst_row (p : Nat → Bool) {b i : Nat} (hi : i < cntN p b) : fstN (fun k => p k && decide (cntN p k = i)) b = some (rowN p b i) := by
  obtain ⟨h1, h2, h3⟩ := rowN_spec p b i hi
  refine fstN_some.mpr ⟨h1, ?_, fun j hj => ?_⟩
  · show (p (rowN p b i) && decide (cntN p (rowN p b i) = i)) = true
    rw [h2, h3]; simp
  · show (p j && decide (cntN p j = i)) = false
    cases e : p j with
    | false => rfl
    | true =>
      have : cntN p (j + 1) = cntN p j + 1 := by rw [cntN, e, if_pos rfl]
      have := cntN_mono p (a := j + 1) (b := rowN p b i) (by omega)
      rw [Bool.true_and, decide_eq_false (by omega)]
/-- a loop that keeps whether all held -/
theorem zloopB (F : Nat → Nat → Int32 → zR) (ok : Nat → Bool) (b : Nat) (h : zH) (hend : ∀ n v, F (n + 1) b (b2i v) = rB v h) (h0 : ∀ n k, k < b → F (n + 1) k 0 = rB false h) (hstep : ∀ n k, k < b → F (n + 1) k 1 = F n (k + 1) (b2i (ok k))) (fuel : Nat) (hf : b < fuel) : F fuel 0 1 = rB (allN ok b) h := by
  have z := zloopX F (fun k => b2i (allN ok k)) b (fun k => !allN ok k) (fun _ => rB false h) (rB (allN ok b) h) (fun n => hend n _) (fun n k hk e => ?_) (fun n k hk e => ?_) fuel 0 (by omega) (by omega) (fun j hj => absurd hj (Nat.not_lt_zero j))
  · have z : F fuel 0 1 = match fstN (fun k => !allN ok k) b with
      | some k => rB false h
      | none => rB (allN ok b) h := z
    rw [z]
    cases e : fstN (fun k => !allN ok k) b with
    | none => rfl
    | some k =>
      obtain ⟨h1, h2, -⟩ := fstN_some.mp e
      have h2 : (!allN ok k) = true := h2
      have h3 : allN ok k = false := by simpa using h2
      obtain ⟨j, j1, j2⟩ := allN_false.mp h3
      show rB false h = rB (allN ok b) h
      rw [allN_false.mpr ⟨j, by omega, j2⟩]
  · have e : allN ok k = true := by simpa using e
    show F (n + 1) k (b2i (allN ok k)) = F n (k + 1) (b2i (allN ok (k + 1)))
    have e2 : allN ok (k + 1) = ok k := by
      cases q : ok k with
      | true => exact allN_iff.mpr (fun j hj => by
          by_cases z : j = k
          · rw [z]; exact q
          · exact allN_iff.mp e j (by omega))
      | false => exact allN_false.mpr ⟨k, by omega, q⟩
    rw [e, e2]; exact hstep n k hk
  · have e : allN ok k = false := by simpa using e
    show F (n + 1) k (b2i (allN ok k)) = rB false h
    rw [e]; exact h0 n k hk
theorem allN_s (p : Nat → Bool) (k : Nat) : allN p (k + 1) = (allN p k && p k) := by
  cases q : allN p k && p k with
  | true =>
    rw [Bool.and_eq_true] at q
    exact allN_iff.mpr (fun j hj => by
      by_cases z : j = k
      · rw [z]; exact q.2
      · exact allN_iff.mp q.1 j (by omega))
  | false =>
    rw [Bool.and_eq_false_iff] at q
    rcases q with q | q
    · obtain ⟨j, j1, j2⟩ := allN_false.mp q
      exact allN_false.mpr ⟨j, by omega, j2⟩
    · exact allN_false.mpr ⟨k, by omega, q⟩
