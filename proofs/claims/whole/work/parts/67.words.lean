/-! read: words -/
/-- the class's way: the word i stands at s, k letters long -/
def wdIs (t : Nat → Int32) (i s k : Nat) : Bool := decide (k = zLen.getD i 0) && allN (fun j => decide (t (s + j) = (zByt.getD i []).getD j 0)) (zLen.getD i 0)
theorem zch_b : ∀ i, i < 5 → ∀ j, j < zLen.getD i 0 → zch i (nI j) = (zByt.getD i []).getD j 0 := by decide +kernel
theorem zLen5 : ∀ i, i < 5 → zLen.getD i 0 ≤ 5 := by decide +kernel
theorem q_X5_isWord {h : zH} {x N i st sp : Nat} {t : Nat → Int32} {tk nm : Int32} (r : RR h x N tk st sp nm) (tx : TXc h x N t) (hN : N ≤ 150) (hi : i < 5) (h1 : st ≤ sp) (h2 : sp ≤ N) : f_X5_isWord (x + 74) i h = rB (wdIs t i st (sp - st)) h := by
  have l5 := zLen5 i hi
  have zl : ∀ K : Int32 → zR, zsl i h K = K (nI (zLen.getD i 0)) := fun K => by
    unfold zsl
    rw [if_pos hi]; rfl
  unfold f_X5_isWord f_X5_isWord_27 wdIs
  rw [zgI_eq r rfl, zgI_eq r rfl, if_neg (nI_nlt h2 (by omega)), zgI_eq r rfl, zgI_eq r rfl, zl, pk_sub h1]
  by_cases z : sp - st = zLen.getD i 0
  · rw [if_pos (by rw [z]), decide_eq_true z, Bool.true_and]
    have body : ∀ f j, j < zLen.getD i 0 → f_X5_isWord_31 (f + 1) (x + 74) i (nI j) h = if decide (t (st + j) = (zByt.getD i []).getD j 0) then f_X5_isWord_31 f (x + 74) i (nI (j + 1)) h else rB false h := by
      intro f j hj
      rw [f_X5_isWord_31, zl, if_neg (nI_ge hj (by omega)), zgR_eq r rfl, zgI_eq r rfl, nI_add, tx.ld hN (by omega)]
      have zc : ∀ K : Int32 → zR, zsch i (nI j) h K = K ((zByt.getD i []).getD j 0) := fun K => by
        unfold zsch
        rw [if_pos ⟨hi, inF hj (by omega)⟩, zch_b i hi j hj]
      rw [zc, nI_1, zrZ_0]
      by_cases y : t (st + j) = (zByt.getD i []).getD j 0
      · rw [if_pos y, if_pos (decide_eq_true y)]
      · rw [if_neg y, if_neg (by simpa using y)]
    refine (zloopA (fun f j (_ : Unit) => f_X5_isWord_31 f (x + 74) i (nI j) h) (fun _ => ()) (zLen.getD i 0) (fun j => decide (t (st + j) = (zByt.getD i []).getD j 0)) (rB true h) (rB false h) ?_ ?_ ?_ zF (by show zLen.getD i 0 < 20000; omega)).trans ?_
    · intro f
      rw [f_X5_isWord_31, zl, if_pos (Int32.le_refl _), zrZ_1]
    · intro f k hk hp
      rw [body f k hk, hp, if_pos rfl]
    · intro f k hk hp
      rw [body f k hk, hp, if_neg (by decide)]
    · cases allN (fun j => decide (t (st + j) = (zByt.getD i []).getD j 0)) (zLen.getD i 0) <;> rfl
  · rw [if_neg (fun e => z ((nI_eq (by omega) (by omega)).mp e)), decide_eq_false z, zrZ_0]; rfl
/-- letters as figures to base 32 -/
def hN (a : Nat → Nat) : Nat → Nat
  | 0 => 0
  | k + 1 => 32 * hN a k + a k
theorem hN_lt {a : Nat → Nat} : ∀ {k : Nat}, (∀ j, j < k → a j ≤ 26) → hN a k < 32 ^ k
  | 0, _ => by rw [hN]; decide
  | k + 1, h => by
    have := hN_lt (k := k) (fun j hj => h j (by omega))
    have := h k (by omega)
    rw [hN, Nat.pow_succ]
    omega
theorem wdV_nI {t : Nat → Int32} {s : Nat} {a : Nat → Nat} : ∀ {k : Nat}, k ≤ 6 → (∀ j, j < k → t (s + j) = nI (96 + a j) ∧ a j ≤ 26) → wdV t s k = nI (hN a k)
  | 0, _, _ => rfl
  | k + 1, hk, h => by
    rw [wdV, if_neg (by omega), wdV_nI (k := k) (by omega) (fun j hj => h j (by omega)), (h k (by omega)).1, hN]
    have : (32 : Int32) * nI (hN a k) + nI (96 + a k) = nI (32 * hN a k + (96 + a k)) := by rw [show (32 : Int32) = nI 32 from rfl, pk_mul, nI_add]
    rw [this, show (96 : Int32) = nI 96 from rfl, pk_sub (by omega), show 32 * hN a k + (96 + a k) - 96 = 32 * hN a k + a k by omega]
theorem seven7 {P : Nat → Prop} (h0 : P 0) (h1 : P 1) (h2 : P 2) (h3 : P 3) (h4 : P 4) (h5 : P 5) (h6 : P 6) : ∀ k, k ≤ 6 → P k := by
  intro k hk
  match k, hk with
  | 0, _ => exact h0
  | 1, _ => exact h1
  | 2, _ => exact h2
  | 3, _ => exact h3
  | 4, _ => exact h4
  | 5, _ => exact h5
  | 6, _ => exact h6
theorem wd_0 {a : Nat → Nat} : ∀ k, k ≤ 6 → (∀ j, j < k → 1 ≤ a j ∧ a j ≤ 26) → (hN a k = 146828 ↔ k = 4 ∧ a 0 = 4 ∧ a 1 = 15 ∧ a 2 = 12 ∧ a 3 = 12) := by
  refine seven7 ?_ ?_ ?_ ?_ ?_ ?_ ?_
  · intro ha
    simp only [hN, true_and]
    omega
  · intro ha
    have q0 := ha 0 (by omega)
    simp only [hN, true_and]
    omega
  · intro ha
    have q0 := ha 0 (by omega)
    have q1 := ha 1 (by omega)
    simp only [hN, true_and]
    omega
  · intro ha
    have q0 := ha 0 (by omega)
    have q1 := ha 1 (by omega)
    have q2 := ha 2 (by omega)
    simp only [hN, true_and]
    omega
  · intro ha
    have q0 := ha 0 (by omega)
    have q1 := ha 1 (by omega)
    have q2 := ha 2 (by omega)
    have q3 := ha 3 (by omega)
    simp only [hN, true_and]
    omega
  · intro ha
    have q0 := ha 0 (by omega)
    have q1 := ha 1 (by omega)
    have q2 := ha 2 (by omega)
    have q3 := ha 3 (by omega)
    have q4 := ha 4 (by omega)
    simp only [hN, true_and]
    omega
  · intro ha
    have q0 := ha 0 (by omega)
    have q1 := ha 1 (by omega)
    have q2 := ha 2 (by omega)
    have q3 := ha 3 (by omega)
    have q4 := ha 4 (by omega)
    have q5 := ha 5 (by omega)
    simp only [hN, true_and]
    omega
theorem wd_1 {a : Nat → Nat} : ∀ k, k ≤ 6 → (∀ j, j < k → 1 ≤ a j ∧ a j ≤ 26) → (hN a k = 17077349 ↔ k = 5 ∧ a 0 = 16 ∧ a 1 = 9 ∧ a 2 = 5 ∧ a 3 = 3 ∧ a 4 = 5) := by
  refine seven7 ?_ ?_ ?_ ?_ ?_ ?_ ?_
  · intro ha
    simp only [hN, true_and]
    omega
  · intro ha
    have q0 := ha 0 (by omega)
    simp only [hN, true_and]
    omega
  · intro ha
    have q0 := ha 0 (by omega)
    have q1 := ha 1 (by omega)
    simp only [hN, true_and]
    omega
  · intro ha
    have q0 := ha 0 (by omega)
    have q1 := ha 1 (by omega)
    have q2 := ha 2 (by omega)
    simp only [hN, true_and]
    omega
  · intro ha
    have q0 := ha 0 (by omega)
    have q1 := ha 1 (by omega)
    have q2 := ha 2 (by omega)
    have q3 := ha 3 (by omega)
    simp only [hN, true_and]
    omega
  · intro ha
    have q0 := ha 0 (by omega)
    have q1 := ha 1 (by omega)
    have q2 := ha 2 (by omega)
    have q3 := ha 3 (by omega)
    have q4 := ha 4 (by omega)
    simp only [hN, true_and]
    omega
  · intro ha
    have q0 := ha 0 (by omega)
    have q1 := ha 1 (by omega)
    have q2 := ha 2 (by omega)
    have q3 := ha 3 (by omega)
    have q4 := ha 4 (by omega)
    have q5 := ha 5 (by omega)
    simp only [hN, true_and]
    omega
theorem wd_2 {a : Nat → Nat} : ∀ k, k ≤ 6 → (∀ j, j < k → 1 ≤ a j ∧ a j ≤ 26) → (hN a k = 494 ↔ k = 2 ∧ a 0 = 15 ∧ a 1 = 14) := by
  refine seven7 ?_ ?_ ?_ ?_ ?_ ?_ ?_
  · intro ha
    simp only [hN, true_and]
    omega
  · intro ha
    have q0 := ha 0 (by omega)
    simp only [hN, true_and]
    omega
  · intro ha
    have q0 := ha 0 (by omega)
    have q1 := ha 1 (by omega)
    simp only [hN, true_and]
    omega
  · intro ha
    have q0 := ha 0 (by omega)
    have q1 := ha 1 (by omega)
    have q2 := ha 2 (by omega)
    simp only [hN, true_and]
    omega
  · intro ha
    have q0 := ha 0 (by omega)
    have q1 := ha 1 (by omega)
    have q2 := ha 2 (by omega)
    have q3 := ha 3 (by omega)
    simp only [hN, true_and]
    omega
  · intro ha
    have q0 := ha 0 (by omega)
    have q1 := ha 1 (by omega)
    have q2 := ha 2 (by omega)
    have q3 := ha 3 (by omega)
    have q4 := ha 4 (by omega)
    simp only [hN, true_and]
    omega
  · intro ha
    have q0 := ha 0 (by omega)
    have q1 := ha 1 (by omega)
    have q2 := ha 2 (by omega)
    have q3 := ha 3 (by omega)
    have q4 := ha 4 (by omega)
    have q5 := ha 5 (by omega)
    simp only [hN, true_and]
    omega
theorem wd_3 {a : Nat → Nat} : ∀ k, k ≤ 6 → (∀ j, j < k → 1 ≤ a j ∧ a j ≤ 26) → (hN a k = 15558 ↔ k = 3 ∧ a 0 = 15 ∧ a 1 = 6 ∧ a 2 = 6) := by
  refine seven7 ?_ ?_ ?_ ?_ ?_ ?_ ?_
  · intro ha
    simp only [hN, true_and]
    omega
  · intro ha
    have q0 := ha 0 (by omega)
    simp only [hN, true_and]
    omega
  · intro ha
    have q0 := ha 0 (by omega)
    have q1 := ha 1 (by omega)
    simp only [hN, true_and]
    omega
  · intro ha
    have q0 := ha 0 (by omega)
    have q1 := ha 1 (by omega)
    have q2 := ha 2 (by omega)
    simp only [hN, true_and]
    omega
  · intro ha
    have q0 := ha 0 (by omega)
    have q1 := ha 1 (by omega)
    have q2 := ha 2 (by omega)
    have q3 := ha 3 (by omega)
    simp only [hN, true_and]
    omega
  · intro ha
    have q0 := ha 0 (by omega)
    have q1 := ha 1 (by omega)
    have q2 := ha 2 (by omega)
    have q3 := ha 3 (by omega)
    have q4 := ha 4 (by omega)
    simp only [hN, true_and]
    omega
  · intro ha
    have q0 := ha 0 (by omega)
    have q1 := ha 1 (by omega)
    have q2 := ha 2 (by omega)
    have q3 := ha 3 (by omega)
    have q4 := ha 4 (by omega)
    have q5 := ha 5 (by omega)
    simp only [hN, true_and]
    omega
theorem wd_4 {a : Nat → Nat} : ∀ k, k ≤ 6 → (∀ j, j < k → 1 ≤ a j ∧ a j ≤ 26) → (hN a k = 431556 ↔ k = 4 ∧ a 0 = 13 ∧ a 1 = 5 ∧ a 2 = 14 ∧ a 3 = 4) := by
  refine seven7 ?_ ?_ ?_ ?_ ?_ ?_ ?_
  · intro ha
    simp only [hN, true_and]
    omega
  · intro ha
    have q0 := ha 0 (by omega)
    simp only [hN, true_and]
    omega
  · intro ha
    have q0 := ha 0 (by omega)
    have q1 := ha 1 (by omega)
    simp only [hN, true_and]
    omega
  · intro ha
    have q0 := ha 0 (by omega)
    have q1 := ha 1 (by omega)
    have q2 := ha 2 (by omega)
    simp only [hN, true_and]
    omega
  · intro ha
    have q0 := ha 0 (by omega)
    have q1 := ha 1 (by omega)
    have q2 := ha 2 (by omega)
    have q3 := ha 3 (by omega)
    simp only [hN, true_and]
    omega
  · intro ha
    have q0 := ha 0 (by omega)
    have q1 := ha 1 (by omega)
    have q2 := ha 2 (by omega)
    have q3 := ha 3 (by omega)
    have q4 := ha 4 (by omega)
    simp only [hN, true_and]
    omega
  · intro ha
    have q0 := ha 0 (by omega)
    have q1 := ha 1 (by omega)
    have q2 := ha 2 (by omega)
    have q3 := ha 3 (by omega)
    have q4 := ha 4 (by omega)
    have q5 := ha 5 (by omega)
    simp only [hN, true_and]
    omega
theorem wdIs_0 {t : Nat → Int32} {s k : Nat} (hl : ∀ j, j < k → ∃ a, 1 ≤ a ∧ a ≤ 26 ∧ t (s + j) = nI (96 + a)) : wdV t s k = 146828 ↔ wdIs t 0 s k = true := by
  have key : ∀ j, j < k → t (s + j) = nI (96 + (ix (t (s + j)) - 96)) ∧ 1 ≤ ix (t (s + j)) - 96 ∧ ix (t (s + j)) - 96 ≤ 26 := fun j hj => by
    obtain ⟨a, a1, a2, a3⟩ := hl j hj
    rw [a3, ix_nI (by omega), show 96 + a - 96 = a by omega]
    exact ⟨rfl, a1, a2⟩
  unfold wdIs
  rw [Bool.and_eq_true, decide_eq_true_eq, allN_iff, show zLen.getD 0 0 = 4 from rfl]
  rcases Nat.lt_or_ge 6 k with hk | hk
  · obtain ⟨k', rfl⟩ : ∃ k', k = k' + 1 := ⟨k - 1, by omega⟩
    rw [wdV, if_pos (by omega)]
    constructor
    · intro e; exact absurd e (by decide)
    · intro e; omega
  · rw [wdV_nI hk (fun j hj => ⟨(key j hj).1, (key j hj).2.2⟩), show (146828 : Int32) = nI 146828 from rfl]
    have hlt := hN_lt (a := fun j => ix (t (s + j)) - 96) (k := k) (fun j hj => (key j hj).2.2)
    have h6 : 32 ^ k ≤ 32 ^ 6 := Nat.pow_le_pow_right (by omega) hk
    rw [nI_eq (by omega) (by decide), wd_0 (a := fun j => ix (t (s + j)) - 96) k hk (fun j hj => (key j hj).2)]
    constructor
    · intro ⟨e0, e1, e2, e3, e4⟩
      refine ⟨e0, fun j hj => ?_⟩
      subst e0
      have hj : j < 4 := hj
      rcases (show j = 0 ∨ j = 1 ∨ j = 2 ∨ j = 3 by omega) with rfl | rfl | rfl | rfl
      · have := (key 0 (by omega)).1
        have e : ix (t (s + 0)) - 96 = 4 := e1
        rw [e] at this
        exact decide_eq_true this
      · have := (key 1 (by omega)).1
        have e : ix (t (s + 1)) - 96 = 15 := e2
        rw [e] at this
        exact decide_eq_true this
      · have := (key 2 (by omega)).1
        have e : ix (t (s + 2)) - 96 = 12 := e3
        rw [e] at this
        exact decide_eq_true this
      · have := (key 3 (by omega)).1
        have e : ix (t (s + 3)) - 96 = 12 := e4
        rw [e] at this
        exact decide_eq_true this
    · intro ⟨e0, e⟩
      subst e0
      refine ⟨rfl, ?_, ?_, ?_, ?_⟩
      · have := of_decide_eq_true (e 0 (by omega))
        show ix (t (s + 0)) - 96 = 4
        rw [this]; decide
      · have := of_decide_eq_true (e 1 (by omega))
        show ix (t (s + 1)) - 96 = 15
        rw [this]; decide
      · have := of_decide_eq_true (e 2 (by omega))
        show ix (t (s + 2)) - 96 = 12
        rw [this]; decide
      · have := of_decide_eq_true (e 3 (by omega))
        show ix (t (s + 3)) - 96 = 12
        rw [this]; decide
theorem wdIs_1 {t : Nat → Int32} {s k : Nat} (hl : ∀ j, j < k → ∃ a, 1 ≤ a ∧ a ≤ 26 ∧ t (s + j) = nI (96 + a)) : wdV t s k = 17077349 ↔ wdIs t 1 s k = true := by
  have key : ∀ j, j < k → t (s + j) = nI (96 + (ix (t (s + j)) - 96)) ∧ 1 ≤ ix (t (s + j)) - 96 ∧ ix (t (s + j)) - 96 ≤ 26 := fun j hj => by
    obtain ⟨a, a1, a2, a3⟩ := hl j hj
    rw [a3, ix_nI (by omega), show 96 + a - 96 = a by omega]
    exact ⟨rfl, a1, a2⟩
  unfold wdIs
  rw [Bool.and_eq_true, decide_eq_true_eq, allN_iff, show zLen.getD 1 0 = 5 from rfl]
  rcases Nat.lt_or_ge 6 k with hk | hk
  · obtain ⟨k', rfl⟩ : ∃ k', k = k' + 1 := ⟨k - 1, by omega⟩
    rw [wdV, if_pos (by omega)]
    constructor
    · intro e; exact absurd e (by decide)
    · intro e; omega
  · rw [wdV_nI hk (fun j hj => ⟨(key j hj).1, (key j hj).2.2⟩), show (17077349 : Int32) = nI 17077349 from rfl]
    have hlt := hN_lt (a := fun j => ix (t (s + j)) - 96) (k := k) (fun j hj => (key j hj).2.2)
    have h6 : 32 ^ k ≤ 32 ^ 6 := Nat.pow_le_pow_right (by omega) hk
    rw [nI_eq (by omega) (by decide), wd_1 (a := fun j => ix (t (s + j)) - 96) k hk (fun j hj => (key j hj).2)]
    constructor
    · intro ⟨e0, e1, e2, e3, e4, e5⟩
      refine ⟨e0, fun j hj => ?_⟩
      subst e0
      have hj : j < 5 := hj
      rcases (show j = 0 ∨ j = 1 ∨ j = 2 ∨ j = 3 ∨ j = 4 by omega) with rfl | rfl | rfl | rfl | rfl
      · have := (key 0 (by omega)).1
        have e : ix (t (s + 0)) - 96 = 16 := e1
        rw [e] at this
        exact decide_eq_true this
      · have := (key 1 (by omega)).1
        have e : ix (t (s + 1)) - 96 = 9 := e2
        rw [e] at this
        exact decide_eq_true this
      · have := (key 2 (by omega)).1
        have e : ix (t (s + 2)) - 96 = 5 := e3
        rw [e] at this
        exact decide_eq_true this
      · have := (key 3 (by omega)).1
        have e : ix (t (s + 3)) - 96 = 3 := e4
        rw [e] at this
        exact decide_eq_true this
      · have := (key 4 (by omega)).1
        have e : ix (t (s + 4)) - 96 = 5 := e5
        rw [e] at this
        exact decide_eq_true this
    · intro ⟨e0, e⟩
      subst e0
      refine ⟨rfl, ?_, ?_, ?_, ?_, ?_⟩
      · have := of_decide_eq_true (e 0 (by omega))
        show ix (t (s + 0)) - 96 = 16
        rw [this]; decide
      · have := of_decide_eq_true (e 1 (by omega))
        show ix (t (s + 1)) - 96 = 9
        rw [this]; decide
      · have := of_decide_eq_true (e 2 (by omega))
        show ix (t (s + 2)) - 96 = 5
        rw [this]; decide
      · have := of_decide_eq_true (e 3 (by omega))
        show ix (t (s + 3)) - 96 = 3
        rw [this]; decide
      · have := of_decide_eq_true (e 4 (by omega))
        show ix (t (s + 4)) - 96 = 5
        rw [this]; decide
theorem wdIs_2 {t : Nat → Int32} {s k : Nat} (hl : ∀ j, j < k → ∃ a, 1 ≤ a ∧ a ≤ 26 ∧ t (s + j) = nI (96 + a)) : wdV t s k = 494 ↔ wdIs t 2 s k = true := by
  have key : ∀ j, j < k → t (s + j) = nI (96 + (ix (t (s + j)) - 96)) ∧ 1 ≤ ix (t (s + j)) - 96 ∧ ix (t (s + j)) - 96 ≤ 26 := fun j hj => by
    obtain ⟨a, a1, a2, a3⟩ := hl j hj
    rw [a3, ix_nI (by omega), show 96 + a - 96 = a by omega]
    exact ⟨rfl, a1, a2⟩
  unfold wdIs
  rw [Bool.and_eq_true, decide_eq_true_eq, allN_iff, show zLen.getD 2 0 = 2 from rfl]
  rcases Nat.lt_or_ge 6 k with hk | hk
  · obtain ⟨k', rfl⟩ : ∃ k', k = k' + 1 := ⟨k - 1, by omega⟩
    rw [wdV, if_pos (by omega)]
    constructor
    · intro e; exact absurd e (by decide)
    · intro e; omega
  · rw [wdV_nI hk (fun j hj => ⟨(key j hj).1, (key j hj).2.2⟩), show (494 : Int32) = nI 494 from rfl]
    have hlt := hN_lt (a := fun j => ix (t (s + j)) - 96) (k := k) (fun j hj => (key j hj).2.2)
    have h6 : 32 ^ k ≤ 32 ^ 6 := Nat.pow_le_pow_right (by omega) hk
    rw [nI_eq (by omega) (by decide), wd_2 (a := fun j => ix (t (s + j)) - 96) k hk (fun j hj => (key j hj).2)]
    constructor
    · intro ⟨e0, e1, e2⟩
      refine ⟨e0, fun j hj => ?_⟩
      subst e0
      have hj : j < 2 := hj
      rcases (show j = 0 ∨ j = 1 by omega) with rfl | rfl
      · have := (key 0 (by omega)).1
        have e : ix (t (s + 0)) - 96 = 15 := e1
        rw [e] at this
        exact decide_eq_true this
      · have := (key 1 (by omega)).1
        have e : ix (t (s + 1)) - 96 = 14 := e2
        rw [e] at this
        exact decide_eq_true this
    · intro ⟨e0, e⟩
      subst e0
      refine ⟨rfl, ?_, ?_⟩
      · have := of_decide_eq_true (e 0 (by omega))
        show ix (t (s + 0)) - 96 = 15
        rw [this]; decide
      · have := of_decide_eq_true (e 1 (by omega))
        show ix (t (s + 1)) - 96 = 14
        rw [this]; decide
theorem wdIs_3 {t : Nat → Int32} {s k : Nat} (hl : ∀ j, j < k → ∃ a, 1 ≤ a ∧ a ≤ 26 ∧ t (s + j) = nI (96 + a)) : wdV t s k = 15558 ↔ wdIs t 3 s k = true := by
  have key : ∀ j, j < k → t (s + j) = nI (96 + (ix (t (s + j)) - 96)) ∧ 1 ≤ ix (t (s + j)) - 96 ∧ ix (t (s + j)) - 96 ≤ 26 := fun j hj => by
    obtain ⟨a, a1, a2, a3⟩ := hl j hj
    rw [a3, ix_nI (by omega), show 96 + a - 96 = a by omega]
    exact ⟨rfl, a1, a2⟩
  unfold wdIs
  rw [Bool.and_eq_true, decide_eq_true_eq, allN_iff, show zLen.getD 3 0 = 3 from rfl]
  rcases Nat.lt_or_ge 6 k with hk | hk
  · obtain ⟨k', rfl⟩ : ∃ k', k = k' + 1 := ⟨k - 1, by omega⟩
    rw [wdV, if_pos (by omega)]
    constructor
    · intro e; exact absurd e (by decide)
    · intro e; omega
  · rw [wdV_nI hk (fun j hj => ⟨(key j hj).1, (key j hj).2.2⟩), show (15558 : Int32) = nI 15558 from rfl]
    have hlt := hN_lt (a := fun j => ix (t (s + j)) - 96) (k := k) (fun j hj => (key j hj).2.2)
    have h6 : 32 ^ k ≤ 32 ^ 6 := Nat.pow_le_pow_right (by omega) hk
    rw [nI_eq (by omega) (by decide), wd_3 (a := fun j => ix (t (s + j)) - 96) k hk (fun j hj => (key j hj).2)]
    constructor
    · intro ⟨e0, e1, e2, e3⟩
      refine ⟨e0, fun j hj => ?_⟩
      subst e0
      have hj : j < 3 := hj
      rcases (show j = 0 ∨ j = 1 ∨ j = 2 by omega) with rfl | rfl | rfl
      · have := (key 0 (by omega)).1
        have e : ix (t (s + 0)) - 96 = 15 := e1
        rw [e] at this
        exact decide_eq_true this
      · have := (key 1 (by omega)).1
        have e : ix (t (s + 1)) - 96 = 6 := e2
        rw [e] at this
        exact decide_eq_true this
      · have := (key 2 (by omega)).1
        have e : ix (t (s + 2)) - 96 = 6 := e3
        rw [e] at this
        exact decide_eq_true this
    · intro ⟨e0, e⟩
      subst e0
      refine ⟨rfl, ?_, ?_, ?_⟩
      · have := of_decide_eq_true (e 0 (by omega))
        show ix (t (s + 0)) - 96 = 15
        rw [this]; decide
      · have := of_decide_eq_true (e 1 (by omega))
        show ix (t (s + 1)) - 96 = 6
        rw [this]; decide
      · have := of_decide_eq_true (e 2 (by omega))
        show ix (t (s + 2)) - 96 = 6
        rw [this]; decide
theorem wdIs_4 {t : Nat → Int32} {s k : Nat} (hl : ∀ j, j < k → ∃ a, 1 ≤ a ∧ a ≤ 26 ∧ t (s + j) = nI (96 + a)) : wdV t s k = 431556 ↔ wdIs t 4 s k = true := by
  have key : ∀ j, j < k → t (s + j) = nI (96 + (ix (t (s + j)) - 96)) ∧ 1 ≤ ix (t (s + j)) - 96 ∧ ix (t (s + j)) - 96 ≤ 26 := fun j hj => by
    obtain ⟨a, a1, a2, a3⟩ := hl j hj
    rw [a3, ix_nI (by omega), show 96 + a - 96 = a by omega]
    exact ⟨rfl, a1, a2⟩
  unfold wdIs
  rw [Bool.and_eq_true, decide_eq_true_eq, allN_iff, show zLen.getD 4 0 = 4 from rfl]
  rcases Nat.lt_or_ge 6 k with hk | hk
  · obtain ⟨k', rfl⟩ : ∃ k', k = k' + 1 := ⟨k - 1, by omega⟩
    rw [wdV, if_pos (by omega)]
    constructor
    · intro e; exact absurd e (by decide)
    · intro e; omega
  · rw [wdV_nI hk (fun j hj => ⟨(key j hj).1, (key j hj).2.2⟩), show (431556 : Int32) = nI 431556 from rfl]
    have hlt := hN_lt (a := fun j => ix (t (s + j)) - 96) (k := k) (fun j hj => (key j hj).2.2)
    have h6 : 32 ^ k ≤ 32 ^ 6 := Nat.pow_le_pow_right (by omega) hk
    rw [nI_eq (by omega) (by decide), wd_4 (a := fun j => ix (t (s + j)) - 96) k hk (fun j hj => (key j hj).2)]
    constructor
    · intro ⟨e0, e1, e2, e3, e4⟩
      refine ⟨e0, fun j hj => ?_⟩
      subst e0
      have hj : j < 4 := hj
      rcases (show j = 0 ∨ j = 1 ∨ j = 2 ∨ j = 3 by omega) with rfl | rfl | rfl | rfl
      · have := (key 0 (by omega)).1
        have e : ix (t (s + 0)) - 96 = 13 := e1
        rw [e] at this
        exact decide_eq_true this
      · have := (key 1 (by omega)).1
        have e : ix (t (s + 1)) - 96 = 5 := e2
        rw [e] at this
        exact decide_eq_true this
      · have := (key 2 (by omega)).1
        have e : ix (t (s + 2)) - 96 = 14 := e3
        rw [e] at this
        exact decide_eq_true this
      · have := (key 3 (by omega)).1
        have e : ix (t (s + 3)) - 96 = 4 := e4
        rw [e] at this
        exact decide_eq_true this
    · intro ⟨e0, e⟩
      subst e0
      refine ⟨rfl, ?_, ?_, ?_, ?_⟩
      · have := of_decide_eq_true (e 0 (by omega))
        show ix (t (s + 0)) - 96 = 13
        rw [this]; decide
      · have := of_decide_eq_true (e 1 (by omega))
        show ix (t (s + 1)) - 96 = 5
        rw [this]; decide
      · have := of_decide_eq_true (e 2 (by omega))
        show ix (t (s + 2)) - 96 = 14
        rw [this]; decide
      · have := of_decide_eq_true (e 3 (by omega))
        show ix (t (s + 3)) - 96 = 4
        rw [this]; decide
