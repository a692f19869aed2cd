/-! NUMBERS, BITS, LOOPS: plain facts -/
abbrev ix (x : Int32) : Nat := x.toNatClampNeg
theorem ix_nI {n : Nat} (h : n < 2 ^ 31) : ix (nI n) = n := nI_clamp h
def b2i (b : Bool) : Int32 := if b then 1 else 0
theorem b2i_01 (b : Bool) : b2i b = 0 ∨ b2i b = 1 := by cases b <;> simp [b2i]
theorem b2i_0 {b : Bool} : b2i b = 0 ↔ b = false := by cases b <;> decide
theorem b2i_1 {b : Bool} : b2i b = 1 ↔ b = true := by cases b <;> decide
theorem b2i_t : b2i true = 1 := rfl
theorem b2i_f : b2i false = 0 := rfl
def allN (p : Nat → Bool) : Nat → Bool
  | 0 => true
  | n + 1 => allN p n && p n
theorem allN_iff {p : Nat → Bool} : ∀ {n : Nat}, allN p n = true ↔ ∀ k, k < n → p k = true
  | 0 => by simp [allN]
  | n + 1 => by
    rw [allN, Bool.and_eq_true, allN_iff]
    constructor
    · intro ⟨h1, h2⟩ k hk
      rcases Nat.lt_succ_iff_lt_or_eq.mp hk with h | h
      · exact h1 k h
      · rw [h]; exact h2
    · intro h
      exact ⟨fun k hk => h k (by omega), h n (by omega)⟩
theorem allN_false {p : Nat → Bool} {n : Nat} : allN p n = false ↔ ∃ k, k < n ∧ p k = false := by
  rw [← Bool.not_eq_true, allN_iff]
  constructor
  · intro h
    by_cases q : ∃ k, k < n ∧ p k = false
    · exact q
    · exact absurd (fun k hk => by
        cases hp : p k with
        | true => rfl
        | false => exact absurd ⟨k, hk, hp⟩ q) h
  · intro ⟨k, hk, hp⟩ h
    rw [h k hk] at hp
    cases hp
theorem allN_cong {p q : Nat → Bool} {n : Nat} (h : ∀ k, k < n → p k = q k) : allN p n = allN q n := by
  induction n with
  | zero => rfl
  | succ n ih => rw [allN, allN, ih (fun k hk => h k (by omega)), h n (by omega)]
/-- the first place -/
def fstN (p : Nat → Bool) : Nat → Option Nat
  | 0 => none
  | n + 1 => match fstN p n with
    | some k => some k
    | none => if p n then some n else none
theorem fstN_none {p : Nat → Bool} : ∀ {n : Nat}, fstN p n = none ↔ ∀ k, k < n → p k = false
  | 0 => by simp [fstN]
  | n + 1 => by
    rw [fstN]
    cases h : fstN p n with
    | some k =>
      simp only [reduceCtorEq, false_iff]
      intro q
      have := (fstN_none (p := p) (n := n)).mpr (fun k hk => q k (by omega))
      rw [h] at this
      cases this
    | none =>
      have ih := (fstN_none (p := p) (n := n)).mp h
      cases hp : p n with
      | true =>
        simp only [if_true, reduceCtorEq, false_iff]
        intro q
        rw [q n (by omega)] at hp
        cases hp
      | false =>
        simp only [Bool.false_eq_true, if_false, true_iff]
        intro k hk
        rcases Nat.lt_succ_iff_lt_or_eq.mp hk with h1 | h1
        · exact ih k h1
        · rw [h1]; exact hp
theorem fstN_some {p : Nat → Bool} : ∀ {n k : Nat}, fstN p n = some k ↔ k < n ∧ p k = true ∧ ∀ j, j < k → p j = false
  | 0, k => by simp [fstN]
  | n + 1, k => by
    rw [fstN]
    cases h : fstN p n with
    | some j =>
      obtain ⟨h1, h2, h3⟩ := (fstN_some (p := p) (n := n)).mp h
      simp only [Option.some.injEq]
      constructor
      · intro e
        subst e
        exact ⟨by omega, h2, h3⟩
      · intro ⟨g1, g2, g3⟩
        rcases Nat.lt_trichotomy j k with q | q | q
        · rw [g3 j q] at h2; cases h2
        · exact q
        · rw [h3 k q] at g2; cases g2
    | none =>
      have h0 := (fstN_none (p := p) (n := n)).mp h
      cases hp : p n with
      | true =>
        simp only [if_true, Option.some.injEq]
        constructor
        · intro e
          subst e
          exact ⟨by omega, hp, h0⟩
        · intro ⟨g1, g2, g3⟩
          rcases Nat.lt_succ_iff_lt_or_eq.mp g1 with q | q
          · rw [h0 k q] at g2; cases g2
          · exact q.symm
      | false =>
        simp only [Bool.false_eq_true, if_false, reduceCtorEq, false_iff]
        intro ⟨g1, g2, g3⟩
        rcases Nat.lt_succ_iff_lt_or_eq.mp g1 with q | q
        · rw [h0 k q] at g2; cases g2
        · rw [q, hp] at g2; cases g2
theorem fstN_cong {p q : Nat → Bool} {n : Nat} (h : ∀ k, k < n → p k = q k) : fstN p n = fstN q n := by
  induction n with
  | zero => rfl
  | succ n ih => rw [fstN, fstN, ih (fun k hk => h k (by omega)), h n (by omega)]
/-- a loop without an early end: the state before round k is acc k -/
theorem zloop {σ : Type} (F : Nat → Nat → σ → zR) (acc : Nat → σ) (b : Nat) (r : zR) (hend : ∀ n, F (n + 1) b (acc b) = r) (hstep : ∀ n k, k < b → F (n + 1) k (acc k) = F n (k + 1) (acc (k + 1))) : ∀ (fuel k : Nat), k ≤ b → b < fuel + k → F fuel k (acc k) = r := by
  intro fuel
  induction fuel with
  | zero => intro k h1 h2; omega
  | succ n ih =>
    intro k h1 h2
    rcases Nat.lt_or_ge k b with h | h
    · rw [hstep n k h]
      exact ih (k + 1) (by omega) (by omega)
    · have : k = b := by omega
      subst this
      exact hend n
/-- a loop with an early end at the first place where P holds -/
theorem zloopX {σ : Type} (F : Nat → Nat → σ → zR) (acc : Nat → σ) (b : Nat) (P : Nat → Bool) (ex : Nat → zR) (r : zR) (hend : ∀ n, F (n + 1) b (acc b) = r) (hstep : ∀ n k, k < b → P k = false → F (n + 1) k (acc k) = F n (k + 1) (acc (k + 1))) (hex : ∀ n k, k < b → P k = true → F (n + 1) k (acc k) = ex k) : ∀ (fuel k : Nat), k ≤ b → b < fuel + k → (∀ j, j < k → P j = false) → F fuel k (acc k) = match fstN P b with
    | some k => ex k
    | none => r := by
  intro fuel
  induction fuel with
  | zero => intro k h1 h2; omega
  | succ n ih =>
    intro k h1 h2 h3
    rcases Nat.lt_or_ge k b with h | h
    · cases hp : P k with
      | false =>
        rw [hstep n k h hp]
        refine ih (k + 1) (by omega) (by omega) (fun j hj => ?_)
        rcases Nat.lt_succ_iff_lt_or_eq.mp hj with q | q
        · exact h3 j q
        · rw [q]; exact hp
      | true =>
        rw [hex n k h hp, (fstN_some).mpr ⟨h, hp, h3⟩]
    · have : k = b := by omega
      subst this
      rw [hend n, (fstN_none).mpr h3]
/-- a loop that asks whether all are so -/
theorem zloopA {σ : Type} (F : Nat → Nat → σ → zR) (acc : Nat → σ) (b : Nat) (ok : Nat → Bool) (r1 r0 : zR) (hend : ∀ n, F (n + 1) b (acc b) = r1) (hstep : ∀ n k, k < b → ok k = true → F (n + 1) k (acc k) = F n (k + 1) (acc (k + 1))) (hex : ∀ n k, k < b → ok k = false → F (n + 1) k (acc k) = r0) (fuel : Nat) (hf : b < fuel) : F fuel 0 (acc 0) = if allN ok b then r1 else r0 := by
  rw [zloopX F acc b (fun k => !ok k) (fun _ => r0) r1 hend (fun n k h1 h2 => hstep n k h1 (by simpa using h2)) (fun n k h1 h2 => hex n k h1 (by simpa using h2)) fuel 0 (Nat.zero_le _) (by omega) (fun j hj => absurd hj (Nat.not_lt_zero j))]
  cases h : fstN (fun k => !ok k) b with
  | none =>
    have := fstN_none.mp h
    rw [if_pos (allN_iff.mpr (fun k hk => by simpa using this k hk))]
  | some k =>
    obtain ⟨h1, h2, -⟩ := fstN_some.mp h
    rw [if_neg (by rw [Bool.not_eq_true]; exact allN_false.mpr ⟨k, h1, by simpa using h2⟩)]
/-! bits -/
def hb (s : Int32) (i : Nat) : Bool := ((s >>> (nI i &&& 31)) &&& 1) == 1
def mkI (p : Nat → Bool) : Nat → Int32
  | 0 => 0
  | n + 1 => if p n then mkI p n ||| (1 <<< (nI n &&& 31)) else mkI p n
def mkN (p : Nat → Bool) : Nat → Nat
  | 0 => 0
  | n + 1 => if p n then mkN p n ||| 2 ^ n else mkN p n
theorem nI_or (a b : Nat) : nI a ||| nI b = nI (a ||| b) := by
  apply Int32.toBitVec_inj.mp
  show BitVec.ofNat 32 a ||| BitVec.ofNat 32 b = BitVec.ofNat 32 (a ||| b)
  apply BitVec.eq_of_getLsbD_eq
  intro i hi
  simp [BitVec.getLsbD_ofNat, hi]
theorem nI_and (a b : Nat) : nI a &&& nI b = nI (a &&& b) := by
  apply Int32.toBitVec_inj.mp
  show BitVec.ofNat 32 a &&& BitVec.ofNat 32 b = BitVec.ofNat 32 (a &&& b)
  apply BitVec.eq_of_getLsbD_eq
  intro i hi
  simp [BitVec.getLsbD_ofNat, hi]
theorem sh1 : ∀ n, n < 8 → (1 : Int32) <<< (nI n &&& 31) = nI (2 ^ n) := by decide +kernel
theorem sh1N : ∀ n, n < 9 → (1 : Int32) <<< (nI n &&& 31) = nI (2 ^ n) := by decide +kernel
theorem hb_nI : ∀ m, m < 256 → ∀ i, i < 8 → hb (nI m) i = m.testBit i := by decide +kernel
theorem mkN_lt (p : Nat → Bool) : ∀ n, mkN p n < 2 ^ n
  | 0 => by simp [mkN]
  | n + 1 => by
    have ih := mkN_lt p n
    rw [mkN]
    have h2 : 2 ^ (n + 1) = 2 * 2 ^ n := by rw [Nat.pow_succ]; omega
    split
    · refine Nat.or_lt_two_pow (by omega) (Nat.pow_lt_pow_right (by omega) (by omega))
    · omega
theorem mkN_bit (p : Nat → Bool) : ∀ n i, (mkN p n).testBit i = (decide (i < n) && p i)
  | 0, i => by simp [mkN]
  | n + 1, i => by
    rw [mkN]
    split
    · rename_i h
      rw [Nat.testBit_or, mkN_bit p n i, Nat.testBit_two_pow]
      rcases Nat.lt_trichotomy i n with q | q | q
      · simp [q, show i < n + 1 by omega, show ¬ n = i by omega]
      · subst q; simp [h]
      · simp [show ¬ i < n by omega, show ¬ i < n + 1 by omega, show ¬ n = i by omega]
    · rename_i h
      rw [mkN_bit p n i]
      rcases Nat.lt_trichotomy i n with q | q | q
      · simp [q, show i < n + 1 by omega]
      · subst q; simp [Bool.eq_false_iff.mpr h]
      · simp [show ¬ i < n by omega, show ¬ i < n + 1 by omega]
theorem mkI_nI (p : Nat → Bool) : ∀ n, n ≤ 8 → mkI p n = nI (mkN p n)
  | 0, _ => rfl
  | n + 1, h => by
    rw [mkI, mkN, mkI_nI p n (by omega)]
    split
    · rw [sh1 n (by omega), nI_or]
    · rfl
theorem mkN_256 (p : Nat → Bool) {n : Nat} (h : n ≤ 8) : mkN p n < 256 := Nat.lt_of_lt_of_le (mkN_lt p n) (by have := Nat.pow_le_pow_right (n := 2) (by omega) h; omega)
theorem hb_mkI (p : Nat → Bool) {n i : Nat} (h : n ≤ 8) (hi : i < 8) : hb (mkI p n) i = (decide (i < n) && p i) := by
  rw [mkI_nI p n h, hb_nI _ (mkN_256 p h) i hi, mkN_bit]
theorem mkI_cong {p q : Nat → Bool} {n : Nat} (h : ∀ k, k < n → p k = q k) : mkI p n = mkI q n := by
  induction n with
  | zero => rfl
  | succ n ih => rw [mkI, mkI, ih (fun k hk => h k (by omega)), h n (by omega)]
theorem or0 (x : Int32) : x ||| 0 = x := by
  apply Int32.toBitVec_inj.mp
  show x.toBitVec ||| 0#32 = x.toBitVec
  simp
