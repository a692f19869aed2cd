/-! SUMS: rows of unlike ones and sets -/
def sumN (f : Nat → Nat) : Nat → Nat
  | 0 => 0
  | k + 1 => sumN f k + f k
def b2n (b : Bool) : Nat := if b then 1 else 0
theorem cntN_b2n (p : Nat → Bool) (k : Nat) : cntN p (k + 1) = cntN p k + b2n (p k) := by
  rw [cntN]
  unfold b2n
  cases p k
  · rw [if_neg (by decide), if_neg (by decide)]; rfl
  · rw [if_pos rfl, if_pos rfl]
theorem sumN_cong {f g : Nat → Nat} : ∀ {b : Nat}, (∀ k, k < b → f k = g k) → sumN f b = sumN g b
  | 0, _ => rfl
  | b + 1, h => by rw [sumN, sumN, sumN_cong (fun k hk => h k (by omega)), h b (by omega)]
theorem sumN_add (f g : Nat → Nat) : ∀ b, sumN (fun k => f k + g k) b = sumN f b + sumN g b
  | 0 => rfl
  | b + 1 => by rw [sumN, sumN, sumN, sumN_add f g b]; omega
theorem sumN_mul (c : Nat) (f : Nat → Nat) : ∀ b, sumN (fun k => c * f k) b = c * sumN f b
  | 0 => rfl
  | b + 1 => by rw [sumN, sumN, sumN_mul c f b, Nat.mul_add]
theorem cntN_sum (p : Nat → Bool) : ∀ b, cntN p b = sumN (fun k => b2n (p k)) b
  | 0 => rfl
  | b + 1 => by rw [cntN_b2n, sumN, cntN_sum p b]
theorem sumN_0 : ∀ b, sumN (fun _ => 0) b = 0
  | 0 => rfl
  | b + 1 => by rw [sumN, sumN_0 b]
theorem sum_swap (P : Nat → Nat → Bool) (B : Nat) : ∀ b, sumN (fun r => cntN (P r) B) b = sumN (fun M => cntN (fun r => P r M) b) B
  | 0 => (sumN_0 B).symm
  | b + 1 => by
    rw [sumN, sum_swap P B b, cntN_sum (P b) B, ← sumN_add]
    exact sumN_cong (fun M _ => (cntN_b2n (fun r => P r M) b).symm)
theorem sumN_if (c : Nat) (C : Nat → Bool) : ∀ b, sumN (fun M => if C M then c else 0) b = c * cntN C b
  | 0 => rfl
  | b + 1 => by
    rw [sumN, sumN_if c C b, cntN]
    cases C b
    · rw [if_neg (by decide), if_neg (by decide)]; rfl
    · rw [if_pos rfl, if_pos rfl, Nat.mul_succ]
theorem cntN_add (f : Nat → Bool) (a : Nat) : ∀ r, cntN f (a + r) = cntN f a + cntN (fun i => f (a + i)) r
  | 0 => rfl
  | r + 1 => by
    show cntN f (a + r + 1) = _
    rw [cntN_b2n, cntN_add f a r, cntN_b2n]; omega
/-- figures to base b -/
theorem cnt_digits (H : Nat → Nat → Bool) {b : Nat} (hb : 0 < b) : ∀ N, cntN (fun c => H (c % b) (c / b)) (b * N) = sumN (fun r => cntN (H r) N) b
  | 0 => by rw [Nat.mul_zero]; exact (sumN_0 b).symm
  | N + 1 => by
    rw [Nat.mul_succ, cntN_add, cnt_digits H hb N, cntN_sum (fun i => H ((b * N + i) % b) ((b * N + i) / b)) b, ← sumN_add]
    refine sumN_cong (fun r hr => ?_)
    have e1 : (b * N + r) % b = r := by rw [Nat.mul_add_mod]; exact Nat.mod_eq_of_lt hr
    have e2 : (b * N + r) / b = N := by rw [Nat.mul_add_div hb, Nat.div_eq_of_lt hr, Nat.add_zero]
    rw [e1, e2, cntN_b2n]
theorem cnt_row (p q : Nat → Bool) (b : Nat) : ∀ k, k ≤ b → cntN (fun r => q (rowN p b r)) (cntN p k) = cntN (fun i => p i && q i) k
  | 0, _ => rfl
  | k + 1, h => by
    have ih := cnt_row p q b k (by omega)
    rw [cntN_b2n (fun i => p i && q i), ← ih]
    cases e : p k with
    | false =>
      rw [show cntN p (k + 1) = cntN p k by rw [cntN, e, if_neg (by decide)]]
      rfl
    | true =>
      rw [show cntN p (k + 1) = cntN p k + 1 by rw [cntN, e, if_pos rfl], cntN_b2n, (rowN_of p (show k < b by omega) e).2, Bool.true_and]
theorem cnt_split (p q : Nat → Bool) : ∀ b, (∀ i, i < b → q i = true → p i = true) → cntN (fun i => p i && !q i) b + cntN q b = cntN p b
  | 0, _ => rfl
  | b + 1, h => by
    have ih := cnt_split p q b (fun i hi => h i (by omega))
    rw [cntN_b2n, cntN_b2n, cntN_b2n, ← ih]
    cases hq : q b with
    | false => cases p b <;> (unfold b2n; simp; try omega)
    | true => rw [h b (by omega) hq]; unfold b2n; simp; omega
theorem pc_split {a s : Nat} (hs : s < 256) (h : subB s a = true) : pcount (andn a s) + pcount s = pcount a := by
  have := cnt_split (fun i => a.testBit i) (fun i => s.testBit i) 8 (fun i hi => (subB_iff hs).mp h i hi)
  unfold pcount
  rw [← this]
  congr 1
  exact cntN_cong (fun i hi => andn_bit hi)
theorem pc_single : ∀ i, i < 8 → pcount (2 ^ i) = 1 := by decide +kernel
theorem two_lt : ∀ i, i < 8 → 2 ^ i < 256 := by decide +kernel
theorem or_bit (a b i : Nat) : (a ||| b).testBit i = (a.testBit i || b.testBit i) := Nat.testBit_or a b i
theorem pc_add {a i : Nat} (ha : a < 256) (hi : i < 8) (h : a.testBit i = false) : pcount (a ||| 2 ^ i) = pcount a + 1 := by
  have e : andn (a ||| 2 ^ i) a = 2 ^ i := by
    refine eq8 (andn_lt _ _) (two_lt i hi) (fun j hj => ?_)
    rw [andn_bit hj, or_bit, bit_single]
    by_cases z : i = j
    · subst z; rw [h, decide_eq_true rfl]; rfl
    · rw [decide_eq_false z]; cases a.testBit j <;> rfl
  have := pc_split (a := a ||| 2 ^ i) ha ((subB_iff ha).mpr (fun j _ b => by rw [or_bit, b, Bool.true_or]))
  rw [e, pc_single i hi] at this
  omega
theorem cnt_one {p : Nat → Bool} {a : Nat} : ∀ {b : Nat}, (∀ k, k < b → p k = true → k = a) → a < b → cntN p b = b2n (p a)
  | 0, _, h => absurd h (Nat.not_lt_zero a)
  | b + 1, hp, h => by
    rw [cntN_b2n]
    by_cases e : a = b
    · subst e
      rw [show cntN p a = 0 from (cntN_stop (p := p) (Nat.zero_le a) (fun k _ hk => by
        cases q : p k with
        | false => rfl
        | true => have := hp k (by omega) q; omega))]
      omega
    · rw [cnt_one (fun k hk => hp k (by omega)) (by omega)]
      have : p b = false := by
        cases q : p b with
        | false => rfl
        | true => have := hp b (by omega) q; omega
      rw [this]; rfl
def fac : Nat → Nat
  | 0 => 1
  | k + 1 => (k + 1) * fac k
theorem fac_pos : ∀ k, 0 < fac k
  | 0 => by show 0 < 1; omega
  | k + 1 => Nat.mul_pos (by omega) (fac_pos k)
/-- a row of k by its number: are they unlike, and not in had; all of them -/
def lkU (b : Nat) (op : Nat → Nat) : Nat → Nat → Nat → Bool
  | 0, _, _ => true
  | k + 1, c, had => !had.testBit (op (c % b)) && lkU b op k (c / b) (had ||| 2 ^ op (c % b))
def lkM (b : Nat) (op : Nat → Nat) : Nat → Nat → Nat → Nat
  | 0, _, had => had
  | k + 1, c, had => lkM b op k (c / b) (had ||| 2 ^ op (c % b))
def setQ (fr k : Nat) (g : Nat → Bool) (had M : Nat) : Bool := (subB had M && subB M fr) && (decide (pcount M = pcount had + k) && g M)
theorem rows_sets {n : Nat} (hn : n ≤ 8) (p : Nat → Bool) (g : Nat → Bool) : ∀ k had, had < 256 → subB had (mkN p n) = true → cntN (fun c => lkU (cntN p n) (rowN p n) k c had && g (lkM (cntN p n) (rowN p n) k c had)) (cntN p n ^ k) = fac k * cntN (setQ (mkN p n) k g had) 256
  | 0, had, hh, hs => by
    have frl := mkN_256 p hn
    rw [Nat.pow_zero]
    have only : ∀ M, M < 256 → setQ (mkN p n) 0 g had M = true → M = had := by
      intro M hM q
      unfold setQ at q
      rw [Bool.and_eq_true, Bool.and_eq_true, Bool.and_eq_true, decide_eq_true_eq] at q
      have e := pc_split hh q.1.1
      have z := pc_0 (andn_lt M had) (by have := q.2.1; omega)
      refine eq8 hM hh (fun i hi => ?_)
      cases b : M.testBit i with
      | false =>
        cases b2 : had.testBit i with
        | false => rfl
        | true => rw [(subB_iff hh).mp q.1.1 i hi b2] at b; cases b
      | true => rw [(andn0 hM).mp z i hi b]
    rw [cnt_one only hh]
    have e : setQ (mkN p n) 0 g had had = g had := by
      unfold setQ
      rw [hs, show subB had had = true from (subB_iff hh).mpr (fun _ _ b => b), decide_eq_true (show pcount had = pcount had + 0 from rfl)]; rfl
    rw [e, show fac 0 = 1 from rfl, Nat.one_mul]
    rw [show (1 : Nat) = 0 + 1 from rfl, cntN_b2n]
    show 0 + b2n (true && g had) = _
    rw [Bool.true_and, Nat.zero_add]
  | k + 1, had, hh, hs => by
    have frl := mkN_256 p hn
    rcases Nat.eq_zero_or_pos (cntN p n) with hb | hb
    · -- no piece: no row, no set
      rw [hb, Nat.zero_pow (by omega)]
      have : cntN (setQ (mkN p n) (k + 1) g had) 256 = 0 := by
        refine cntN_stop (a := 0) (Nat.zero_le _) (fun M _ hM => ?_)
        cases q : setQ (mkN p n) (k + 1) g had M with
        | false => rfl
        | true =>
          unfold setQ at q
          rw [Bool.and_eq_true, Bool.and_eq_true, Bool.and_eq_true, decide_eq_true_eq] at q
          have m0 : pcount M = 0 := by
            refine cntN_stop (a := 0) (Nat.zero_le _) (fun i _ hi => ?_)
            cases b : M.testBit i with
            | false => rfl
            | true =>
              have := (subB_iff hM).mp q.1.2 i hi b
              rw [mkN_bit, Bool.and_eq_true, decide_eq_true_eq] at this
              have := (rowN_of p this.1 this.2).1
              omega
          have := q.2.1
          omega
      rw [this]; rfl
    · have step := cnt_digits (fun r q => !had.testBit (rowN p n r) && (lkU (cntN p n) (rowN p n) k q (had ||| 2 ^ rowN p n r) && g (lkM (cntN p n) (rowN p n) k q (had ||| 2 ^ rowN p n r)))) hb (cntN p n ^ k)
      rw [Nat.pow_succ, Nat.mul_comm (cntN p n ^ k)]
      have e1 : cntN (fun c => lkU (cntN p n) (rowN p n) (k + 1) c had && g (lkM (cntN p n) (rowN p n) (k + 1) c had)) (cntN p n * cntN p n ^ k) = cntN (fun c => (fun r q => !had.testBit (rowN p n r) && (lkU (cntN p n) (rowN p n) k q (had ||| 2 ^ rowN p n r) && g (lkM (cntN p n) (rowN p n) k q (had ||| 2 ^ rowN p n r)))) (c % cntN p n) (c / cntN p n)) (cntN p n * cntN p n ^ k) := by
        refine cntN_cong (fun c _ => ?_)
        show (!had.testBit (rowN p n (c % cntN p n)) && lkU (cntN p n) (rowN p n) k (c / cntN p n) (had ||| 2 ^ rowN p n (c % cntN p n)) && g (lkM (cntN p n) (rowN p n) k (c / cntN p n) (had ||| 2 ^ rowN p n (c % cntN p n)))) = _
        rw [Bool.and_assoc]
      rw [e1, step]
      -- by the first one
      have e2 : sumN (fun r => cntN (fun q => !had.testBit (rowN p n r) && (lkU (cntN p n) (rowN p n) k q (had ||| 2 ^ rowN p n r) && g (lkM (cntN p n) (rowN p n) k q (had ||| 2 ^ rowN p n r)))) (cntN p n ^ k)) (cntN p n) = sumN (fun r => fac k * cntN (fun M => !had.testBit (rowN p n r) && setQ (mkN p n) k g (had ||| 2 ^ rowN p n r) M) 256) (cntN p n) := by
        refine sumN_cong (fun r hr => ?_)
        obtain ⟨r1, r2, -⟩ := rowN_spec p n r hr
        have hlt : had ||| 2 ^ rowN p n r < 256 := or_lt256 hh (two_lt _ (by omega))
        have hsub : subB (had ||| 2 ^ rowN p n r) (mkN p n) = true := (subB_iff hlt).mpr (fun i hi b => by
          rw [or_bit, Bool.or_eq_true, bit_single, decide_eq_true_eq] at b
          rcases b with b | b
          · exact (subB_iff hh).mp hs i hi b
          · subst b; rw [mkN_bit, decide_eq_true r1, r2]; rfl)
        cases z : had.testBit (rowN p n r) with
        | true =>
          rw [show cntN (fun q => !true && (lkU (cntN p n) (rowN p n) k q (had ||| 2 ^ rowN p n r) && g (lkM (cntN p n) (rowN p n) k q (had ||| 2 ^ rowN p n r)))) (cntN p n ^ k) = 0 from cntN_stop (a := 0) (Nat.zero_le _) (fun _ _ _ => rfl), show cntN (fun M => !true && setQ (mkN p n) k g (had ||| 2 ^ rowN p n r) M) 256 = 0 from cntN_stop (a := 0) (Nat.zero_le _) (fun _ _ _ => rfl)]
          rfl
        | false => exact rows_sets hn p g k _ hlt hsub
      rw [e2, sumN_mul, sum_swap]
      -- by the set
      have e3 : sumN (fun M => cntN (fun r => !had.testBit (rowN p n r) && setQ (mkN p n) k g (had ||| 2 ^ rowN p n r) M) (cntN p n)) 256 = sumN (fun M => if setQ (mkN p n) (k + 1) g had M then k + 1 else 0) 256 := by
        refine sumN_cong (fun M hM => ?_)
        cases q : setQ (mkN p n) (k + 1) g had M with
        | false =>
          rw [if_neg (by decide)]
          refine cntN_stop (a := 0) (Nat.zero_le _) (fun r _ hr => ?_)
          obtain ⟨r1, r2, -⟩ := rowN_spec p n r hr
          cases z : (!had.testBit (rowN p n r) && setQ (mkN p n) k g (had ||| 2 ^ rowN p n r) M) with
          | false => rfl
          | true =>
            exfalso
            have hlt : had ||| 2 ^ rowN p n r < 256 := or_lt256 hh (two_lt _ (by omega))
            unfold setQ at z
            rw [Bool.and_eq_true, Bool.not_eq_true', Bool.and_eq_true, Bool.and_eq_true, Bool.and_eq_true, decide_eq_true_eq] at z
            obtain ⟨z0, ⟨z1, z2⟩, z3, z4⟩ := z
            rw [pc_add hh (by omega) z0] at z3
            have : setQ (mkN p n) (k + 1) g had M = true := by
              unfold setQ
              rw [z2, z4, show subB had M = true from (subB_iff hh).mpr (fun i hi b => (subB_iff hlt).mp z1 i hi (by rw [or_bit, b, Bool.true_or])), decide_eq_true (show pcount M = pcount had + (k + 1) by omega)]; rfl
            rw [this] at q; cases q
        | true =>
          rw [if_pos rfl]
          unfold setQ at q
          rw [Bool.and_eq_true, Bool.and_eq_true, Bool.and_eq_true, decide_eq_true_eq] at q
          obtain ⟨⟨z1, z2⟩, z3, z4⟩ := q
          have e4 : cntN (fun r => !had.testBit (rowN p n r) && setQ (mkN p n) k g (had ||| 2 ^ rowN p n r) M) (cntN p n) = cntN (fun r => (fun i => M.testBit i && !had.testBit i) (rowN p n r)) (cntN p n) := by
            refine cntN_cong (fun r hr => ?_)
            obtain ⟨r1, r2, -⟩ := rowN_spec p n r hr
            have hlt : had ||| 2 ^ rowN p n r < 256 := or_lt256 hh (two_lt _ (by omega))
            show _ = (M.testBit (rowN p n r) && !had.testBit (rowN p n r))
            cases z0 : had.testBit (rowN p n r) with
            | true => rw [Bool.not_true, Bool.false_and, Bool.and_false]
            | false =>
              rw [Bool.not_false, Bool.true_and, Bool.and_true]
              unfold setQ
              rw [z2, z4, pc_add hh (by omega) z0, decide_eq_true (show pcount M = pcount had + 1 + k by omega)]
              cases zm : M.testBit (rowN p n r) with
              | true =>
                rw [show subB (had ||| 2 ^ rowN p n r) M = true from (subB_iff hlt).mpr (fun i hi b => by
                  rw [or_bit, Bool.or_eq_true, bit_single, decide_eq_true_eq] at b
                  rcases b with b | b
                  · exact (subB_iff hh).mp z1 i hi b
                  · subst b; exact zm)]; rfl
              | false =>
                have : subB (had ||| 2 ^ rowN p n r) M = false := by
                  cases y : subB (had ||| 2 ^ rowN p n r) M with
                  | false => rfl
                  | true =>
                    have := (subB_iff hlt).mp y (rowN p n r) (by omega) (by rw [or_bit, bit_single, decide_eq_true rfl, Bool.or_true])
                    rw [zm] at this; cases this
                rw [this]; rfl
          have e6 := cnt_row p (fun i => M.testBit i && !had.testBit i) n n (Nat.le_refl _)
          have e5 : cntN (fun i => p i && (M.testBit i && !had.testBit i)) n = pcount (andn M had) := by
            unfold pcount
            have s := cntN_stop (p := fun i => (andn M had).testBit i) (a := n) (b := 8) hn (fun i h1 h2 => by
              rw [andn_bit h2]
              cases b : M.testBit i with
              | false => rfl
              | true =>
                have := (subB_iff hM).mp z2 i h2 b
                rw [mkN_bit, decide_eq_false (by omega)] at this; cases this)
            rw [s]
            refine cntN_cong (fun i hi => ?_)
            rw [andn_bit (by omega)]
            cases b : M.testBit i with
            | false => rw [Bool.false_and, Bool.and_false]
            | true =>
              have := (subB_iff hM).mp z2 i (by omega) b
              rw [mkN_bit, Bool.and_eq_true] at this
              rw [this.2, Bool.true_and]
          have := pc_split hh z1
          rw [e4]
          refine (e6.trans e5).trans ?_
          omega
      rw [e3, sumN_if, ← Nat.mul_assoc, Nat.mul_comm (fac k)]
      rfl
