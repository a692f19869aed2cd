/-! few: rows of moves, by their numbers -/
abbrev dgt (n m c t : Nat) : Nat := c / (3 * n) ^ (m - 1 - t) % (3 * n)
abbrev mvd (W : Wr) (n d : Nat) : Wr := moveW W (wL W) (nI (d / n)) (d % n)
def okRow (S : Sd) (n : Nat) : Nat → Wr → Nat → Bool
  | 0, W, _ => dressed S W (wL W)
  | m + 1, W, c => canMove S W (wL W) (nI (c / (3 * n) ^ m % (3 * n) / n)) (c / (3 * n) ^ m % (3 * n) % n) && okRow S n m (mvd W n (c / (3 * n) ^ m % (3 * n))) c
def dig (n m c t : Nat) : Int32 := 10 * nI (dgt n m c t / n) + nI (dgt n m c t % n)
theorem okRow_low {S : Sd} {n : Nat} (hn : 0 < n) : ∀ (m : Nat) (W : Wr) (d r : Nat), okRow S n m W (d * (3 * n) ^ m + r) = okRow S n m W r
  | 0, _, _, _ => rfl
  | m + 1, W, d, r => by
    have bp : 0 < (3 * n) ^ m := Nat.pow_pos (by omega)
    have e1 : (d * (3 * n) ^ (m + 1) + r) / (3 * n) ^ m % (3 * n) = r / (3 * n) ^ m % (3 * n) := by
      rw [Nat.pow_succ, Nat.mul_comm ((3 * n) ^ m), ← Nat.mul_assoc, Nat.mul_comm (d * (3 * n)), Nat.mul_add_div bp, Nat.mul_comm d, Nat.mul_add_mod]
    have e2 : ∀ W, okRow S n m W (d * (3 * n) ^ (m + 1) + r) = okRow S n m W r := fun W => by
      rw [Nat.pow_succ, Nat.mul_comm ((3 * n) ^ m), ← Nat.mul_assoc]
      exact okRow_low hn m W _ r
    rw [okRow, okRow, e1, e2]
theorem okRow_split {S : Sd} {n m d r : Nat} {W : Wr} (hn : 0 < n) (hd : d < 3 * n) (hr : r < (3 * n) ^ m) : okRow S n (m + 1) W (d * (3 * n) ^ m + r) = (canMove S W (wL W) (nI (d / n)) (d % n) && okRow S n m (mvd W n d) r) := by
  have bp : 0 < (3 * n) ^ m := Nat.pow_pos (by omega)
  have e : (d * (3 * n) ^ m + r) / (3 * n) ^ m % (3 * n) = d := by
    rw [Nat.mul_comm, Nat.mul_add_div bp, Nat.div_eq_of_lt hr, Nat.add_zero, Nat.mod_eq_of_lt hd]
  rw [okRow, e, okRow_low hn]
theorem dig_top {n m d r : Nat} (hn : 0 < n) (hd : d < 3 * n) (hr : r < (3 * n) ^ m) : dig n (m + 1) (d * (3 * n) ^ m + r) 0 = 10 * nI (d / n) + nI (d % n) := by
  have bp : 0 < (3 * n) ^ m := Nat.pow_pos (by omega)
  unfold dig dgt
  rw [show m + 1 - 1 - 0 = m by omega, Nat.mul_comm d, Nat.mul_add_div bp, Nat.div_eq_of_lt hr, Nat.add_zero, Nat.mod_eq_of_lt hd]
theorem dig_low {n m d r t : Nat} (hn : 0 < n) (ht : t < m) : dig n (m + 1) (d * (3 * n) ^ m + r) (t + 1) = dig n m r t := by
  have bp : 0 < (3 * n) ^ (m - 1 - t) := Nat.pow_pos (by omega)
  unfold dig dgt
  have e : (d * (3 * n) ^ m + r) / (3 * n) ^ (m - 1 - t) % (3 * n) = r / (3 * n) ^ (m - 1 - t) % (3 * n) := by
    have e1 : (3 * n) ^ m = (3 * n) ^ (m - 1 - t) * ((3 * n) * (3 * n) ^ t) := by
      rw [← Nat.pow_succ', ← Nat.pow_add, show m - 1 - t + (t + 1) = m by omega]
    rw [e1, Nat.mul_comm d, Nat.mul_assoc, Nat.mul_add_div bp, Nat.mul_assoc, Nat.mul_add_mod]
  rw [show m + 1 - 1 - (t + 1) = m - 1 - t by omega, e]
theorem wh3 {n d : Nat} (hd : d < 3 * n) : nI (d / n) = 0 ∨ nI (d / n) = 1 ∨ nI (d / n) = 2 := by
  have hn : 0 < n := by omega
  have : d / n < 3 := (Nat.div_lt_iff_lt_mul hn).mpr hd
  generalize d / n = z at this ⊢
  rcases (show z = 0 ∨ z = 1 ∨ z = 2 by omega) with q | q | q <;> rw [q]
  · exact Or.inl rfl
  · exact Or.inr (Or.inl rfl)
  · exact Or.inr (Or.inr rfl)
/-! what lies beyond eight doesn't matter -/
theorem canMove_eq {n L i : Nat} {S : Sd} {V W : Wr} (o : okW n L V) (h8 : n ≤ 8) (e : eqW V W) (hi : i < n) (what : Int32) : canMove S W L what i = canMove S V L what i := by
  have hL : L ≤ 8 := Nat.le_trans o.2.1 h8
  obtain ⟨e1, e2, e3, e4⟩ := e
  unfold canMove
  split
  · unfold canPut
    rw [e2 i (by omega), allN_cong (p := fun k => !decide (W.1 k = nI i)) (q := fun k => !decide (V.1 k = nI i)) (fun k hk => by rw [e1 k (by omega)]), allN_cong (p := fun k => sMat S i (ix (W.1 k))) (q := fun k => sMat S i (ix (V.1 k))) (fun k hk => by rw [e1 k (by omega)])]
  · split
    · unfold canTake
      rw [fstN_cong (p := fun k => decide (W.1 k = nI i)) (q := fun k => decide (V.1 k = nI i)) (fun k hk => by rw [e1 k (by omega)])]
      cases hp : fstN (fun k => decide (V.1 k = nI i)) L with
      | none => rfl
      | some p =>
        have := (fstN_some.mp hp).1
        exact allN_cong (fun k hk => by rw [e1 _ (by omega)])
    · rw [e2 i (by omega)]
theorem moveW_eq {n L i : Nat} {V W : Wr} (o : okW n L V) (h8 : n ≤ 8) (e : eqW V W) (what : Int32) : eqW (moveW V L what i) (moveW W L what i) := by
  have hL : L ≤ 8 := Nat.le_trans o.2.1 h8
  obtain ⟨e1, e2, e3, e4⟩ := id e
  unfold moveW
  split
  · refine ⟨fun k hk => ?_, fun k hk => ?_, by show V.2.2.1 + 1 = W.2.2.1 + 1; rw [e3], by show V.2.2.2 + 1 = W.2.2.2 + 1; rw [e4]⟩
    · show upd V.1 L (nI i) k = upd W.1 L (nI i) k
      by_cases z : k = L
      · subst z; rw [upd_self, upd_self]
      · rw [upd_ne _ _ z, upd_ne _ _ z]; exact e1 k hk
    · show upd V.2.1 i (V.2.1 i + 1) k = upd W.2.1 i (W.2.1 i + 1) k
      by_cases z : k = i
      · subst z; rw [upd_self, upd_self, e2 k hk]
      · rw [upd_ne _ _ z, upd_ne _ _ z]; exact e2 k hk
  · split
    · rw [fstN_cong (p := fun k => decide (W.1 k = nI i)) (q := fun k => decide (V.1 k = nI i)) (fun k hk => by rw [e1 k (by omega)])]
      cases hp : fstN (fun k => decide (V.1 k = nI i)) L with
      | none => exact e
      | some p =>
        refine ⟨fun k hk => ?_, e2, by show V.2.2.1 - 1 = W.2.2.1 - 1; rw [e3], by show V.2.2.2 + 1 = W.2.2.2 + 1; rw [e4]⟩
        show shf V.1 p (L - 1) k = shf W.1 p (L - 1) k
        unfold shf
        by_cases z : p ≤ k ∧ k < L - 1
        · rw [if_pos z, if_pos z]; exact e1 (k + 1) (by omega)
        · rw [if_neg z, if_neg z]; exact e1 k hk
    · refine ⟨e1, fun k hk => ?_, e3, by show V.2.2.2 + 1 = W.2.2.2 + 1; rw [e4]⟩
      show upd V.2.1 i 0 k = upd W.2.1 i 0 k
      by_cases z : k = i
      · subst z; rw [upd_self, upd_self]
      · rw [upd_ne _ _ z, upd_ne _ _ z]; exact e2 k hk
theorem sCd_cong {S : Sd} {f g : Nat → Int32} : ∀ {L : Nat}, (∀ k, k < L → f k = g k) → sCd S f L = sCd S g L
  | 0, _ => rfl
  | L + 1, h => by rw [sCd, sCd, sCd_cong (fun k hk => h k (by omega)), h L (by omega)]
theorem eqW.wl {V W : Wr} (e : eqW V W) : wL W = wL V := by show ix W.2.2.1 = ix V.2.2.1; rw [e.2.2.1]
theorem okRow_eq {S : Sd} {n : Nat} (h8 : n ≤ 8) (hn : 0 < n) : ∀ (m : Nat) (V W : Wr) (c : Nat), okW n (wL V) V → eqW V W → okRow S n m W c = okRow S n m V c := by
  intro m
  induction m with
  | zero =>
    intro V W c o e
    have hL : wL V ≤ 8 := Nat.le_trans o.2.1 h8
    show dressed S W (wL W) = dressed S V (wL V)
    unfold dressed
    rw [e.wl, sCd_cong (fun k hk => (e.1 k (by omega)).symm)]
  | succ m ih =>
    intro V W c o e
    have hd : c / (3 * n) ^ m % (3 * n) < 3 * n := Nat.mod_lt _ (by omega)
    rw [okRow, okRow]
    generalize c / (3 * n) ^ m % (3 * n) = d at hd ⊢
    have hi : d % n < n := Nat.mod_lt _ hn
    have hw := wh3 hd
    unfold mvd
    generalize nI (d / n) = what at hw ⊢
    generalize d % n = i at hi ⊢
    rw [e.wl, canMove_eq o h8 e hi]
    cases q : canMove S V (wL V) what i with
    | false => rfl
    | true =>
      have k := o.move h8 hi hw (Or.inl q)
      have k2 : okW n (wL (moveW V (wL V) what i)) (moveW V (wL V) what i) := by rw [k.wl h8]; exact k
      rw [Bool.true_and, Bool.true_and]
      exact ih _ _ c k2 (moveW_eq o h8 e _)
theorem fstN_stop {p : Nat → Bool} {a b : Nat} (h : a ≤ b) (hp : ∀ k, a ≤ k → k < b → p k = false) : fstN p b = fstN p a := by
  cases q : fstN p a with
  | none =>
    have := fstN_none.mp q
    exact fstN_none.mpr (fun k hk => by
      rcases Nat.lt_or_ge k a with z | z
      · exact this k z
      · exact hp k z hk)
  | some k =>
    obtain ⟨h1, h2, h3⟩ := fstN_some.mp q
    exact fstN_some.mpr ⟨by omega, h2, h3⟩
/-- the last of a shortest row puts a piece on -/
theorem last_put {S : Sd} {n d : Nat} {W : Wr} (ok : okS n S) (o : okW n (wL W) W) (h0 : dressed S W (wL W) = false) (hd : d < 3 * n) (h1 : n ≤ d) : okRow S n 1 W d = false := by
  have h8 := ok.2.1
  have hn : 0 < n := by omega
  have hi : d % n < n := Nat.mod_lt _ hn
  have e : d / (3 * n) ^ 0 % (3 * n) = d := by rw [Nat.pow_zero, Nat.div_one, Nat.mod_eq_of_lt hd]
  rw [okRow, e]
  cases q : canMove S W (wL W) (nI (d / n)) (d % n) with
  | false => rfl
  | true =>
    rw [Bool.true_and]
    show dressed S (mvd W n d) (wL (mvd W n d)) = false
    have k := o.move h8 hi (wh3 hd) (Or.inl q)
    unfold mvd
    rw [k.wl h8]
    have h3 : d / n < 3 := (Nat.div_lt_iff_lt_mul hn).mpr hd
    have h4 : 1 ≤ d / n := (Nat.le_div_iff_mul_le hn).mpr (by omega)
    rcases (show d / n = 1 ∨ d / n = 2 by omega) with z | z
    · rw [z] at q ⊢
      obtain ⟨p, hp⟩ := canTake_at (show canTake S W (wL W) (d % n) = true from q)
      obtain ⟨p1, p2, p3⟩ := fstN_some.mp hp
      have em : moveW W (wL W) (nI 1) (d % n) = (shf W.1 p (wL W - 1), W.2.1, W.2.2.1 - 1, W.2.2.2 + 1) := by
        unfold moveW
        rw [if_neg (by decide), if_pos (show nI 1 = 1 from rfl), hp]
      rw [em]
      show dressed S (shf W.1 p (wL W - 1), W.2.1, W.2.2.1 - 1, W.2.2.2 + 1) (wL W - 1) = false
      cases q2 : dressed S (shf W.1 p (wL W - 1), W.2.1, W.2.2.1 - 1, W.2.2.2 + 1) (wL W - 1) with
      | false => rfl
      | true =>
        unfold dressed at q2 h0
        have e15 : sCd S (shf W.1 p (wL W - 1)) (wL W - 1) = 15 := of_decide_eq_true q2
        have : sCd S W.1 (wL W) = 15 := by
          have lo : ∀ L (f : Nat → Int32), (∀ k, k < L → ∃ j, j < wL W ∧ f k = W.1 j) → ∀ b, b < 32 → gb (sCd S f L) b = true → gb (sCd S W.1 (wL W)) b = true := by
            intro L f hf b _ hb
            obtain ⟨k, hk, hg⟩ := (gb_sCd S f b L).mp hb
            obtain ⟨j, hj, ej⟩ := hf k hk
            exact (gb_sCd S W.1 b (wL W)).mpr ⟨j, hj, by rw [← ej]; exact hg⟩
          have up : sCd S W.1 (wL W) = nI (cvT S.2.2.1 (oN W.1 (wL W)) n) := by rw [← cover_eq ok o, (o.onN h8).1, sSet_cvT (o.onN h8).2 h8]
          have l16 := cvT_lt S.2.2.1 (oN W.1 (wL W)) n
          rw [up]
          refine (i15 l16).mpr ?_
          have b15 : ∀ b, (15 : Nat).testBit b = decide (b < 4) := fun b => Nat.testBit_two_pow_sub_one 4 b
          apply Nat.eq_of_testBit_eq
          intro b
          rw [b15]
          rcases Nat.lt_or_ge b 4 with y | y
          · rw [decide_eq_true y]
            have := lo (wL W - 1) (shf W.1 p (wL W - 1)) (fun k hk => by
              unfold shf
              by_cases w : p ≤ k ∧ k < wL W - 1
              · rw [if_pos w]; exact ⟨k + 1, by omega, rfl⟩
              · rw [if_neg w]; exact ⟨k, by omega, rfl⟩) b (by omega) (by
                rw [e15]
                show gb (nI 15) b = true
                rw [gb_nI _ (by omega), b15, decide_eq_true y])
            rw [up, gb_nI _ (by omega)] at this
            exact this
          · rw [decide_eq_false (by omega)]
            exact Nat.testBit_lt_two_pow (Nat.lt_of_lt_of_le l16 (Nat.pow_le_pow_right (n := 2) (i := 4) (by omega) y))
        rw [decide_eq_true this] at h0; cases h0
    · rw [z]; exact h0
theorem put_code {S : Sd} {n i : Nat} {W : Wr} (ok : okS n S) (o : okW n (wL W) W) (hi : i < n) : okRow S n 1 W i = (decide (cvT S.2.2.1 (oN W.1 (wL W) ||| 2 ^ i) n = 15) && canMove S W (wL W) 0 i) := by
  have h8 := ok.2.1
  have e : i / (3 * n) ^ 0 % (3 * n) = i := by rw [Nat.pow_zero, Nat.div_one, Nat.mod_eq_of_lt (by omega)]
  rw [okRow, e]
  unfold mvd
  rw [Nat.div_eq_of_lt hi, Nat.mod_eq_of_lt hi, show nI 0 = 0 from rfl]
  cases q : canMove S W (wL W) 0 i with
  | false => rw [Bool.false_and, Bool.and_false]
  | true =>
    rw [Bool.true_and, Bool.and_true]
    have k := o.move h8 hi (what := 0) (Or.inl rfl) (Or.inl q)
    show dressed S (moveW W (wL W) 0 i) (wL (moveW W (wL W) 0 i)) = _
    rw [k.wl h8]
    unfold dressed
    have eo : oN (moveW W (wL W) 0 i).1 (moveL (wL W) 0) = oN W.1 (wL W) ||| 2 ^ i := by
      show oN (upd W.1 (wL W) (nI i)) (wL W + 1) = _
      rw [oN, upd_self, ix_nI (by omega), oN_cong (g := W.1) (fun k hk => upd_ne _ _ (by omega))]
    rw [← cover_eq ok k, (k.onN h8).1, eo, sSet_cvT (or_lt256 (o.onN h8).2 (two_lt _ (by omega))) h8]
    exact decide_eq_decide.mpr (i15 (cvT_lt _ _ _))
