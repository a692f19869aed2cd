/-! look -/
def lkG (m a b : Nat) : Int32 → Nat → Int32
  | s, 0 => s
  | s, k + 1 => if hb (nI m) k && sGo (nI k) (nI a) (nI b) then lkG m a b s k + 1 else lkG m a b s k
def lkP (m a b : Nat) : Int32 := if lkG m a b 0 6 < nI (pcount m) - lkG m a b 0 6 then nI (pcount m) - lkG m a b 0 6 else lkG m a b 0 6
theorem q_X3_greaterPart {m a b : Nat} (hm : m < 64) (h : zH) : f_X3_greaterPart (nI m) (nI a) (nI b) h = rI (lkP m a b) h := by
  refine zloop (fun n k s => f_X3_greaterPart_5 n (nI m) (nI a) (nI b) s (nI k) h) (lkG m a b 0) 6 _ ?_ ?_ zF 0 (Nat.zero_le _) (zF_gt (by omega))
  · intro n
    rw [f_X3_greaterPart_5, if_pos (show (6 : Int32) ≤ nI 6 from Int32.le_refl _), zcI_of (q_bitCount (by omega) h)]
    rfl
  · intro n k hk
    rw [f_X3_greaterPart_5, if_neg (show ¬ (6 : Int32) ≤ nI k from nI_ge (b := 6) hk (by decide)), zcI_of (q_X6_allows (kOk_nI hk) _ _ h), lkG]
    unfold f_X3_greaterPart_35
    rw [nI_1]
    cases c : hb (nI m) k with
    | false => rw [if_neg (fun z => by rw [(hb_iff _ _).mp z] at c; cases c)]; rfl
    | true =>
      rw [if_pos ((hb_iff _ _).mpr c)]
      cases sGo (nI k) (nI a) (nI b)
      · rw [if_pos (by decide)]; rfl
      · rw [if_neg (by decide)]; rfl
/-- a loop that begins at c -/
theorem zloopF {σ : Type} (F : Nat → Nat → σ → zR) (acc : Nat → σ) (c b : Nat) (r : zR) (hend : ∀ n, F (n + 1) b (acc b) = r) (hstep : ∀ n k, c ≤ k → k < b → F (n + 1) k (acc k) = F n (k + 1) (acc (k + 1))) : ∀ (fuel k : Nat), c ≤ k → k ≤ b → b < fuel + k → F fuel k (acc k) = r := by
  intro fuel
  induction fuel with
  | zero => intro k _ h1 h2; omega
  | succ n ih =>
    intro k h0 h1 h2
    rcases Nat.lt_or_ge k b with h | h
    · rw [hstep n k h0 h]
      exact ih (k + 1) (by omega) (by omega) (by omega)
    · have : k = b := by omega
      subst this
      exact hend n
def lkS (m : Nat) (s : Int32 × Int32) (c : Nat) : Int32 × Int32 := if c % 4 < c / 4 then s else if s.2 ≤ lkP m (c / 4) (c % 4) then s else (10 * nI (c / 4) + nI (c % 4), lkP m (c / 4) (c % 4))
def lkF (m : Nat) : Nat → Int32 × Int32
  | 0 => (-101, 7)
  | k + 1 => lkS m (lkF m k) k
theorem lkF_skip (m : Nat) {a : Nat} (ha : a < 4) : ∀ j, j ≤ a → lkF m (4 * a + j) = lkF m (4 * a)
  | 0, _ => rfl
  | j + 1, h => by
    show lkS m (lkF m (4 * a + j)) (4 * a + j) = _
    unfold lkS
    rw [if_pos (by omega)]
    exact lkF_skip m ha j (by omega)
theorem q_X3_bestPair {m : Nat} (hm : m < 64) (h0 : m ≠ 0) (h : zH) : f_X3_bestPair (nI m) h = rI (lkF m 16).1 h := by
  unfold f_X3_bestPair
  rw [if_neg (nI_ne0 (by omega) (by omega))]
  refine zloop (fun n a (s : Int32 × Int32) => f_X3_bestPair_15 n (nI m) s.1 s.2 (nI a) h) (fun a => lkF m (4 * a)) 4 _ ?_ ?_ zF 0 (Nat.zero_le _) (zF_gt (by omega))
  · intro n
    rw [f_X3_bestPair_15, if_pos (show (4 : Int32) ≤ nI 4 from Int32.le_refl _)]
    rfl
  · intro n a ha
    show f_X3_bestPair_15 (n + 1) (nI m) (lkF m (4 * a)).1 (lkF m (4 * a)).2 (nI a) h = f_X3_bestPair_15 n (nI m) (lkF m (4 * (a + 1))).1 (lkF m (4 * (a + 1))).2 (nI (a + 1)) h
    rw [f_X3_bestPair_15, if_neg (show ¬ (4 : Int32) ≤ nI a from nI_ge (b := 4) ha (by decide)), ← lkF_skip m ha a (Nat.le_refl _)]
    refine zloopF (fun f b (s : Int32 × Int32) => f_X3_bestPair_23 (f_X3_bestPair_15 n) f (nI m) s.1 s.2 (nI a) (nI b) h) (fun b => lkF m (4 * a + b)) a 4 _ ?_ ?_ zF a (Nat.le_refl _) (by omega) (by show 4 < 20000 + a; omega)
    · intro f
      rw [f_X3_bestPair_23, if_pos (show (4 : Int32) ≤ nI 4 from Int32.le_refl _), nI_1]
      rfl
    · intro f b hab hb
      show f_X3_bestPair_23 (f_X3_bestPair_15 n) (f + 1) (nI m) (lkF m (4 * a + b)).1 (lkF m (4 * a + b)).2 (nI a) (nI b) h = f_X3_bestPair_23 (f_X3_bestPair_15 n) f (nI m) (lkS m (lkF m (4 * a + b)) (4 * a + b)).1 (lkS m (lkF m (4 * a + b)) (4 * a + b)).2 (nI a) (nI (b + 1)) h
      have q1 : (4 * a + b) / 4 = a := by omega
      have q2 : (4 * a + b) % 4 = b := by omega
      rw [f_X3_bestPair_23, if_neg (show ¬ (4 : Int32) ≤ nI b from nI_ge (b := 4) hb (by decide)), zcI_of (q_X3_greaterPart hm h)]
      unfold lkS f_X3_bestPair_55
      rw [q1, q2, nI_1, if_neg (show ¬ b < a by omega)]
      by_cases c : (lkF m (4 * a + b)).2 ≤ lkP m a b
      · rw [if_pos c, if_pos c]
      · rw [if_neg c, if_neg c]; rfl
theorem lkP_m (p g : Int32) : (if g ≤ p - g then p - g else g) = if g < p - g then p - g else g := by
  by_cases c : g < p - g
  · rw [if_pos c, if_pos (Int32.le_of_lt c)]
  · rw [if_neg c]
    by_cases d : g ≤ p - g
    · rw [if_pos d]; exact Int32.le_antisymm (Int32.not_lt.mp c) d
    · rw [if_neg d]
theorem q_X10_look_14 {m : Nat} (hm : m < 64) (h0 : m ≠ 0) (h : zH) : f_X10_look_14 zF (nI m) (-101) 7 0 h = rI (lkF m 16).1 h := by
  refine zloop (fun n c (s : Int32 × Int32) => f_X10_look_14 n (nI m) s.1 s.2 (nI c) h) (lkF m) 16 _ ?_ ?_ zF 0 (Nat.zero_le _) (zF_gt (by omega))
  · intro n
    rw [f_X10_look_14, if_pos (show (16 : Int32) ≤ nI 16 from Int32.le_refl _)]
    rfl
  · intro n c hc
    show f_X10_look_14 (n + 1) (nI m) (lkF m c).1 (lkF m c).2 (nI c) h = f_X10_look_14 n (nI m) (lkS m (lkF m c) c).1 (lkS m (lkF m c) c).2 (nI (c + 1)) h
    have d1 : nI c / 4 = nI (c / 4) := pk_div (d := 4) (by omega) (by omega) (by omega)
    have d2 : nI c - nI (c / 4) * 4 = nI (c % 4) := by rw [← d1]; exact pk_rem (d := 4) (by omega) (by omega) (by omega)
    rw [f_X10_look_14, if_neg (show ¬ (16 : Int32) ≤ nI c from nI_ge (b := 16) hc (by decide)), if_neg (nI_ne0 (by omega) (by omega)), zdv_of (by decide), zlt_eq, zdv_of (by decide), zlt_eq, d1, d2]
    generalize lkF m c = s
    refine zloop (fun f k (g : Int32) => f_X10_look_43 (f_X10_look_14 n) f (nI m) s.1 s.2 (nI c) (nI (c / 4)) (nI (c % 4)) g (nI k) h) (lkG m (c / 4) (c % 4) 0) 6 _ ?_ ?_ zF 0 (Nat.zero_le _) (zF_gt (by omega))
    · intro f
      show f_X10_look_43 (f_X10_look_14 n) (f + 1) (nI m) s.1 s.2 (nI c) (nI (c / 4)) (nI (c % 4)) (lkG m (c / 4) (c % 4) 0 6) (nI 6) h = _
      rw [f_X10_look_43, if_pos (show (6 : Int32) ≤ nI 6 from Int32.le_refl _), zcI_of (q_ones (by omega) h), zcI_of (q_ones (by omega) h)]
      have e1 : (if lkG m (c / 4) (c % 4) 0 6 ≤ nI (pcount m) - lkG m (c / 4) (c % 4) 0 6 then f_X10_look_111 (f_X10_look_14 n) (nI m) s.1 s.2 (nI c) (nI (c / 4)) (nI (c % 4)) (nI (pcount m) - lkG m (c / 4) (c % 4) 0 6) h else f_X10_look_111 (f_X10_look_14 n) (nI m) s.1 s.2 (nI c) (nI (c / 4)) (nI (c % 4)) (lkG m (c / 4) (c % 4) 0 6) h) = f_X10_look_111 (f_X10_look_14 n) (nI m) s.1 s.2 (nI c) (nI (c / 4)) (nI (c % 4)) (lkP m (c / 4) (c % 4)) h := by
        unfold lkP
        rw [← lkP_m]
        split <;> rfl
      rw [e1]
      unfold lkS f_X10_look_111 f_X10_look_130 f_X10_look_131 f_X10_look_150 f_X10_look_162
      rw [nI_1]
      by_cases z : c % 4 < c / 4
      · rw [if_pos (nI_lt z (by omega)), if_pos rfl, if_pos rfl, if_pos z]
      · rw [if_neg (nI_nlt (by omega) (by omega)), if_neg z]
        by_cases y : s.2 ≤ lkP m (c / 4) (c % 4)
        · rw [if_pos y, if_pos rfl, if_pos rfl, if_pos y]
        · rw [if_neg y, if_neg (show ¬ (1 : Int32) = 0 by decide), if_neg (show ¬ (1 : Int32) = 0 by decide), if_neg y]
    · intro f k hk
      show f_X10_look_43 (f_X10_look_14 n) (f + 1) (nI m) s.1 s.2 (nI c) (nI (c / 4)) (nI (c % 4)) (lkG m (c / 4) (c % 4) 0 k) (nI k) h = f_X10_look_43 (f_X10_look_14 n) f (nI m) s.1 s.2 (nI c) (nI (c / 4)) (nI (c % 4)) (lkG m (c / 4) (c % 4) 0 (k + 1)) (nI (k + 1)) h
      rw [f_X10_look_43, if_neg (show ¬ (6 : Int32) ≤ nI k from nI_ge (b := 6) hk (by decide)), zcI_of (q_X10_has (nI m) k h), zcI_of (q_X10_goes (kOk_nI hk) _ _ h), lkG]
      unfold f_X10_look_77 f_X10_look_78
      rw [zlt_eq, zlt_eq, nI_1]
      cases hb (nI m) k
      · rw [if_pos (by decide), i32add0]; rfl
      · rw [if_neg (by decide)]
        cases sGo (nI k) (nI (c / 4)) (nI (c % 4))
        · rw [if_pos (by decide), i32add0]; rfl
        · rw [if_neg (by decide)]; rfl
theorem mkI6 (p : Nat → Bool) : ∃ m, m < 64 ∧ mkI p 6 = nI m := ⟨mkN p 6, mkN_lt p 6, mkI_nI p 6 (by omega)⟩
theorem op_look : Both f_X9_look f_X10_look := by
  refine Both.ask (fun T o => ?_)
  obtain ⟨m, hm, em⟩ := mkI6 (fitN (tD T))
  refine ⟨.int (if m = 0 then -101 else (lkF m 16).1), ?_, ?_⟩
  · intro h x r
    refine ⟨h, ?_, r, Fr.rf⟩
    unfold f_X9_look
    rw [zgR_eq r.1 rfl, zcI_of (q_X3_childKinds r.2.1 o.1), em]
    by_cases z : m = 0
    · subst z
      rw [if_pos rfl]
      unfold f_X3_bestPair
      rw [if_pos (show nI 0 = 0 from rfl)]; rfl
    · rw [if_neg z, zcI_of (q_X3_bestPair hm z h)]; rfl
  · intro h k r
    refine ⟨h, ?_, r, Fr.rf⟩
    obtain ⟨M, nf, n0, n1, n2, n3, n4⟩ := r.now
    unfold f_X10_look
    rw [zoc_eq n0, zcI_of (q_X10_is r o), em]
    by_cases z : m = 0
    · subst z
      rw [if_pos rfl, show zF = 19999 + 1 from rfl, f_X10_look_14, if_neg (by decide), if_pos (show nI 0 = 0 from rfl)]; rfl
    · rw [if_neg z]; exact q_X10_look_14 hm z h
/-! ask -/
def akH (m : Nat) (p w : Int32) (u : Nat) : Nat → Nat
  | 0 => 0
  | k + 1 => if hb (nI m) k && decide (sHol (nI k) p w = sHol (nI u) p w) then akH m p w u k + 1 else akH m p w u k
theorem akH_le (m : Nat) (p w : Int32) (u : Nat) : ∀ k, akH m p w u k ≤ k
  | 0 => Nat.le_refl _
  | k + 1 => by
    have := akH_le m p w u k
    rw [akH]
    split <;> omega
def akG (m : Nat) (p w : Int32) (u : Nat) : Nat → Nat
  | 0 => 0
  | k + 1 => if hb (nI m) u && (hb (nI m) k && decide (sHol (nI k) p w = sHol (nI u) p w)) then akG m p w u k + 1 else akG m p w u k
theorem akG_t {m u : Nat} {p w : Int32} (h : hb (nI m) u = true) : ∀ k, akG m p w u k = akH m p w u k
  | 0 => rfl
  | k + 1 => by rw [akG, akH, akG_t h k, h, Bool.true_and]
theorem akG_f {m u : Nat} {p w : Int32} (h : hb (nI m) u = false) : ∀ k, akG m p w u k = 0
  | 0 => rfl
  | k + 1 => by rw [akG, akG_f h k, h, Bool.false_and, if_neg (by decide)]
def akM (m : Nat) (p w : Int32) : Nat → Nat
  | 0 => 0
  | u + 1 => if hb (nI m) u && decide (akM m p w u < akH m p w u 6) then akH m p w u 6 else akM m p w u
theorem akM_le (m : Nat) (p w : Int32) : ∀ k, akM m p w k ≤ 6
  | 0 => by show 0 ≤ 6; omega
  | k + 1 => by
    have := akM_le m p w k
    have := akH_le m p w k 6
    rw [akM]
    split <;> omega
theorem q_X3_howManyHold {m u : Nat} (p w : Int32) (h : zH) : f_X3_howManyHold (nI m) p w (sHol (nI u) p w) h = rI (nI (akH m p w u 6)) h := by
  refine zloop (fun n k (s : Nat) => f_X3_howManyHold_6 n (nI m) p w (sHol (nI u) p w) (nI s) (nI k) h) (akH m p w u) 6 _ ?_ ?_ zF 0 (Nat.zero_le _) (zF_gt (by omega))
  · intro n
    rw [f_X3_howManyHold_6, if_pos (show (6 : Int32) ≤ nI 6 from Int32.le_refl _)]
    rfl
  · intro n k hk
    rw [f_X3_howManyHold_6, if_neg (show ¬ (6 : Int32) ≤ nI k from nI_ge (b := 6) hk (by decide)), zcI_of (q_X0_holds (kOk_nI hk) _ _ h), akH]
    unfold f_X3_howManyHold_37
    rw [nI_1 k]
    cases c : hb (nI m) k with
    | false => rw [if_neg (fun z => by rw [(hb_iff _ _).mp z] at c; cases c)]; rfl
    | true =>
      rw [if_pos ((hb_iff _ _).mpr c), Bool.true_and]
      by_cases z : sHol (nI k) p w = sHol (nI u) p w
      · rw [if_pos z, decide_eq_true z, if_pos rfl, nI_1]
      · rw [if_neg z, decide_eq_false z, if_neg (by decide)]
theorem q_X3_mostAlike {m : Nat} (p w : Int32) (h : zH) : f_X3_mostAlike (nI m) p w h = rI (nI (akM m p w 6)) h := by
  refine zloop (fun n k (s : Nat) => f_X3_mostAlike_5 n (nI m) p w (nI s) (nI k) h) (akM m p w) 6 _ ?_ ?_ zF 0 (Nat.zero_le _) (zF_gt (by omega))
  · intro n
    rw [f_X3_mostAlike_5, if_pos (show (6 : Int32) ≤ nI 6 from Int32.le_refl _)]
    rfl
  · intro n k hk
    have l1 := akM_le m p w k
    have l2 := akH_le m p w k 6
    rw [f_X3_mostAlike_5, if_neg (show ¬ (6 : Int32) ≤ nI k from nI_ge (b := 6) hk (by decide)), zcI_of (q_X0_holds (kOk_nI hk) _ _ h), zcI_of (q_X3_howManyHold p w h), zlt_eq, akM]
    unfold f_X3_mostAlike_40
    rw [nI_1 k]
    cases c : hb (nI m) k with
    | false => rw [if_neg (fun z => by rw [(hb_iff _ _).mp z] at c; cases c)]; rfl
    | true =>
      rw [if_pos ((hb_iff _ _).mpr c), Bool.true_and]
      by_cases z : akM m p w k < akH m p w k 6
      · rw [if_pos (nI_lt z (by omega)), decide_eq_true z, if_pos rfl]
      · rw [if_neg (nI_nlt (by omega) (by omega)), decide_eq_false z, if_neg (by decide)]
def akS (m : Nat) (p : Int32) (s : Int32 × Int32) (c : Nat) : Int32 × Int32 := if s.2 ≤ nI (akM m p (nI c) 6) then s else (nI c, nI (akM m p (nI c) 6))
def akF (m : Nat) (p : Int32) : Nat → Int32 × Int32
  | 0 => (-101, 7)
  | k + 1 => akS m p (akF m p k) k
theorem q_X3_bestWear {m : Nat} (p : Int32) (hm : m < 64) (h0 : m ≠ 0) (h : zH) : f_X3_bestWear (nI m) p h = rI (akF m p 31).1 h := by
  unfold f_X3_bestWear
  rw [if_neg (nI_ne0 (by omega) (by omega))]
  refine zloop (fun n c (s : Int32 × Int32) => f_X3_bestWear_16 n (nI m) p s.1 s.2 (nI c) h) (akF m p) 31 _ ?_ ?_ zF 0 (Nat.zero_le _) (zF_gt (by omega))
  · intro n
    rw [f_X3_bestWear_16, if_pos (by decide)]
    rfl
  · intro n c hc
    show f_X3_bestWear_16 (n + 1) (nI m) p (akF m p c).1 (akF m p c).2 (nI c) h = f_X3_bestWear_16 n (nI m) p (akS m p (akF m p c) c).1 (akS m p (akF m p c) c).2 (nI (c + 1)) h
    rw [f_X3_bestWear_16, if_neg (show ¬ (30 : Int32) < nI c from nI_nlt (a := 30) (by omega) (by omega)), zcI_of (q_X3_mostAlike p _ h)]
    unfold akS f_X3_bestWear_44
    rw [nI_1 c]
    by_cases z : (akF m p c).2 ≤ nI (akM m p (nI c) 6)
    · rw [if_pos z, if_pos z]
    · rw [if_neg z, if_neg z]
theorem q_X10_ask_29 {h : zH} {k m i n : Nat} {M : Mo} {nf : Nat → Int32} {p : Int32} (hO : MO h k M) (hN : MA h (k + 1) 88 nf) (hp : nf (28 + i) = p) (hi : i < 8) (hm : m < 64) (h0 : m ≠ 0) : f_X10_ask_29 zF k (nI i) (nI m) (-101) 7 0 h = rI (akF m p 31).1 h := by
  refine zloop (fun n c (s : Int32 × Int32) => f_X10_ask_29 n k (nI i) (nI m) s.1 s.2 (nI c) h) (akF m p) 31 _ ?_ ?_ zF 0 (Nat.zero_le _) (zF_gt (by omega))
  · intro n
    rw [f_X10_ask_29, if_pos (show (31 : Int32) ≤ nI 31 from Int32.le_refl _)]
    rfl
  · intro n c hc
    show f_X10_ask_29 (n + 1) k (nI i) (nI m) (akF m p c).1 (akF m p c).2 (nI c) h = f_X10_ask_29 n k (nI i) (nI m) (akS m p (akF m p c) c).1 (akS m p (akF m p c) c).2 (nI (c + 1)) h
    rw [f_X10_ask_29, if_neg (show ¬ (31 : Int32) ≤ nI c from nI_ge (b := 31) hc (by decide)), if_neg (nI_ne0 (by omega) (by omega))]
    generalize akF m p c = s
    refine zloop (fun f u (g : Nat) => f_X10_ask_46 (f_X10_ask_29 n) f k (nI i) (nI m) s.1 s.2 (nI c) (nI g) (nI u) h) (akM m p (nI c)) 6 _ ?_ ?_ zF 0 (Nat.zero_le _) (zF_gt (by omega))
    · intro f
      show f_X10_ask_46 (f_X10_ask_29 n) (f + 1) k (nI i) (nI m) s.1 s.2 (nI c) (nI (akM m p (nI c) 6)) (nI 6) h = _
      rw [f_X10_ask_46, if_pos (show (6 : Int32) ≤ nI 6 from Int32.le_refl _)]
      unfold akS f_X10_ask_170 f_X10_ask_185
      rw [nI_1 c]
      by_cases z : s.2 ≤ nI (akM m p (nI c) 6)
      · rw [if_pos z, if_pos z, if_pos z]
      · rw [if_neg z, if_neg z, if_neg z]
    · intro f u hu
      have l1 := akM_le m p (nI c) u
      have l2 := akH_le m p (nI c) u 6
      show f_X10_ask_46 (f_X10_ask_29 n) (f + 1) k (nI i) (nI m) s.1 s.2 (nI c) (nI (akM m p (nI c) u)) (nI u) h = f_X10_ask_46 (f_X10_ask_29 n) f k (nI i) (nI m) s.1 s.2 (nI c) (nI (akM m p (nI c) (u + 1))) (nI (u + 1)) h
      rw [f_X10_ask_46, if_neg (show ¬ (6 : Int32) ≤ nI u from nI_ge (b := 6) hu (by decide))]
      refine zloop (fun e v (g : Nat) => f_X10_ask_59 (f_X10_ask_46 (f_X10_ask_29 n) f) e k (nI i) (nI m) s.1 s.2 (nI c) (nI (akM m p (nI c) u)) (nI u) (nI g) (nI v) h) (akG m p (nI c) u) 6 _ ?_ ?_ zF 0 (Nat.zero_le _) (zF_gt (by omega))
      · intro e
        rw [f_X10_ask_59, if_pos (show (6 : Int32) ≤ nI 6 from Int32.le_refl _), akM]
        unfold f_X10_ask_149
        rw [nI_1 u]
        cases q : hb (nI m) u with
        | false => rw [akG_f q, if_pos (nI_le (by omega) (by omega)), Bool.false_and, if_neg (by decide)]
        | true =>
          rw [akG_t q, Bool.true_and]
          by_cases z : akM m p (nI c) u < akH m p (nI c) u 6
          · rw [if_neg (nI_ge z (by omega)), decide_eq_true z, if_pos rfl]
          · rw [if_pos (nI_le (by omega) (by omega)), decide_eq_false z, if_neg (by decide)]
      · intro e v hv
        show f_X10_ask_59 (f_X10_ask_46 (f_X10_ask_29 n) f) (e + 1) k (nI i) (nI m) s.1 s.2 (nI c) (nI (akM m p (nI c) u)) (nI u) (nI (akG m p (nI c) u v)) (nI v) h = f_X10_ask_59 (f_X10_ask_46 (f_X10_ask_29 n) f) e k (nI i) (nI m) s.1 s.2 (nI c) (nI (akM m p (nI c) u)) (nI u) (nI (akG m p (nI c) u (v + 1))) (nI (v + 1)) h
        rw [f_X10_ask_59, if_neg (show ¬ (6 : Int32) ≤ nI v from nI_ge (b := 6) hv (by decide)), zcI_of (q_X10_has (nI m) u h), zcI_of (q_X10_has (nI m) v h), zgR_eq hO rfl, zaI_x (28 + nI i) (28 + i) (nI_add 28 i) hN (by omega) (by decide), hp, zcI_of (q_X10_holds _ _ _ h), zgR_eq hO rfl, zaI_x (28 + nI i) (28 + i) (nI_add 28 i) hN (by omega) (by decide), hp, zcI_of (q_X10_holds _ _ _ h), akG]
        unfold f_X10_ask_125 f_X10_ask_126
        rw [zlt_eq, zlt_eq, nI_1 v]
        cases hb (nI m) u with
        | false => rw [if_pos (by decide), i32add0, Bool.false_and, if_neg (by decide)]
        | true =>
          rw [if_neg (by decide), Bool.true_and]
          cases hb (nI m) v with
          | false => rw [if_pos (by decide), i32add0, Bool.false_and, if_neg (by decide)]
          | true =>
            rw [if_neg (by decide), Bool.true_and]
            by_cases z : sHol (nI v) p (nI c) = sHol (nI u) p (nI c)
            · rw [if_pos z.symm, decide_eq_true z, if_pos rfl, nI_1]
            · rw [if_neg (fun y => z y.symm), decide_eq_false z, if_neg (by decide), i32add0]
theorem op_ask (a : Int32) : Both (fun x => f_X9_ask x a) (fun m => f_X10_ask m a) := by
  refine Both.of2 (fun T o => ?_)
  obtain ⟨en, hn⟩ := o.1.n
  cases hh : sHas (tD T).1.2.1 a with
  | false =>
    refine of2Bad o ?_ ?_
    · intro h x r h1 e1
      show f_X9_ask x a h = _
      unfold f_X9_ask
      rw [zgR_eq r.1 rfl, zoc_eq r.2.1.1, zcI_of (q_X1_has r.2.1.RS a), hh, if_pos (by decide), zoc_eq r.1, zcI_of e1]
      rfl
    · intro h m r h1 e1
      obtain ⟨M, nf, n0, n1, n2, n3, n4⟩ := r.now
      show f_X10_ask m a h = _
      unfold f_X10_ask
      rw [zoc_eq n0, zcI_of (q_X10_isPiece n0 n1 (n2.1.trans en) hn a), ← en, hh, if_pos (by decide), zoc_eq n0, zcI_of e1]
      rfl
  | true =>
    obtain ⟨i, hi, ea⟩ := (sHas_nI (n := dn (tD T)) (x := a) (by omega)).mp (by rw [← en]; exact hh)
    subst ea
    obtain ⟨m, hm, em⟩ := mkI6 (fitP (tD T) i)
    refine ⟨.int (if m = 0 then -101 else (akF m ((tD T).1.2.2.2.2 i) 31).1), T, o, ?_, ?_⟩
    · intro h x r
      refine ⟨h, ?_, r, Fr.rf⟩
      show f_X9_ask x (nI i) h = _
      unfold f_X9_ask
      rw [zgR_eq r.1 rfl, zoc_eq r.2.1.1, zcI_of (q_X1_has r.2.1.RS _), hh, if_neg (by decide), zgR_eq r.1 rfl, zcI_of (q_X3_clothKinds r.2.1 o.1), zgR_eq r.1 rfl, zgR_eq r.2.1.1 rfl, zaI_x (nI i) i rfl r.2.1.2.2.2.1 (by omega) (by decide), em]
      by_cases z : m = 0
      · subst z
        rw [if_pos rfl]
        unfold f_X3_bestWear
        rw [if_pos (show nI 0 = 0 from rfl)]; rfl
      · rw [if_neg z, zcI_of (q_X3_bestWear _ hm z h)]; rfl
    · intro h k r
      obtain ⟨M, nf, n0, n1, n2, n3, n4⟩ := r.now
      refine ⟨h, ?_, r, Fr.rf⟩
      show f_X10_ask k (nI i) h = _
      unfold f_X10_ask
      rw [zoc_eq n0, zcI_of (q_X10_isPiece n0 n1 (n2.1.trans en) hn _), ← en, hh, if_neg (by decide), zoc_eq n0, zcI_of (q_X10_kindSet r o), em]
      by_cases z : m = 0
      · subst z
        rw [if_pos rfl, show zF = 19999 + 1 from rfl, f_X10_ask_29, if_neg (by decide), if_pos (show nI 0 = 0 from rfl)]; rfl
      · rw [if_neg z]; exact q_X10_ask_29 (n := 0) n0 n1 ((n2.2.2 i hi).2.2) (by omega) hm z
