/-! few: the model -/
theorem b13824 {n m : Nat} (h8 : n ≤ 8) (hm : m ≤ 3) : (3 * n) ^ m ≤ 13824 := Nat.le_trans (Nat.pow_le_pow_left (show 3 * n ≤ 24 by omega) m) (Nat.pow_le_pow_right (n := 24) (j := 3) (by omega) hm)
theorem q_goRow_43 {m n many c : Nat} {M : Mo} {nf : Nat → Int32} {S : Sd} (ok : okS n S) (hnf : nf 0 = nI n) (hm3 : many ≤ 3) (hc : c < 20000) : ∀ (r fuel u : Nat) (W : Wr) (g : zH) (sf : Nat → Int32), r ≤ many → r < fuel → (1 ≤ r → u = (3 * n) ^ (r - 1) ∧ 0 < n) → u < 20000 → MO g m M → MA g (m + 1) 88 nf → MA g (m + 2) 88 sf → RowS sf n S → RowW sf n (wL W) W → okW n (wL W) W → ∃ g' sf' b Wf, f_X10_goRow_43 fuel m (nI c) (nI many) (nI (3 * n)) (nI u) 1 (nI (many - r)) g = rB b g' ∧ MA g' (m + 2) 88 sf' ∧ Fr g g' (m + 2) (m + 3) ∧ (b = true → RowS sf' n S ∧ RowW sf' n (wL Wf) Wf ∧ okW n (wL Wf) Wf ∧ dressed S Wf (wL Wf) = okRow S n r W c) ∧ (b = false → okRow S n r W c = false) := by
  have h8 := ok.2.1
  intro r
  induction r with
  | zero =>
    intro fuel u W g sf hr hf hu hu2 hO hN hA rS rW ow
    obtain ⟨fuel, rfl⟩ : ∃ f', fuel = f' + 1 := ⟨fuel - 1, by omega⟩
    refine ⟨g, sf, true, W, ?_, hA, Fr.rf, fun _ => ⟨rS, rW, ow, rfl⟩, fun e => by cases e⟩
    rw [f_X10_goRow_43, if_pos (show nI many ≤ nI (many - 0) from Int32.le_refl _)]
    exact zrZ_1 g
  | succ r ih =>
    intro fuel u W g sf hr hf hu hu2 hO hN hA rS rW ow
    obtain ⟨fuel, rfl⟩ : ∃ f', fuel = f' + 1 := ⟨fuel - 1, by omega⟩
    obtain ⟨eu, hn⟩ := hu (by omega)
    rw [show r + 1 - 1 = r by omega] at eu
    have up : 0 < u := by rw [eu]; exact Nat.pow_pos (by omega)
    have hd : c / (3 * n) ^ r % (3 * n) < 3 * n := Nat.mod_lt _ (by omega)
    have e3 : nI (many - (r + 1)) + 1 = nI (many - r) := by rw [nI_1, show many - (r + 1) + 1 = many - r by omega]
    have cu : c / u < 20000 := Nat.lt_of_le_of_lt (Nat.div_le_self _ _) hc
    rw [f_X10_goRow_43, if_neg (nI_ge (show many - (r + 1) < many by omega) (by omega)), if_neg (by decide), zdv_of (nI_ne0 up (by omega)), zdv_of (nI_ne0 (show 0 < 3 * n by omega) (by omega)), pk_div (by omega) up (by omega), pk_rem (by omega) (show 0 < 3 * n by omega) (by omega), zlt_eq, zgR_eq hO rfl, zaI_x 0 0 rfl hN (by decide) (by decide), hnf, zdv_of (nI_ne0 hn (by omega)), zgR_eq hO rfl, zaI_x 0 0 rfl hN (by decide) (by decide), hnf, zdv_of (nI_ne0 hn (by omega)), zoc_eq hO, eu, okRow]
    unfold mvd
    generalize c / (3 * n) ^ r % (3 * n) = d at hd ⊢
    rw [pk_rem (a := d) (d := n) (by omega) hn (by omega), pk_div (a := d) (d := n) (by omega) hn (by omega)]
    have hi : d % n < n := Nat.mod_lt _ hn
    have hw := wh3 hd
    generalize nI (d / n) = what at hw ⊢
    generalize d % n = i at hi ⊢
    obtain ⟨g1, sf1, x1, x2, x3, x4, x5, x6⟩ := q_X10_goMove hO hA rS rW ow ok hi hw
    have hur : (3 * n) ^ r < 20000 := by rw [← eu]; exact hu2
    rw [zcI_of x1, zdv_of (nI_ne0 (show 0 < 3 * n by omega) (by omega)), pk_div (by omega) (show 0 < 3 * n by omega) (by omega), zlt_eq, e3]
    cases q : canMove S W (wL W) what i with
    | false =>
      refine ⟨g1, sf1, false, W, ?_, x2, x3, fun e => (by cases e), fun _ => rfl⟩
      obtain ⟨fuel, rfl⟩ : ∃ f', fuel = f' + 1 := ⟨fuel - 1, by omega⟩
      rw [f_X10_goRow_43]
      unfold f_X10_goRow_98
      show (if nI many ≤ nI (many - r) then zrZ 0 g1 else if (0 : Int32) = 0 then zrZ 0 g1 else _) = _
      rw [if_pos (show (0 : Int32) = 0 from rfl), zrZ_0]
      split <;> rfl
    | true =>
      have k := ow.move h8 hi hw (Or.inl q)
      have k2 : okW n (wL (moveW W (wL W) what i)) (moveW W (wL W) what i) := by rw [k.wl h8]; exact k
      have rW2 : RowW sf1 n (wL (moveW W (wL W) what i)) (moveW W (wL W) what i) := by rw [k.wl h8]; exact x5 q
      have ul : (3 * n) ^ r / (3 * n) < 20000 := Nat.lt_of_le_of_lt (Nat.div_le_self _ _) hur
      obtain ⟨g2, sf2, b, Wf, y1, y2, y3, y4, y5⟩ := ih fuel ((3 * n) ^ r / (3 * n)) (moveW W (wL W) what i) g1 sf1 (by omega) (by omega) (fun h1 => ⟨by
        obtain ⟨s, rfl⟩ : ∃ s, r = s + 1 := ⟨r - 1, by omega⟩
        rw [Nat.pow_succ, Nat.mul_div_cancel _ (show 0 < 3 * n by omega)]; rfl, hn⟩) ul (hO.keep x3 (by omega)) (hN.keep x3 (by omega)) x2 (rS.keep x4 h8) rW2 k2
      exact ⟨g2, sf2, b, Wf, y1, y2, x3.tr y3, fun e => by rw [Bool.true_and]; exact y4 e, fun e => by rw [Bool.true_and]; exact y5 e⟩
theorem q_goRow {g : zH} {m many c : Nat} {T : Tt} (r : RM g m T) (o : okT T) (hm3 : many ≤ 3) (hc : c < (3 * dn (tD T)) ^ many) : ∃ g', RM g' m T ∧ Fr g g' m (m + 11) ∧ ∀ K1 K0 : zH → zR, (zoc g m 6 (zcI (f_X10_goRow m (nI c) (nI many) g) fun x4 h5 => if x4 = 0 then K0 h5 else zoc h5 m 6 (zcI (f_X10_covered m h5) fun x6 h7 => if x6 = 15 then K1 h7 else K0 h7))) = if okRow (tD T).1 (dn (tD T)) many (dW (tD T)) c then K1 g' else K0 g' := by
  obtain ⟨en, hn⟩ := o.1.n
  have ow := o.1.2.1.1
  have bl := b13824 hn hm3
  obtain ⟨M0, nf0, m0, k1, k2, -⟩ := r.now
  obtain ⟨h1, M, nf, sf, e1, n0, n1, n2, s1, w1, -, s2, w2, r1, f1⟩ := r.aside o
  have go : ∀ u, u < 20000 → (1 ≤ many → u = (3 * dn (tD T)) ^ (many - 1) ∧ 0 < dn (tD T)) → f_X10_goRow m (nI c) (nI many) g = f_X10_goRow_43 zF m (nI c) (nI many) (nI (3 * dn (tD T))) (nI u) 1 (nI (many - many)) h1 → ∃ g', RM g' m T ∧ Fr g g' m (m + 11) ∧ ∀ K1 K0 : zH → zR, (zoc g m 6 (zcI (f_X10_goRow m (nI c) (nI many) g) fun x4 h5 => if x4 = 0 then K0 h5 else zoc h5 m 6 (zcI (f_X10_covered m h5) fun x6 h7 => if x6 = 15 then K1 h7 else K0 h7))) = if okRow (tD T).1 (dn (tD T)) many (dW (tD T)) c then K1 g' else K0 g' := by
    intro u hu hu2 e2
    obtain ⟨g2, sf2, b, Wf, y1, y2, y3, y4, y5⟩ := q_goRow_43 (M := M) o.1.1 (s1.1.trans en) hm3 (show c < 20000 by omega) many zF u (dW (tD T)) h1 sf (Nat.le_refl _) (by show many < 20000; omega) hu2 hu n0 n1 n2 s2 w2 ow
    refine ⟨g2, r1.side y2 y3, f1.tr (y3.wide (by omega) (by omega)), fun K1 K0 => ?_⟩
    rw [e2, zoc_eq m0, zcI_of y1]
    cases b with
    | false => rw [if_pos (by decide), y5 rfl, if_neg (by decide)]
    | true =>
      obtain ⟨z1, z2, z3, z4⟩ := y4 rfl
      have O2 : MO g2 m M := n0.keep y3 (by omega)
      rw [if_neg (by decide), zoc_eq O2, zcI_of (q_X10_covered O2 y2 z1 z2 z3 o.1.1), ← z4]
      unfold dressed
      by_cases q : sCd (tD T).1 Wf.1 (wL Wf) = 15
      · rw [if_pos q, decide_eq_true q, if_pos rfl]
      · rw [if_neg q, decide_eq_false q, if_neg (by decide)]
  have b3 : (3 : Int32) * nI (dn (tD T)) = nI (3 * dn (tD T)) := by rw [show (3 : Int32) = nI 3 from rfl, pk_mul]
  rcases Nat.eq_zero_or_pos many with z | z
  · subst z
    refine go 1 (by omega) (fun h => by omega) ?_
    unfold f_X10_goRow
    rw [zgR_eq m0 rfl, zaI_x 0 0 rfl k1 (by decide) (by decide), k2.1, en, zlt_eq, b3, show zF = 19999 + 1 from rfl, f_X10_goRow_15, if_pos (by decide), zoc_eq m0, zcV_of e1]
    rfl
  · have np : 0 < dn (tD T) := by
      rcases Nat.eq_zero_or_pos (dn (tD T)) with q | q
      · rw [q, Nat.mul_zero, Nat.zero_pow z] at hc; omega
      · exact q
    have bl2 := b13824 (n := dn (tD T)) (m := many - 1) hn (by omega)
    refine go ((3 * dn (tD T)) ^ (many - 1)) (by omega) (fun _ => ⟨rfl, np⟩) ?_
    unfold f_X10_goRow
    rw [zgR_eq m0 rfl, zaI_x 0 0 rfl k1 (by decide) (by decide), k2.1, en, zlt_eq, b3]
    refine zloopF (fun f k (s : Nat) => f_X10_goRow_15 f m (nI c) (nI many) (nI (3 * dn (tD T))) (nI s) (nI k) g) (fun k => (3 * dn (tD T)) ^ (k - 1)) 1 many _ ?_ ?_ zF 1 (Nat.le_refl _) z (by show many < 20000 + 1; omega)
    · intro f
      rw [f_X10_goRow_15, if_pos (Int32.le_refl _), zoc_eq m0, zcV_of e1, Nat.sub_self]
      rfl
    · intro f k hk1 hk
      rw [f_X10_goRow_15, if_neg (nI_ge hk (by omega)), zlt_eq, pk_mul, nI_1, ← Nat.pow_succ, show (k - 1).succ = k + 1 - 1 by omega]
theorem q_rowAt_18 {g : zH} {m n k : Nat} {M : Mo} {nf : Nat → Int32} (hO : MO g m M) (hN : MA g (m + 1) 88 nf) (hnf : nf 0 = nI n) (hn : 0 < n) (h8 : n ≤ 8) : ∀ (e left fuel : Nat), e < fuel → left < 20000 → k + e < 4 → f_X10_rowAt_18 fuel m (nI k) (nI (3 * n)) (nI left) (nI (k + e)) g = rI (10 * nI (left / (3 * n) ^ e % (3 * n) / n) + nI (left / (3 * n) ^ e % (3 * n) % n)) g := by
  intro e
  induction e with
  | zero =>
    intro left fuel hf hl hk
    obtain ⟨fuel, rfl⟩ : ∃ f', fuel = f' + 1 := ⟨fuel - 1, by omega⟩
    have hd : left % (3 * n) < 3 * n := Nat.mod_lt _ (by omega)
    rw [f_X10_rowAt_18, if_pos (show nI (k + 0) ≤ nI k from Int32.le_refl _), zdv_of (nI_ne0 (show 0 < 3 * n by omega) (by omega)), pk_rem (by omega) (show 0 < 3 * n by omega) (by omega), zlt_eq, zgR_eq hO rfl, zaI_x 0 0 rfl hN (by decide) (by decide), hnf, zdv_of (nI_ne0 hn (by omega)), zgR_eq hO rfl, zaI_x 0 0 rfl hN (by decide) (by decide), hnf, zdv_of (nI_ne0 hn (by omega)), pk_rem (a := left % (3 * n)) (d := n) (by omega) hn (by omega), pk_div (a := left % (3 * n)) (d := n) (by omega) hn (by omega), Nat.pow_zero, Nat.div_one]
    rfl
  | succ e ih =>
    intro left fuel hf hl hk
    obtain ⟨fuel, rfl⟩ : ∃ f', fuel = f' + 1 := ⟨fuel - 1, by omega⟩
    have l2 : left / (3 * n) < 20000 := Nat.lt_of_le_of_lt (Nat.div_le_self _ _) hl
    rw [f_X10_rowAt_18, if_neg (nI_ge (show k < k + (e + 1) by omega) (by omega)), zdv_of (nI_ne0 (show 0 < 3 * n by omega) (by omega)), pk_div (by omega) (show 0 < 3 * n by omega) (by omega), zlt_eq, show nI (k + (e + 1)) + (-1) = nI (k + e) from pk_m1 (k + e), ih _ fuel (by omega) l2 (by omega), Nat.div_div_eq_div_mul, ← Nat.pow_succ']
def ansM (n many code : Nat) (v : Int32) : Int32 := if 0 ≤ v then (if nI many ≤ v then -5 else dig n many code (ix v)) else nI many
theorem q_few_22 {m many f : Nat} {v : Int32} {T : Tt} (o : okT T) (hm3 : many ≤ 3) : ∀ (e c fuel : Nat) (g : zH), c + e = (3 * dn (tD T)) ^ many → e < fuel → (∀ k, k < c → okRow (tD T).1 (dn (tD T)) many (dW (tD T)) k = false) → RM g m T → ∃ g', RM g' m T ∧ Fr g g' m (m + 11) ∧ f_X10_few_22 (f_X10_few_14 f) fuel m v (nI ((3 * dn (tD T)) ^ many)) (nI many) (nI c) g = match fstN (okRow (tD T).1 (dn (tD T)) many (dW (tD T))) ((3 * dn (tD T)) ^ many) with
    | some code => rI (ansM (dn (tD T)) many code v) g'
    | none => f_X10_few_14 f m v (nI ((3 * dn (tD T)) ^ (many + 1))) (nI (many + 1)) g' := by
  obtain ⟨en, hn⟩ := o.1.n
  have bl := b13824 hn hm3
  have b3 : (3 : Int32) * nI (dn (tD T)) = nI (3 * dn (tD T)) := by rw [show (3 : Int32) = nI 3 from rfl, pk_mul]
  intro e
  induction e with
  | zero =>
    intro c fuel g hc hf hp r
    obtain ⟨fuel, rfl⟩ : ∃ f', fuel = f' + 1 := ⟨fuel - 1, by omega⟩
    obtain ⟨M, nf, n0, n1, n2, -⟩ := r.now
    have ec : c = (3 * dn (tD T)) ^ many := by omega
    subst ec
    refine ⟨g, r, Fr.rf, ?_⟩
    rw [fstN_none.mpr hp, f_X10_few_22, if_pos (Int32.le_refl _), zgR_eq n0 rfl, zaI_x 0 0 rfl n1 (by decide) (by decide), n2.1, en, b3, pk_mul, zlt_eq, nI_1, ← Nat.pow_succ]
  | succ e ih =>
    intro c fuel g hc hf hp r
    obtain ⟨fuel, rfl⟩ : ∃ f', fuel = f' + 1 := ⟨fuel - 1, by omega⟩
    have hc1 : c < (3 * dn (tD T)) ^ many := by omega
    obtain ⟨g1, r1, f1, eK⟩ := q_goRow r o hm3 hc1
    obtain ⟨M, nf, n0, n1, n2, -⟩ := r1.now
    rw [f_X10_few_22, if_neg (nI_ge hc1 (by omega)), eK (fun h7 => if 0 ≤ v then if nI many ≤ v then f_X10_few_73 (-5) h7 else zoc h7 m 6 (zcI (f_X10_rowAt m (nI c) (nI many) v h7) fun x8 h9 => f_X10_few_73 x8 h9) else f_X10_few_73 (nI many) h7) (fun h7 => f_X10_few_74 (f_X10_few_22 (f_X10_few_14 f) fuel) m v (nI ((3 * dn (tD T)) ^ many)) (nI many) (nI c) h7)]
    cases q : okRow (tD T).1 (dn (tD T)) many (dW (tD T)) c with
    | true =>
      refine ⟨g1, r1, f1, ?_⟩
      rw [fstN_some.mpr ⟨hc1, q, hp⟩, if_pos rfl]
      show _ = rI (ansM (dn (tD T)) many c v) g1
      unfold ansM f_X10_few_73
      by_cases z : 0 ≤ v
      · rw [if_pos z, if_pos z]
        obtain ⟨k, hk, ek⟩ := nI_of (Int32.not_lt.mpr z)
        subst ek
        by_cases y : nI many ≤ nI k
        · rw [if_pos y, if_pos y]; rfl
        · have hkm : k < many := by
            rcases Nat.lt_or_ge k many with w | w
            · exact w
            · exact absurd (nI_le w hk) y
          have np : 0 < dn (tD T) := by
            rcases Nat.eq_zero_or_pos (dn (tD T)) with q | q
            · rw [q, Nat.mul_zero, Nat.zero_pow (show 0 < many by omega)] at hc1; omega
            · exact q
          have er := q_rowAt_18 (k := k) n0 n1 (n2.1.trans en) np hn (many - 1 - k) c zF (by show _ < 20000; omega) (by omega) (by omega)
          rw [show k + (many - 1 - k) = many - 1 by omega] at er
          rw [if_neg y, if_neg y, zoc_eq n0]
          unfold f_X10_rowAt
          rw [zgR_eq n0 rfl, zaI_x 0 0 rfl n1 (by decide) (by decide), n2.1, en, b3, zlt_eq, zlt_eq, show nI many - 1 = nI (many - 1) by rw [show many = (many - 1) + 1 by omega, nI_pred]; rfl, zcI_of er, ix_nI hk]
          rfl
      · rw [if_neg z, if_neg z]; rfl
    | false =>
      obtain ⟨g2, r2, f2, e2⟩ := ih (c + 1) fuel g1 (by omega) (by omega) (fun k hk => by
        by_cases y : k = c
        · rw [y]; exact q
        · exact hp k (by omega)) r1
      refine ⟨g2, r2, f1.tr f2, ?_⟩
      rw [if_neg (by decide), ← e2]
      unfold f_X10_few_74
      rw [nI_1]
def fewP (T : Tt) (i : Nat) : Bool := (fstN (okRow (tD T).1 (dn (tD T)) i (dW (tD T))) ((3 * dn (tD T)) ^ i)).isSome
def fewA (T : Tt) (v : Int32) : Int32 := match fstN (fewP T) 4 with
  | none => -6
  | some i => match fstN (okRow (tD T).1 (dn (tD T)) i (dW (tD T))) ((3 * dn (tD T)) ^ i) with
    | some code => ansM (dn (tD T)) i code v
    | none => -6
theorem q_few_14 {m : Nat} {v : Int32} {T : Tt} (o : okT T) : ∀ (e i fuel : Nat) (g : zH), i + e = 4 → e < fuel → (∀ k, k < i → fewP T k = false) → RM g m T → ∃ g', RM g' m T ∧ Fr g g' m (m + 11) ∧ f_X10_few_14 fuel m v (nI ((3 * dn (tD T)) ^ i)) (nI i) g = rI (fewA T v) g' := by
  intro e
  induction e with
  | zero =>
    intro i fuel g hi hf hp r
    obtain ⟨fuel, rfl⟩ : ∃ f', fuel = f' + 1 := ⟨fuel - 1, by omega⟩
    have ei : i = 4 := by omega
    subst ei
    refine ⟨g, r, Fr.rf, ?_⟩
    unfold fewA
    rw [fstN_none.mpr hp, f_X10_few_14, if_pos (show (4 : Int32) ≤ nI 4 from Int32.le_refl _)]
    rfl
  | succ e ih =>
    intro i fuel g hi hf hp r
    obtain ⟨fuel, rfl⟩ : ∃ f', fuel = f' + 1 := ⟨fuel - 1, by omega⟩
    have bl := b13824 (n := dn (tD T)) (m := i) o.1.n.2 (by omega)
    obtain ⟨g1, r1, f1, e1⟩ := q_few_22 (m := m) (f := fuel) (v := v) o (show i ≤ 3 by omega) ((3 * dn (tD T)) ^ i) 0 zF g (by omega) (by show _ < 20000; omega) (fun k hk => absurd hk (Nat.not_lt_zero k)) r
    rw [f_X10_few_14, if_neg (show ¬ (4 : Int32) ≤ nI i from nI_ge (b := 4) (by omega) (by decide))]
    cases q : fstN (okRow (tD T).1 (dn (tD T)) i (dW (tD T))) ((3 * dn (tD T)) ^ i) with
    | some code =>
      rw [q] at e1
      refine ⟨g1, r1, f1, e1.trans ?_⟩
      have : fstN (fewP T) 4 = some i := fstN_some.mpr ⟨by omega, by unfold fewP; rw [q]; rfl, hp⟩
      unfold fewA
      rw [this]
      show _ = rI (match fstN (okRow (tD T).1 (dn (tD T)) i (dW (tD T))) ((3 * dn (tD T)) ^ i) with
        | some code => ansM (dn (tD T)) i code v
        | none => -6) g1
      rw [q]
    | none =>
      rw [q] at e1
      obtain ⟨g2, r2, f2, e2⟩ := ih (i + 1) fuel g1 (by omega) (by omega) (fun k hk => by
        by_cases y : k = i
        · rw [y]; unfold fewP; rw [q]; rfl
        · exact hp k (by omega)) r1
      exact ⟨g2, r2, f1.tr f2, e1.trans e2⟩
