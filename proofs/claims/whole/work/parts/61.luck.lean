/-! luck -/
abbrev mnN (W : Wr) (L n : Nat) : Nat := cntN (offW W L) n
abbrev opN (W : Wr) (L n : Nat) : Nat → Nat := rowN (offW W L) n
section LK
variable {m n L : Nat} {M : Mo} {nf bf jf jb ju xf rf yf of : Nat → Int32} {S : Sd} {W : Wr}
/-- where a row of pieces has come to, on the row aside -/
def lkI (S : Sd) (W : Wr) (L n : Nat) (sf : Nat → Int32) (u c : Bool) (had : Nat) : Prop := had < 256 ∧ subB had (freeN W L n) = true ∧ (u = true → c = gPre S W L n had ∧ (c = true → ∃ W' L', stW S W L n had W' L' ∧ RowS sf n S ∧ RowW sf n L' W'))
theorem q_luck_in (ok : okS n S) (ow : okW n L W) (hof : ∀ r, r < mnN W L n → of r = nI (opN W L n r)) {rows up down : Nat} {v4 v7 : Int32} (hr4 : rows ≤ 4) (K : Nat → Int32 → Int32 → Int32 → Int32 → Int32 → Int32 → zH → zR) : ∀ (k fuel c had : Nat) (u cn : Bool) (g : zH) (sf : Nat → Int32), k ≤ rows → (0 < k → 0 < mnN W L n) → k < fuel → c < 100000 → MAll g m M nf sf bf jf jb ju xf rf yf of → lkI S W L n sf u cn had → ∃ g' sf', f_X10_luck_132 K fuel m (nI (mnN W L n)) (nI rows) v4 (nI up) (nI down) v7 (nI c) (nI had) (b2i u) (b2i cn) (nI (rows - k)) g = K m (nI (mnN W L n)) (nI rows) v4 (nI (up + b2n (u && (lkU (mnN W L n) (opN W L n) k c had && gSt S W L n (lkM (mnN W L n) (opN W L n) k c had))))) (nI (down + b2n (u && lkU (mnN W L n) (opN W L n) k c had))) (v7 + 1) g' ∧ MAll g' m M nf sf' bf jf jb ju xf rf yf of ∧ Fr g g' m (m + 11) := by
  have h8 := ok.2.1
  intro k
  induction k with
  | zero =>
    intro fuel c had u cn g sf hk hpos hf hc A I
    obtain ⟨fuel, rfl⟩ : ∃ f', fuel = f' + 1 := ⟨fuel - 1, by omega⟩
    obtain ⟨i1, i2, i3⟩ := I
    refine ⟨g, sf, ?_, A, Fr.rf⟩
    rw [f_X10_luck_132, if_pos (show nI rows ≤ nI (rows - 0) from Int32.le_refl _)]
    unfold f_X10_luck_231 f_X10_luck_259 f_X10_luck_260
    cases u with
    | false =>
      rw [if_pos (by decide), zlt_eq, if_pos (by decide), zlt_eq, i32add0, i32add0]
      rfl
    | true =>
      obtain ⟨j1, j2⟩ := i3 rfl
      rw [if_neg (by decide), zlt_eq, if_neg (by decide), Bool.true_and, Bool.true_and]
      have e1 : nI down + 1 = nI (down + b2n (lkU (mnN W L n) (opN W L n) 0 c had)) := nI_1 _
      rw [e1]
      show _ = K m (nI (mnN W L n)) (nI rows) v4 (nI (up + b2n (true && gSt S W L n had))) _ (v7 + 1) g
      rw [Bool.true_and]
      cases cn with
      | false =>
        have : gSt S W L n had = false := by
          unfold gPre at j1
          unfold gSt
          cases q1 : subB had (abN S W L n) with
          | false => rfl
          | true =>
            rw [q1, Bool.true_and] at j1
            rw [← j1, Bool.and_false]; rfl
        rw [if_pos (by decide), zlt_eq, i32add0, this]; rfl
      | true =>
        obtain ⟨W', L', st, rs, rw_⟩ := j2 rfl
        have e2 : gSt S W L n had = decide (cvT S.2.2.1 (had ||| oN W.1 L) n = 15) := by
          unfold gPre at j1
          unfold gSt
          have j1 := j1.symm
          rw [Bool.and_eq_true] at j1
          rw [j1.1, j1.2, Bool.true_and, Bool.and_true]
        rw [if_neg (by decide), zoc_eq A.1, zcI_of (q_X10_covered A.1 A.2.2.1 rs rw_ st.1 ok), st.cov ok i1 ow, e2, zlt_eq, zlt_eq, i32add0, nI_1]
        by_cases z : cvT S.2.2.1 (had ||| oN W.1 L) n = 15
        · rw [if_pos ((i15 (cvT_lt _ _ _)).mpr z), decide_eq_true z]; rfl
        · rw [if_neg (fun e => z ((i15 (cvT_lt _ _ _)).mp e)), decide_eq_false z]; rfl
  | succ k ih =>
    intro fuel c had u cn g sf hk hpos hf hc A I
    obtain ⟨fuel, rfl⟩ : ∃ f', fuel = f' + 1 := ⟨fuel - 1, by omega⟩
    obtain ⟨i1, i2, i3⟩ := id I
    have mp := hpos (by omega)
    have m8 : mnN W L n ≤ 8 := Nat.le_trans (cntN_le _ n) h8
    have cm := Nat.mod_lt c mp
    obtain ⟨r1, r2, -⟩ : opN W L n (c % mnN W L n) < n ∧ offW W L (opN W L n (c % mnN W L n)) = true ∧ cntN (offW W L) (opN W L n (c % mnN W L n)) = c % mnN W L n := rowN_spec (offW W L) n (c % mnN W L n) cm
    have cd : c / mnN W L n < 100000 := Nat.lt_of_le_of_lt (Nat.div_le_self _ _) hc
    have e3 : nI (rows - (k + 1)) + 1 = nI (rows - k) := by rw [nI_1, show rows - (k + 1) + 1 = rows - k by omega]
    rw [f_X10_luck_132, if_neg (nI_ge (show rows - (k + 1) < rows by omega) (by omega)), zgR_eq A.1 rfl, zdv_of (nI_ne0 mp (by omega)), pk_rem (by omega) mp (by omega), zaI_nI A.2.2.2.2.2.2.2.2.2.2 (by omega) (by decide), hof _ cm, zdv_of (nI_ne0 mp (by omega)), pk_div (by omega) mp (by omega), zlt_eq, zcI_of (q_X10_has (nI had) (opN W L n (c % mnN W L n)) g), hbN i1 (show opN W L n (c % mnN W L n) < 8 by omega)]
    generalize ei : opN W L n (c % mnN W L n) = i at r1 r2
    have hlt : had ||| 2 ^ i < 256 := or_lt256 i1 (two_lt _ (by omega))
    have hsub : subB (had ||| 2 ^ i) (freeN W L n) = true := (subB_iff hlt).mpr (fun j hj b => by
      rw [or_bit, Bool.or_eq_true, bit_single, decide_eq_true_eq] at b
      rcases b with b | b
      · exact (subB_iff i1).mp i2 j hj b
      · subst b; rw [freeN_bit, decide_eq_true r1, r2]; rfl)
    have orI : nI had ||| (1 <<< (nI i &&& 31)) = nI (had ||| 2 ^ i) := by rw [shi (by omega), nI_or]
    -- the rest, whatever has become of it
    have go : ∀ (t c' : Bool) (g2 : zH) (sf2 : Nat → Int32), MAll g2 m M nf sf2 bf jf jb ju xf rf yf of → Fr g g2 m (m + 11) → lkI S W L n sf2 t c' (had ||| 2 ^ i) → (t = (u && !had.testBit i)) → ∃ g' sf', f_X10_luck_132 K fuel m (nI (mnN W L n)) (nI rows) v4 (nI up) (nI down) v7 (nI (c / mnN W L n)) (nI (had ||| 2 ^ i)) (b2i t) (b2i c') (nI (rows - k)) g2 = K m (nI (mnN W L n)) (nI rows) v4 (nI (up + b2n (u && (lkU (mnN W L n) (opN W L n) (k + 1) c had && gSt S W L n (lkM (mnN W L n) (opN W L n) (k + 1) c had))))) (nI (down + b2n (u && lkU (mnN W L n) (opN W L n) (k + 1) c had))) (v7 + 1) g' ∧ MAll g' m M nf sf' bf jf jb ju xf rf yf of ∧ Fr g g' m (m + 11) := by
      intro t c' g2 sf2 A2 F2 I2 ht
      obtain ⟨g', sf', x1, x2, x3⟩ := ih fuel (c / mnN W L n) (had ||| 2 ^ i) t c' g2 sf2 (by omega) (fun _ => mp) (by omega) cd A2 I2
      refine ⟨g', sf', ?_, x2, F2.tr x3⟩
      rw [x1]
      have eu : lkU (mnN W L n) (opN W L n) (k + 1) c had = (!had.testBit i && lkU (mnN W L n) (opN W L n) k (c / mnN W L n) (had ||| 2 ^ i)) := by rw [lkU, ei]
      have em : lkM (mnN W L n) (opN W L n) (k + 1) c had = lkM (mnN W L n) (opN W L n) k (c / mnN W L n) (had ||| 2 ^ i) := by rw [lkM, ei]
      rw [eu, em, ht, Bool.and_assoc, Bool.and_assoc, Bool.and_assoc]
    have nothing : ∀ c' : Bool, lkI S W L n sf false c' (had ||| 2 ^ i) := fun c' => ⟨hlt, hsub, fun e => by cases e⟩
    unfold f_X10_luck_174 f_X10_luck_175 f_X10_luck_210 f_X10_luck_211
    rw [zlt_eq, zlt_eq, orI, e3]
    cases u with
    | false =>
      rw [if_pos (by decide), if_pos (show (0 : Int32) = 0 from rfl)]
      split
      · exact go false false g sf A Fr.rf (nothing false) rfl
      · exact go false false g sf A Fr.rf (nothing false) rfl
    | true =>
      rw [if_neg (by decide)]
      obtain ⟨j1, j2⟩ := i3 rfl
      cases hb : had.testBit i with
      | true =>
        rw [if_neg (by decide), if_pos (show (0 : Int32) = 0 from rfl)]
        have ht : false = (true && !had.testBit i) := by rw [hb]; rfl
        split
        · exact go false false g sf A Fr.rf (nothing false) ht
        · exact go false false g sf A Fr.rf (nothing false) ht
      | false =>
        rw [if_pos (by decide), if_neg (show ¬ (1 : Int32) = 0 by decide)]
        have ht : true = (true && !had.testBit i) := by rw [hb]; rfl
        cases cn with
        | false =>
          rw [if_pos (by decide)]
          refine go true false g sf A Fr.rf ⟨hlt, hsub, fun _ => ⟨?_, fun e => by cases e⟩⟩ ht
          cases q : gPre S W L n (had ||| 2 ^ i) with
          | false => rfl
          | true =>
            rw [((gPre_add h8 i1 r1 hb).mp q).1] at j1; cases j1
        | true =>
          obtain ⟨W', L', st, rs, rw_⟩ := j2 rfl
          obtain ⟨h1, sf1, x1, x2, x3, x4, x5, x6⟩ := q_X10_goMove A.1 A.2.2.1 rs rw_ st.1 ok r1 (what := 0) (Or.inl rfl)
          have ec := st.can ow h8 i1 r1 hb j1.symm
          have A1 : MAll h1 m M nf sf1 bf jf jb ju xf rf yf of := by
            obtain ⟨h0, h1', h2, h3, h4, h5, h6, h7, h8', h9, h10⟩ := A
            exact ⟨h0.keep x3 (by omega), h1'.keep x3 (by omega), x2, h3.keep x3 (by omega), h4.keep x3 (by omega), h5.keep x3 (by omega), h6.keep x3 (by omega), h7.keep x3 (by omega), h8'.keep x3 (by omega), h9.keep x3 (by omega), h10.keep x3 (by omega)⟩
          rw [canMove_0] at x1 x5
          rw [if_neg (by decide), zoc_eq A.1, zcI_of x1]
          cases q : canPut S W' L' i with
          | false =>
            rw [if_pos (by decide)]
            exact go true false h1 sf1 A1 (x3.wide (by omega) (by omega)) ⟨hlt, hsub, fun _ => ⟨by rw [← ec, q], fun e => by cases e⟩⟩ ht
          | true =>
            rw [if_neg (by decide)]
            exact go true true h1 sf1 A1 (x3.wide (by omega) (by omega)) ⟨hlt, hsub, fun _ => ⟨by rw [← ec, q], fun _ => ⟨_, _, st.put h8 r1 q, rs.keep x4 h8, x5 q⟩⟩⟩ ht
end LK
theorem ex_sub : ∀ (d a k : Nat), a < 256 → pcount a = k + d → ∃ M, M < 256 ∧ subB M a = true ∧ pcount M = k
  | 0, a, k, ha, e => ⟨a, ha, (subB_iff ha).mpr (fun _ _ b => b), by omega⟩
  | d + 1, a, k, ha, e => by
    have a0 : a ≠ 0 := fun z => by
      subst z
      have : pcount 0 = 0 := by decide
      omega
    obtain ⟨i, hi, b⟩ := bit_ne0 ha a0
    have s1 : subB (2 ^ i) a = true := (subB_iff (two_lt i hi)).mpr (fun j _ bj => by
      rw [bit_single, decide_eq_true_eq] at bj
      subst bj; exact b)
    have p := pc_split (two_lt i hi) s1
    rw [pc_single i hi] at p
    obtain ⟨M, m1, m2, m3⟩ := ex_sub d (andn a (2 ^ i)) k (andn_lt _ _) (by omega)
    refine ⟨M, m1, (subB_iff m1).mpr (fun j hj bj => ?_), m3⟩
    have := (subB_iff m1).mp m2 j hj bj
    rw [andn_bit hj, Bool.and_eq_true] at this
    exact this.1
theorem pc_free {n L : Nat} {W : Wr} (h8 : n ≤ 8) : pcount (freeN W L n) = mnN W L n := by
  unfold pcount
  have s := cntN_stop (p := fun i => (freeN W L n).testBit i) (a := n) (b := 8) h8 (fun i h1 h2 => by rw [freeN_bit, decide_eq_false (by omega)]; rfl)
  rw [s]
  exact cntN_cong (fun i hi => by rw [freeN_bit, decide_eq_true hi]; rfl)
/-- how many sets there are, and good ones -/
def luA (W : Wr) (L n k s : Nat) : Bool := subB s (freeN W L n) && decide (pcount s = k)
def luG (S : Sd) (W : Wr) (L n k s : Nat) : Bool := luA W L n k s && gSt S W L n s
theorem luA_pos {n L k : Nat} {W : Wr} (h8 : n ≤ 8) (hk : k ≤ mnN W L n) : 0 < cntN (luA W L n k) 256 := by
  obtain ⟨M, m1, m2, m3⟩ := ex_sub (mnN W L n - k) (freeN W L n) k (freeN_lt h8) (by rw [pc_free h8]; omega)
  have := (rowN_of (luA W L n k) m1 (by unfold luA; rw [m2, decide_eq_true m3]; rfl)).1
  omega
theorem luG_le {S : Sd} {n L k : Nat} {W : Wr} : cntN (luG S W L n k) 256 ≤ cntN (luA W L n k) 256 := cntN_sub (fun s _ e => by
  unfold luG at e
  rw [Bool.and_eq_true] at e
  exact e.1)
theorem pc00 : pcount 0 = 0 := by decide
theorem setQ_0 {n L k : Nat} {W : Wr} {g : Nat → Bool} (s : Nat) : setQ (mkN (offW W L) n) k g 0 s = (luA W L n k s && g s) := by
  unfold setQ luA freeN
  rw [pc00, Nat.zero_add, show subB 0 s = true from (subB_iff (by omega)).mpr (fun i _ b => by rw [Nat.zero_testBit] at b; cases b), Bool.true_and, Bool.and_assoc]
theorem rows_all {n L : Nat} {W : Wr} (h8 : n ≤ 8) (g : Nat → Bool) (k : Nat) : cntN (fun c => lkU (mnN W L n) (opN W L n) k c 0 && g (lkM (mnN W L n) (opN W L n) k c 0)) (mnN W L n ^ k) = fac k * cntN (fun s => luA W L n k s && g s) 256 := by
  rw [rows_sets h8 (offW W L) g k 0 (by omega) ((subB_iff (by omega)).mpr (fun i _ b => by rw [Nat.zero_testBit] at b; cases b))]
  congr 1
  exact cntN_cong (fun s _ => setQ_0 s)
theorem frac_eq {g a f : Nat} (hf : 0 < f) : f * g / Nat.gcd (f * g) (f * a) = g / Nat.gcd g a ∧ f * a / Nat.gcd (f * g) (f * a) = a / Nat.gcd g a := by
  rw [Nat.gcd_mul_left, Nat.mul_div_mul_left _ _ hf, Nat.mul_div_mul_left _ _ hf]
  exact ⟨rfl, rfl⟩
/-! the class -/
theorem q_X9_luck_75 {h : zH} {x k n L : Nat} {T : Tt} {S : Sd} {W : Wr} (r : RX h x T) (hS : RS h (x + 1) S) (ok : okS n S) (ow : okW n L W) (hk : k ≤ 8) : f_X9_luck_75 zF x (nI (oN W.1 L)) (nI (freeN W L n)) (nI (abN S W L n)) (nI k) 0 0 0 h = zcV (f_X9_setFraction x (nI (cntN (luG S W L n k) 256)) (nI (cntN (luA W L n k) 256)) h) fun h1 => zrI 1 h1 := by
  have h8 := ok.2.1
  have fl := freeN_lt (W := W) (L := L) h8
  have al : abN S W L n < 256 := mkN_256 _ h8
  have ol := (ow.onN h8).2
  obtain ⟨⟨nw, ps, nt, mk, pc, nc, mc, h1⟩, -⟩ := id hS
  refine zloop (fun f s (a : Nat × Nat) => f_X9_luck_75 f x (nI (oN W.1 L)) (nI (freeN W L n)) (nI (abN S W L n)) (nI k) (nI a.1) (nI a.2) (nI s) h) (fun s => (cntN (luG S W L n k) s, cntN (luA W L n k) s)) 256 _ ?_ ?_ zF 0 (Nat.zero_le _) (zF_gt (by omega))
  · intro f
    rw [f_X9_luck_75, if_pos (show (256 : Int32) ≤ nI 256 from Int32.le_refl _), zoc_eq r.1]
  · intro f s hs
    show f_X9_luck_75 (f + 1) x (nI (oN W.1 L)) (nI (freeN W L n)) (nI (abN S W L n)) (nI k) (nI (cntN (luG S W L n k) s)) (nI (cntN (luA W L n k) s)) (nI s) h = f_X9_luck_75 f x (nI (oN W.1 L)) (nI (freeN W L n)) (nI (abN S W L n)) (nI k) (nI (cntN (luG S W L n k) (s + 1))) (nI (cntN (luA W L n k) (s + 1))) (nI (s + 1)) h
    have l1 := andn_lt s (freeN W L n)
    have l2 := andn_lt s (abN S W L n)
    have l3 := pc_le8 s
    rw [f_X9_luck_75, if_neg (show ¬ (256 : Int32) ≤ nI s from nI_ge (b := 256) hs (by decide)), nI_andn hs, nI_andn hs, zcI_of (q_bitCount hs h), zgR_eq r.1 rfl, zoc_eq h1, nI_or, zcI_of (q_X1_spotsN hS ok (or_lt256 hs ol)), zgR_eq r.1 rfl, zoc_eq h1, zcI_of (q_X1_allMatch hS ok hs), cntN, cntN]
    unfold f_X9_luck_146
    rw [nI_1 s]
    have eG : luG S W L n k s = (luA W L n k s && gSt S W L n s) := rfl
    by_cases z1 : andn s (freeN W L n) = 0
    · rw [if_pos ((nI_0iff (by omega)).mpr z1)]
      by_cases z2 : pcount s = k
      · have eA : luA W L n k s = true := by unfold luA subB; rw [decide_eq_true z1, decide_eq_true z2]; rfl
        rw [if_pos (by rw [z2]), eG, eA, Bool.true_and, if_pos (show true = true from rfl), nI_1]
        unfold gSt subB
        by_cases z3 : andn s (abN S W L n) = 0
        · rw [if_pos ((nI_0iff (by omega)).mpr z3), decide_eq_true z3, Bool.true_and]
          by_cases z4 : cvT S.2.2.1 (s ||| oN W.1 L) n = 15
          · rw [if_pos ((i15 (cvT_lt _ _ _)).mpr z4), decide_eq_true z4, Bool.true_and]
            cases amS S n s
            · rw [if_pos (by decide), if_neg (by decide)]
            · rw [if_neg (by decide), if_pos rfl, nI_1]
          · rw [if_neg (fun e => z4 ((i15 (cvT_lt _ _ _)).mp e)), decide_eq_false z4, Bool.false_and, if_neg (by decide)]
        · rw [if_neg (fun e => z3 ((nI_0iff (by omega)).mp e)), decide_eq_false z3, Bool.false_and, if_neg (by decide)]
      · have eA : luA W L n k s = false := by unfold luA; rw [decide_eq_false z2, Bool.and_false]
        rw [if_neg (fun e => z2 ((nI_eq (by omega) (by omega)).mp e)), eG, eA, Bool.false_and, if_neg (by decide), if_neg (by decide)]
    · have eA : luA W L n k s = false := by unfold luA subB; rw [decide_eq_false z1, Bool.false_and]
      rw [if_neg (fun e => z1 ((nI_0iff (by omega)).mp e)), eG, eA, Bool.false_and, if_neg (by decide), if_neg (by decide)]
/-! the model -/
theorem pow4096 {b k : Nat} (hb : b ≤ 8) (hk : k ≤ 4) : b ^ k ≤ 4096 := Nat.le_trans (Nat.pow_le_pow_left hb k) (Nat.pow_le_pow_right (n := 8) (j := 4) (by omega) hk)
theorem q_X10_luck_105 {h : zH} {m n L rows : Nat} {M : Mo} {nf sf bf jf jb ju xf rf yf of : Nat → Int32} {S : Sd} {W : Wr} (A : MAll h m M nf sf bf jf jb ju xf rf yf of) (rS : RowS nf n S) (rW : RowW nf n L W) (ok : okS n S) (ow : okW n L W) (hof : ∀ r, r < mnN W L n → of r = nI (opN W L n r)) (hr4 : rows ≤ 4) (hrm : rows ≤ mnN W L n) : ∃ h' sf', f_X10_luck_105 zF m (nI (mnN W L n)) (nI rows) (nI (mnN W L n ^ rows)) 0 0 0 h = rI 1 h' ∧ MAll h' m (M.1, M.2.1, M.2.2.1, lN (cntN (luG S W L n rows) 256 / Nat.gcd (cntN (luG S W L n rows) 256) (cntN (luA W L n rows) 256)), lN (cntN (luA W L n rows) 256 / Nat.gcd (cntN (luG S W L n rows) 256) (cntN (luA W L n rows) 256)), M.2.2.2.2.2) nf sf' bf jf jb ju xf rf yf of ∧ Fr h h' m (m + 11) := by
  have h8 := ok.2.1
  have m8 : mnN W L n ≤ 8 := Nat.le_trans (cntN_le _ n) h8
  have p4 := pow4096 m8 hr4
  have hL8 : L ≤ 8 := Nat.le_trans ow.2.1 h8
  refine zloopE (fun f c (s : (Nat × Nat) × zH) => f_X10_luck_105 f m (nI (mnN W L n)) (nI rows) (nI (mnN W L n ^ rows)) (nI s.1.1) (nI s.1.2) (nI c) s.2) (fun c s => s.1.1 = cntN (fun c => lkU (mnN W L n) (opN W L n) rows c 0 && gSt S W L n (lkM (mnN W L n) (opN W L n) rows c 0)) c ∧ s.1.2 = cntN (fun c => lkU (mnN W L n) (opN W L n) rows c 0) c ∧ (∃ sf', MAll s.2 m M nf sf' bf jf jb ju xf rf yf of) ∧ Fr h s.2 m (m + 11)) (mnN W L n ^ rows) (fun z => ∃ h' sf', z = rI 1 h' ∧ MAll h' m (M.1, M.2.1, M.2.2.1, lN (cntN (luG S W L n rows) 256 / Nat.gcd (cntN (luG S W L n rows) 256) (cntN (luA W L n rows) 256)), lN (cntN (luA W L n rows) 256 / Nat.gcd (cntN (luG S W L n rows) 256) (cntN (luA W L n rows) 256)), M.2.2.2.2.2) nf sf' bf jf jb ju xf rf yf of ∧ Fr h h' m (m + 11)) ?_ ?_ zF 0 ((0, 0), h) (Nat.zero_le _) (by show mnN W L n ^ rows < 20000 + 0; omega) ⟨rfl, rfl, ⟨sf, A⟩, Fr.rf⟩
  · intro f ⟨⟨up, down⟩, g⟩ ⟨e1, e2, ⟨sf1, A1⟩, F1⟩
    dsimp only at e1 e2 A1 F1
    show ∃ h' sf', f_X10_luck_105 (f + 1) m (nI (mnN W L n)) (nI rows) (nI (mnN W L n ^ rows)) (nI up) (nI down) (nI (mnN W L n ^ rows)) g = _ ∧ _
    have lu : up ≤ 4096 := by rw [e1]; exact Nat.le_trans (cntN_le _ _) p4
    have ld : down ≤ 4096 := by rw [e2]; exact Nat.le_trans (cntN_le _ _) p4
    have t1 := rows_all (W := W) (L := L) h8 (gSt S W L n) rows
    have t2 := rows_all (W := W) (L := L) h8 (fun _ => true) rows
    have e3 : up = fac rows * cntN (luG S W L n rows) 256 := e1.trans t1
    have e4 : down = fac rows * cntN (luA W L n rows) 256 := by
      rw [e2]
      have x1 : cntN (fun c => lkU (mnN W L n) (opN W L n) rows c 0) (mnN W L n ^ rows) = cntN (fun c => lkU (mnN W L n) (opN W L n) rows c 0 && (fun _ => true) (lkM (mnN W L n) (opN W L n) rows c 0)) (mnN W L n ^ rows) := cntN_cong (fun c _ => by show _ = (_ && true); rw [Bool.and_true])
      have x2 : cntN (fun s => luA W L n rows s && (fun _ => true) s) 256 = cntN (luA W L n rows) 256 := cntN_cong (fun s _ => by show (_ && true) = _; rw [Bool.and_true])
      rw [x1, t2, x2]
    have hd : 0 < down := by rw [e4]; exact Nat.mul_pos (fac_pos _) (luA_pos h8 hrm)
    obtain ⟨g2, f1, f2, f3⟩ := q_X10_fraction (u := up) (d := down) hd (by omega) (by omega) A1
    have fq := frac_eq (g := cntN (luG S W L n rows) 256) (a := cntN (luA W L n rows) 256) (fac_pos rows)
    rw [← e3, ← e4] at fq
    rw [fq.1, fq.2] at f2
    rw [f_X10_luck_105, if_pos (Int32.le_refl _), zoc_eq A1.1, nI_l (by omega), nI_l (by omega), zcV_of f1]
    exact ⟨g2, sf1, rfl, f2, F1.tr f3⟩
  · intro f c ⟨⟨up, down⟩, g⟩ hc ⟨e1, e2, ⟨sf1, A1⟩, F1⟩
    dsimp only at e1 e2 A1 F1
    obtain ⟨g2, sf2, a1, a2, a3, a4⟩ := q_X10_aside A1.1 A1.2.1 A1.2.2.1
    have A2 : MAll g2 m M nf sf2 bf jf jb ju xf rf yf of := by
      obtain ⟨h0, h1', h2, h3, h4, h5, h6, h7, h8', h9, h10⟩ := A1
      exact ⟨h0.keep a4 (by omega), h1'.keep a4 (by omega), a2, h3.keep a4 (by omega), h4.keep a4 (by omega), h5.keep a4 (by omega), h6.keep a4 (by omega), h7.keep a4 (by omega), h8'.keep a4 (by omega), h9.keep a4 (by omega), h10.keep a4 (by omega)⟩
    have st0 : stW S W L n 0 W L := ⟨ow, by rw [Nat.or_zero], fun _ _ _ => rfl⟩
    have s0 : ∀ a, subB 0 a = true := fun a => (subB_iff (by omega)).mpr (fun i _ b => by rw [Nat.zero_testBit] at b; cases b)
    have g0 : gPre S W L n 0 = true := by
      unfold gPre
      rw [s0, Bool.true_and, amS_iff (by omega) h8]
      intro i j _ _ b
      rw [Nat.zero_testBit] at b; cases b
    have I0 : lkI S W L n sf2 true true 0 := ⟨by omega, s0 _, fun _ => ⟨g0.symm, fun _ => ⟨W, L, st0, rS.eq a3 h8, rW.eq a3 h8 hL8⟩⟩⟩
    have c100 : c < 100000 := by omega
    obtain ⟨g3, sf3, b1, b2, b3⟩ := q_luck_in ok ow hof (rows := rows) (up := up) (down := down) (v4 := nI (mnN W L n ^ rows)) (v7 := nI c) hr4 (f_X10_luck_105 f) rows zF c 0 true true g2 sf2 (Nat.le_refl _) (fun z => by omega) (by show rows < 20000; omega) c100 A2 I0
    refine ⟨((up + b2n (lkU (mnN W L n) (opN W L n) rows c 0 && gSt S W L n (lkM (mnN W L n) (opN W L n) rows c 0)), down + b2n (lkU (mnN W L n) (opN W L n) rows c 0)), g3), ⟨?_, ?_, ⟨sf3, b2⟩, (F1.tr (a4.wide (by omega) (by omega))).tr b3⟩, ?_⟩
    · show up + _ = _
      rw [cntN_b2n, e1]
    · show down + _ = _
      rw [cntN_b2n, e2]
    · show f_X10_luck_105 (f + 1) m (nI (mnN W L n)) (nI rows) (nI (mnN W L n ^ rows)) (nI up) (nI down) (nI c) g = _
      rw [f_X10_luck_105, if_neg (nI_ge hc (by omega)), zoc_eq A1.1, zcV_of a1]
      rw [Nat.sub_self, Bool.true_and, Bool.true_and, nI_1] at b1
      exact b1
theorem op_luck (a : Int32) : Both (fun x => f_X9_luck x a) (fun m => f_X10_luck m a) := by
  refine Both.of2 (fun T o => ?_)
  obtain ⟨en, hn⟩ := o.1.n
  cases hh : rng 0 4 a with
  | false =>
    refine of2Bad o ?_ ?_
    · intro h x r h1 e1
      show f_X9_luck x a h = _
      unfold f_X9_luck
      rw [zcI_of (q_X9_in _ _ _ h), hh, if_pos (by decide), zoc_eq r.1, zcI_of e1]
      rfl
    · intro h m r h1 e1
      obtain ⟨M, nf, n0, n1, n2, n3, n4⟩ := r.now
      show f_X10_luck m a h = _
      unfold f_X10_luck
      rw [zcI_of (q_X10_inn a 0 4 (A := 0) (B := 4) (by decide) (by decide) h), hh, if_pos (by decide), zoc_eq n0, zcI_of e1]
      rfl
  | true =>
    obtain ⟨q, hq, eq⟩ := (rng_0 (b := 4) (x := a) (n := 4) rfl (by decide)).mp hh
    subst eq
    have ow := o.1.2.1.1
    have m8 : mnN (dW (tD T)) (wL (dW (tD T))) (dn (tD T)) ≤ 8 := Nat.le_trans (cntN_le _ _) hn
    obtain ⟨k, hk, ek⟩ : ∃ k, k = min (mnN (dW (tD T)) (wL (dW (tD T))) (dn (tD T))) q ∧ k = min (mnN (dW (tD T)) (wL (dW (tD T))) (dn (tD T))) q := ⟨_, rfl, rfl⟩
    have kq : k ≤ 4 := by omega
    have km : k ≤ mnN (dW (tD T)) (wL (dW (tD T))) (dn (tD T)) := by omega
    have ap := luA_pos (W := dW (tD T)) (L := wL (dW (tD T))) hn km
    have al := cntN_le (luA (dW (tD T)) (wL (dW (tD T))) (dn (tD T)) k) 256
    have gl := luG_le (S := (tD T).1) (n := dn (tD T)) (L := wL (dW (tD T))) (k := k) (W := dW (tD T))
    refine ⟨.int 1, frT T (lN (cntN (luG (tD T).1 (dW (tD T)) (wL (dW (tD T))) (dn (tD T)) k) 256 / Nat.gcd (cntN (luG (tD T).1 (dW (tD T)) (wL (dW (tD T))) (dn (tD T)) k) 256) (cntN (luA (dW (tD T)) (wL (dW (tD T))) (dn (tD T)) k) 256))) (lN (cntN (luA (dW (tD T)) (wL (dW (tD T))) (dn (tD T)) k) 256 / Nat.gcd (cntN (luG (tD T).1 (dW (tD T)) (wL (dW (tD T))) (dn (tD T)) k) 256) (cntN (luA (dW (tD T)) (wL (dW (tD T))) (dn (tD T)) k) 256))), o, ?_, ?_⟩
    · intro h x r
      obtain ⟨h1, e1, r1, f1⟩ := q_X9_setFraction (g := cntN (luG (tD T).1 (dW (tD T)) (wL (dW (tD T))) (dn (tD T)) k) 256) (a := cntN (luA (dW (tD T)) (wL (dW (tD T))) (dn (tD T)) k) 256) r ap al (by omega)
      refine ⟨h1, ?_, r1, f1⟩
      have rd := r.2.1
      have ew : f_X9_luck_75 zF x (nI (oN (dW (tD T)).1 (wL (dW (tD T))))) (nI (freeN (dW (tD T)) (wL (dW (tD T))) (dn (tD T)))) (nI (abN (tD T).1 (dW (tD T)) (wL (dW (tD T))) (dn (tD T)))) (nI k) 0 0 0 h = rI 1 h1 := by
        rw [q_X9_luck_75 r rd.RS o.1.1 ow (by omega), zcV_of e1]; rfl
      show f_X9_luck x (nI q) h = _
      unfold f_X9_luck f_X1_allPieces
      rw [zcI_of (q_X9_in _ _ _ h), hh, if_neg (by decide), zgR_eq r.1 rfl, zgR_eq rd.1 rfl, zoc_eq rd.2.2.2.2.1.1, zcI_of (q_X8_onSet rd.2.2.2.2.1 ow.1 (o.1.2.1.le hn)), zgR_eq r.1 rfl, zoc_eq rd.1, zgI_eq rd.1 rfl, zcI_of (show zrI (1 <<< ((tD T).1.2.1 &&& 31) - 1) h = rI _ h from rfl), zlt_eq, en, free_eq ow hn, zgR_eq r.1 rfl, zgR_eq r.1 rfl, zgR_eq rd.1 rfl, zoc_eq rd.1, zcI_of (q_X1_setThatMay rd.RS o.1.1 rd.2.2.2.2.1 ow (Or.inl rfl)), zcI_of (q_bitCount (freeN_lt hn) h), zlt_eq, pc_free hn, (ow.onN hn).1, mkI_nI (canMove (tD T).1 (dW (tD T)) (wL (dW (tD T))) 0) _ hn]
      have emin : (if nI (mnN (dW (tD T)) (wL (dW (tD T))) (dn (tD T))) < nI q then nI (mnN (dW (tD T)) (wL (dW (tD T))) (dn (tD T))) else nI q) = nI k := by
        by_cases z : mnN (dW (tD T)) (wL (dW (tD T))) (dn (tD T)) < q
        · rw [if_pos (nI_lt z (by omega)), hk, Nat.min_eq_left (by omega)]
        · rw [if_neg (nI_nlt (by omega) (by omega)), hk, Nat.min_eq_right (by omega)]
      rw [emin]
      exact ew
    · intro h m r
      obtain ⟨M0, nf0, m0, -⟩ := r.now
      obtain ⟨h1, M1, nf1, sf1, a1, n0, n1, n2, s1, w1, -, s2, w2, r1, f1⟩ := r.aside o
      obtain ⟨im, sp, bg, tk, va, nf, sf, bf, jf, jb, ju, xf, rf, yf, of, A, B⟩ := r1.all
      have en1 : nf1 = nf := by have := n1.symm.trans A.2.1; simpa using this
      have en2 : sf1 = sf := by have := n2.symm.trans A.2.2.1; simpa using this
      subst en1
      subst en2
      show ∃ h1, f_X10_luck m (nI q) h = _ ∧ _
      unfold f_X10_luck
      rw [zcI_of (q_X10_inn (nI q) 0 4 (A := 0) (B := 4) (by decide) (by decide) h), hh, if_neg (by decide), zoc_eq m0, zcV_of a1]
      refine zloopE (fun f i (s : Nat × zH) => f_X10_luck_25 f m (nI q) (nI s.1) (nI i) s.2) (fun i s => s.1 = cntN (offW (dW (tD T)) (wL (dW (tD T)))) i ∧ (∃ of', MAll s.2 m (dPc (tD T), im, nI (tL T), tA T, tB T, sp, bg, tk, va) nf1 sf1 bf jf jb ju xf rf yf of' ∧ ∀ r, r < s.1 → of' r = nI (opN (dW (tD T)) (wL (dW (tD T))) (dn (tD T)) r)) ∧ Fr h s.2 m (m + 11)) (dn (tD T)) (fun z => ∃ h1, z = some (some (.int 1), h1) ∧ RM h1 m _ ∧ Fr h h1 m (m + 11)) ?_ ?_ zF 0 (0, h1) (Nat.zero_le _) (zF_gt (by omega)) ⟨rfl, ⟨of, A, fun r hr => absurd hr (Nat.not_lt_zero r)⟩, f1⟩
      · intro f ⟨c, g⟩ ⟨e1, ⟨of', A1, ho⟩, F1⟩
        dsimp only at e1 A1 ho F1
        subst e1
        show ∃ h1, f_X10_luck_25 (f + 1) m (nI q) (nI (mnN (dW (tD T)) (wL (dW (tD T))) (dn (tD T)))) (nI (dn (tD T))) g = _ ∧ _
        obtain ⟨g2, sf2, b1, b2, b3⟩ := q_X10_luck_105 A1 s1 w1 o.1.1 ow ho kq km
        have codes : f_X10_luck_71 m (nI (mnN (dW (tD T)) (wL (dW (tD T))) (dn (tD T)))) (nI k) g = rI 1 g2 := by
          unfold f_X10_luck_71
          rw [← b1]
          refine zloop (fun f i (s : Nat) => f_X10_luck_78 f m (nI (mnN (dW (tD T)) (wL (dW (tD T))) (dn (tD T)))) (nI k) (nI s) (nI i) g) (fun i => mnN (dW (tD T)) (wL (dW (tD T))) (dn (tD T)) ^ i) k _ ?_ ?_ zF 0 (Nat.zero_le _) (zF_gt (by omega))
          · intro f
            rw [f_X10_luck_78, if_pos (Int32.le_refl _)]
          · intro f i hi
            rw [f_X10_luck_78, if_neg (nI_ge hi (by omega)), zlt_eq, pk_mul, nI_1, Nat.pow_succ]
        rw [f_X10_luck_25, zgR_eq A1.1 rfl, zaI_x 0 0 rfl A1.2.1 (by decide) (by decide), s1.1, en, if_pos (Int32.le_refl _)]
        have emin : (if nI (mnN (dW (tD T)) (wL (dW (tD T))) (dn (tD T))) ≤ nI q then f_X10_luck_71 m (nI (mnN (dW (tD T)) (wL (dW (tD T))) (dn (tD T)))) (nI (mnN (dW (tD T)) (wL (dW (tD T))) (dn (tD T)))) g else f_X10_luck_71 m (nI (mnN (dW (tD T)) (wL (dW (tD T))) (dn (tD T)))) (nI q) g) = f_X10_luck_71 m (nI (mnN (dW (tD T)) (wL (dW (tD T))) (dn (tD T)))) (nI k) g := by
          by_cases z : mnN (dW (tD T)) (wL (dW (tD T))) (dn (tD T)) ≤ q
          · rw [if_pos (nI_le z (by omega)), hk, Nat.min_eq_left (by omega)]
          · rw [if_neg (nI_ge (by omega) (by omega)), hk, Nat.min_eq_right (by omega)]
        rw [emin, codes]
        exact ⟨g2, rfl, RM.mk (T := frT T _ _) b2 B, F1.tr b3⟩
      · intro f i ⟨c, g⟩ hi ⟨e1, ⟨of', A1, ho⟩, F1⟩
        dsimp only at e1 A1 ho F1
        subst e1
        have cl : cntN (offW (dW (tD T)) (wL (dW (tD T)))) i ≤ i := cntN_le _ i
        show ∃ s' : Nat × zH, _ ∧ f_X10_luck_25 (f + 1) m (nI q) (nI (cntN (offW (dW (tD T)) (wL (dW (tD T)))) i)) (nI i) g = f_X10_luck_25 f m (nI q) (nI s'.1) (nI (i + 1)) s'.2
        rw [f_X10_luck_25, zgR_eq A1.1 rfl, zaI_x 0 0 rfl A1.2.1 (by decide) (by decide), s1.1, en, if_neg (nI_ge hi (by omega)), zoc_eq A1.1, zcI_of (q_X10_placeOf A1.1 A1.2.2.1 w2 ow hn (nI i))]
        unfold f_X10_luck_55
        rw [nI_1 i]
        by_cases z : sPl (dW (tD T)).1 (wL (dW (tD T))) (nI i) = -101
        · have eo : offW (dW (tD T)) (wL (dW (tD T))) i = true := decide_eq_true z
          obtain ⟨q1, q2⟩ := rowN_of (offW (dW (tD T)) (wL (dW (tD T)))) hi eo
          rw [if_pos z, zgR_eq A1.1 rfl, zsI_x (nI (cntN (offW (dW (tD T)) (wL (dW (tD T)))) i)) (cntN (offW (dW (tD T)) (wL (dW (tD T)))) i) rfl A1.2.2.2.2.2.2.2.2.2.2 (by omega) (by decide), nI_1]
          obtain ⟨A2, F2⟩ := A1.s10 (upd of' (cntN (offW (dW (tD T)) (wL (dW (tD T)))) i) (nI i))
          refine ⟨(cntN (offW (dW (tD T)) (wL (dW (tD T)))) i + 1, _), ⟨?_, ⟨_, A2, fun r hr => ?_⟩, F1.tr F2⟩, rfl⟩
          · show _ = cntN _ (i + 1)
            rw [cntN, eo, if_pos rfl]
          · by_cases y : r = cntN (offW (dW (tD T)) (wL (dW (tD T)))) i
            · subst y; rw [upd_self]; exact congrArg nI q2.symm
            · rw [upd_ne _ _ y]; exact ho r (by have : r < cntN (offW (dW (tD T)) (wL (dW (tD T)))) i + 1 := hr; omega)
        · have eo : offW (dW (tD T)) (wL (dW (tD T))) i = false := decide_eq_false z
          rw [if_neg z]
          refine ⟨(cntN (offW (dW (tD T)) (wL (dW (tD T)))) i, g), ⟨?_, ⟨of', A1, ho⟩, F1⟩, rfl⟩
          show _ = cntN _ (i + 1)
          rw [cntN, eo, if_neg (by decide)]
