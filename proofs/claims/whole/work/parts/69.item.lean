/-! read: what an item is; the class's way -/
theorem tK_le (t : Nat → Int32) (N p : Nat) : tK t N p ≤ 4 := by
  unfold tK
  repeat' split
  all_goals omega
section IT
variable (t : Nat → Int32) (N : Nat)
def numOk (p : Nat) (lo hi : Int32) : Bool := decide (tK t N p = 2) && rng lo hi (tV t N p)
def wdAt (p : Nat) : Int32 := if tK t N p = 1 then tW t N p else 0
/-- is it an item; where it stopped, the token's first place and its end; the doll then -/
abbrev itR : Type := Bool × Nat × Nat × Sd × Wr
def itFin (q : Nat) (S : Sd) (W : Wr) : itR := (decide (tK t N q = 3), tS t N q, tE t N q, S, W)
def itBad (q : Nat) (S : Sd) (W : Wr) : itR := (false, tS t N q, tE t N q, S, W)
def itMove (what : Int32) (p : Nat) (S : Sd) (W : Wr) : itR := if numOk t N (tE t N p) 0 (S.2.1 - 1) && canMove S W (wL W) what (ix (tV t N (tE t N p))) then itFin t N (tE t N (tE t N p)) S (moveW W (wL W) what (ix (tV t N (tE t N p)))) else itBad t N (tE t N p) S W
def itPiece (p : Nat) (S : Sd) (W : Wr) : itR := if numOk t N (tE t N p) 0 5 then (if numOk t N (tE t N (tE t N p)) 0 3 then (if numOk t N (tE t N (tE t N (tE t N p))) 1 9 then itFin t N (tE t N (tE t N (tE t N (tE t N p)))) (addS S (ix S.2.1) (tV t N (tE t N p)) (tV t N (tE t N (tE t N p))) (tV t N (tE t N (tE t N (tE t N p))))) W else itBad t N (tE t N (tE t N (tE t N p))) S W) else itBad t N (tE t N (tE t N p)) S W) else itBad t N (tE t N p) S W
def itemP (first : Bool) (p : Nat) (S : Sd) (W : Wr) : itR := if first then (if wdAt t N p = 146828 then (if numOk t N (tE t N p) 0 5 then itFin t N (tE t N (tE t N p)) (tV t N (tE t N p), S.2) W else itBad t N (tE t N p) S W) else itBad t N p S W) else if wdAt t N p = 17077349 ∧ ¬ (8 : Int32) ≤ S.2.1 then itPiece t N p S W else if wdAt t N p = 494 then itMove t N 0 p S W else if wdAt t N p = 15558 then itMove t N 1 p S W else if wdAt t N p = 431556 then itMove t N 2 p S W else itBad t N p S W
end IT
/-- what is known of the doll that is read -/
def okP (S : Sd) (W : Wr) (k : Nat) : Prop := okS (ix S.2.1) S ∧ okV (ix S.2.1) W ∧ ∃ v, v ≤ k ∧ W.2.2.2 = nI v
section IC
variable {x N : Nat} {t : Nat → Int32}
theorem q_readNumber {h : zH} {tk : Int32} {st sp : Nat} {nm lo hi : Int32} (hN : N ≤ 150) (hs : sp ≤ N) (r : RR h x N tk st sp nm) (tx : TXc h x N t) : ∃ h' nm', f_X5_readNumber (x + 74) lo hi h = rB (numOk t N sp lo hi) h' ∧ RR h' x N (nI (tK t N sp)) (tS t N sp) (tE t N sp) nm' ∧ (tK t N sp = 2 → nm' = tV t N sp) ∧ Fr h h' (x + 74) (x + 75) := by
  obtain ⟨h1, nm1, e1, r1, n1, f1⟩ := q_advance hN hs r tx
  have k4 := tK_le t N sp
  refine ⟨h1, nm1, ?_, r1, n1, f1⟩
  unfold f_X5_readNumber f_X5_readNumber_28 f_X5_readNumber_29 numOk
  rw [zoc_eq r, zcV_of e1, zgI_eq r1 rfl]
  by_cases z : tK t N sp = 2
  · rw [if_pos (show nI (tK t N sp) = 2 by rw [z]; rfl), zgI_eq r1 rfl, n1 z, zcI_of (q_X9_in _ _ _ h1), decide_eq_true z, Bool.true_and, zrZ_0, zrZ_1]
    cases rng lo hi (tV t N sp)
    · rw [if_pos (by decide)]
    · rw [if_neg (by decide)]
  · rw [if_neg (show ¬ nI (tK t N sp) = 2 from fun e => z ((nI_eq (b := 2) (by omega) (by decide)).mp e)), decide_eq_false z, zrZ_0]; rfl
/-- the reader and the draft -/
def FD (h g : zH) (x : Nat) : Prop := g.1 = h.1 ∧ ∀ a, (a < x + 35 ∨ (x + 69 ≤ a ∧ a ≠ x + 74)) → g.2 a = h.2 a
theorem FD.rf {h : zH} : FD h h x := ⟨rfl, fun _ _ => rfl⟩
theorem FD.tr {h g k : zH} (a : FD h g x) (b : FD g k x) : FD h k x := ⟨b.1.trans a.1, fun q h1 => (b.2 q h1).trans (a.2 q h1)⟩
theorem FD.r {h g : zH} (f : Fr h g (x + 74) (x + 75)) : FD h g x := ⟨f.1, fun a h1 => f.2 a (by omega)⟩
theorem FD.d {h g : zH} {lo hi : Nat} (f : Fr h g lo hi) (h1 : x + 35 ≤ lo) (h2 : hi ≤ x + 69) : FD h g x := ⟨f.1, fun a h1 => f.2 a (by omega)⟩
theorem TXc.fd {h g : zH} (r : TXc h x N t) (f : FD h g x) : TXc g x N t := by
  obtain ⟨q, q1, q2⟩ := r
  exact ⟨q, (f.2 _ (by omega)).trans q1, q2⟩
def DR (h : zH) (x : Nat) (S : Sd) (W : Wr) : Prop := ∃ D, RD h (x + 35) D ∧ D.1 = S ∧ dW D = W ∧ dPc D = 0 ∧ dNc D = 0 ∧ dMc D = 0
theorem DR.kr {h g : zH} {S : Sd} {W : Wr} (r : DR h x S W) (f : Fr h g (x + 74) (x + 75)) : DR g x S W := by
  obtain ⟨D, d, rest⟩ := r
  exact ⟨D, d.keep f (by omega), rest⟩
/-- the answer of an item, on the class's side -/
def itC (h : zH) (x N : Nat) (t : Nat → Int32) (z : zR) (R : itR) : Prop := ∃ h' tk nm, z = rB R.1 h' ∧ RR h' x N tk R.2.1 R.2.2.1 nm ∧ TXc h' x N t ∧ FD h h' x ∧ (∃ D, RD h' (x + 35) D) ∧ (R.1 = true → DR h' x R.2.2.2.1 R.2.2.2.2)
theorem itC_bad {h g : zH} {p : Nat} {tk nm : Int32} {S S' : Sd} {W W' : Wr} (r : RR g x N tk (tS t N p) (tE t N p) nm) (tx : TXc g x N t) (F : FD h g x) (d : DR g x S' W') : itC h x N t (f_X5_readItem_130 (x + 74) 0 g) (itBad t N p S W) := by
  obtain ⟨D, d1, -⟩ := d
  refine ⟨g, tk, nm, ?_, r, tx, F, ⟨D, d1⟩, fun e => by cases e⟩
  unfold f_X5_readItem_130
  rw [if_pos rfl, zrZ_0]; rfl
theorem itC_fin {h g : zH} {q : Nat} {tk nm : Int32} {st : Nat} {S : Sd} {W : Wr} (hN : N ≤ 150) (hq : q ≤ N) (r : RR g x N tk st q nm) (tx : TXc g x N t) (F : FD h g x) (d : DR g x S W) : itC h x N t (f_X5_readItem_130 (x + 74) 1 g) (itFin t N q S W) := by
  obtain ⟨h1, nm1, e1, r1, n1, f1⟩ := q_advance hN hq r tx
  have k4 := tK_le t N q
  obtain ⟨D, d1, d2⟩ := d.kr f1
  refine ⟨h1, _, nm1, ?_, r1, tx.keep f1 (by omega), F.tr (FD.r f1), ⟨D, d1⟩, fun _ => ⟨D, d1, d2⟩⟩
  unfold f_X5_readItem_130 f_X5_readItem_153
  rw [if_neg (by decide), zoc_eq r, zcV_of e1, zgI_eq r1 rfl, zrZ_0, zrZ_1]
  show _ = rB (decide (tK t N q = 3)) h1
  by_cases z : tK t N q = 3
  · rw [if_pos (show nI (tK t N q) = 3 by rw [z]; rfl), decide_eq_true z]
  · rw [if_neg (show ¬ nI (tK t N q) = 3 from fun e => z ((nI_eq (b := 3) (by omega) (by decide)).mp e)), decide_eq_false z]
theorem q_readMove {h : zH} {p k : Nat} {tk nm what : Int32} {st : Nat} {S : Sd} {W : Wr} (hN : N ≤ 150) (hp : p ≤ N) (r : RR h x N tk st (tE t N p) nm) (tx : TXc h x N t) (d : DR h x S W) (ok : okP S W k) (hw : what = 0 ∨ what = 1 ∨ what = 2) {f : Int32 → zH → zR} (hf0 : ∀ g, f 0 g = f_X5_readItem_130 (x + 74) 0 g) (hf1 : ∀ g, f 1 g = f_X5_readItem_130 (x + 74) 1 g) : itC h x N t (zcI (f_X5_readMove (x + 74) (x + 35) what h) f) (itMove t N what p S W) := by
  obtain ⟨D, d1, d2, d3, d4, d5, d6⟩ := d
  obtain ⟨okS_, okV_, v, hv, hvv⟩ := ok
  have n8 : ix S.2.1 ≤ 8 := okS_.2.1
  have eE := (tE_spec (t := t) hp).2.1
  have eE2 := (tE_spec (t := t) eE).2.1
  obtain ⟨h1, nm1, e1, r1, n1, f1⟩ := q_readNumber (lo := 0) (hi := S.2.1 - 1) hN eE r tx
  have d1' := d1.keep f1 (by omega)
  have tx1 := tx.keep f1 (by omega)
  have dr1 : DR h1 x S W := ⟨D, d1', d2, d3, d4, d5, d6⟩
  subst d2
  subst d3
  unfold f_X5_readMove f_X5_readMove_30 itMove
  rw [zgI_eq d1.1 rfl, zoc_eq r, zcI_of e1]
  cases q : numOk t N (tE t N p) 0 (D.1.2.1 - 1) with
  | false =>
    rw [if_pos (by decide), zrZ_0, zcI_of (show rB false h1 = rI 0 h1 from rfl), Bool.false_and, if_neg (by decide), hf0]
    exact itC_bad r1 tx1 (FD.r f1) dr1
  | true =>
    have q0 := q
    unfold numOk at q
    rw [Bool.and_eq_true, decide_eq_true_eq] at q
    have hh : sHas D.1.2.1 (tV t N (tE t N p)) = true := by
      have := q.2
      rw [okS_.1, rng_has (by omega)] at this
      rw [okS_.1]; exact this
    obtain ⟨i, hi, ei⟩ := (sHas_nI (n := ix D.1.2.1) (by omega)).mp (by rw [← okS_.1]; exact hh)
    have nme := n1 q.1
    rw [ei] at nme
    subst nme
    rw [if_neg (by decide), zgR_eq d1'.1 rfl, zgI_eq r1 rfl, zoc_eq d1'.1, zcI_of (q_X1_mayMove d1'.RS okS_ d1'.2.2.2.2.1 okV_.1 hi hw), ei, ix_nI (by omega), Bool.true_and]
    cases c : canMove D.1 (dW D) (wL (dW D)) what i with
    | false =>
      rw [if_pos (by decide), zrZ_0, zcI_of (show rB false h1 = rI 0 h1 from rfl), if_neg (by decide), hf0]
      exact itC_bad r1 tx1 (FD.r f1) dr1
    | true =>
      obtain ⟨h2, e2, w2, f2⟩ := q_X1_moveC d1'.RS okS_ d1'.2.2.2.2.1 okV_.1 hi hw (Or.inl c)
      have d2' := d1'.wear (f2.wide (by omega) (by omega)) w2
      have fd2 : FD h1 h2 x := FD.d f2 (by omega) (by omega)
      rw [if_neg (by decide), zgR_eq d1'.1 rfl, zgI_eq r1 rfl, zoc_eq d1'.1, zcV_of e2, zrZ_1, zcI_of (show rB true h2 = rI 1 h2 from rfl), if_pos rfl, hf1]
      exact itC_fin hN eE2 ((f2.2 _ (by omega)).trans r1) (tx1.fd fd2) ((FD.r f1).tr fd2) ⟨_, d2', rfl, rfl, d4, d5, d6⟩
theorem q_readPiece {h : zH} {p k : Nat} {tk nm : Int32} {st : Nat} {S : Sd} {W : Wr} (hN : N ≤ 150) (hp : p ≤ N) (r : RR h x N tk st (tE t N p) nm) (tx : TXc h x N t) (d : DR h x S W) (ok : okP S W k) (h8 : ¬ (8 : Int32) ≤ S.2.1) {f : Int32 → zH → zR} (hf0 : ∀ g, f 0 g = f_X5_readItem_130 (x + 74) 0 g) (hf1 : ∀ g, f 1 g = f_X5_readItem_130 (x + 74) 1 g) : itC h x N t (zcI (f_X5_readPiece (x + 74) (x + 35) h) f) (itPiece t N p S W) := by
  obtain ⟨okS_, okV_, v, hv, hvv⟩ := ok
  have n8 : ix S.2.1 < 8 := by
    rw [okS_.1] at h8
    rcases Nat.lt_or_ge (ix S.2.1) 8 with z | z
    · exact z
    · exact absurd (nI_le (a := 8) z (by have := okS_.2.1; omega)) h8
  have E1 := (tE_spec (t := t) hp).2.1
  have E2 := (tE_spec (t := t) E1).2.1
  have E3 := (tE_spec (t := t) E2).2.1
  have E4 := (tE_spec (t := t) E3).2.1
  obtain ⟨h1, nm1, e1, r1, n1, f1⟩ := q_readNumber (lo := 0) (hi := 5) hN E1 r tx
  have tx1 := tx.keep f1 (by omega)
  have dr1 := d.kr f1
  unfold f_X5_readPiece itPiece
  rw [zoc_eq r, zcI_of e1]
  cases q1 : numOk t N (tE t N p) 0 5 with
  | false =>
    rw [if_pos (by decide), zrZ_0, zcI_of (show rB false h1 = rI 0 h1 from rfl), if_neg (by decide), hf0]
    exact itC_bad r1 tx1 (FD.r f1) dr1
  | true =>
    have k1 : tK t N (tE t N p) = 2 := by
      unfold numOk at q1
      rw [Bool.and_eq_true, decide_eq_true_eq] at q1
      exact q1.1
    have m1 := n1 k1
    subst m1
    obtain ⟨h2, nm2, e2, r2, n2, f2⟩ := q_readNumber (lo := 0) (hi := 3) hN E2 r1 tx1
    have tx2 := tx1.keep f2 (by omega)
    have dr2 := dr1.kr f2
    have F2 := (FD.r f1).tr (FD.r f2)
    rw [if_neg (by decide), zgI_eq r1 rfl, zoc_eq r1, zcI_of e2, if_pos (show true = true from rfl)]
    cases q2 : numOk t N (tE t N (tE t N p)) 0 3 with
    | false =>
      rw [if_pos (by decide), zrZ_0, zcI_of (show rB false h2 = rI 0 h2 from rfl), if_neg (by decide), hf0]
      exact itC_bad r2 tx2 F2 dr2
    | true =>
      have k2 : tK t N (tE t N (tE t N p)) = 2 := by
        unfold numOk at q2
        rw [Bool.and_eq_true, decide_eq_true_eq] at q2
        exact q2.1
      have m2 := n2 k2
      subst m2
      obtain ⟨h3, nm3, e3, r3, n3, f3⟩ := q_readNumber (lo := 1) (hi := 9) hN E3 r2 tx2
      have tx3 := tx2.keep f3 (by omega)
      have dr3 := dr2.kr f3
      have F3 := F2.tr (FD.r f3)
      rw [if_neg (by decide), zgI_eq r2 rfl, zoc_eq r2, zcI_of e3, if_pos (show true = true from rfl)]
      cases q3 : numOk t N (tE t N (tE t N (tE t N p))) 1 9 with
      | false =>
        rw [if_pos (by decide), zrZ_0, zcI_of (show rB false h3 = rI 0 h3 from rfl), if_neg (by decide), hf0]
        exact itC_bad r3 tx3 F3 dr3
      | true =>
        have k3 : tK t N (tE t N (tE t N (tE t N p))) = 2 := by
          unfold numOk at q3
          rw [Bool.and_eq_true, decide_eq_true_eq] at q3
          exact q3.1
        have m3 := n3 k3
        subst m3
        obtain ⟨D, d1, d2, d3, d4, d5, d6⟩ := dr3
        obtain ⟨h4, e4, d1', f4⟩ := q_X1_addPiece (n := ix S.2.1) d1 (by rw [d2]; exact okS_.1) n8 (tV t N (tE t N p)) (tV t N (tE t N (tE t N p))) (tV t N (tE t N (tE t N (tE t N p))))
        have fd4 : FD h3 h4 x := FD.d f4 (by omega) (by omega)
        rw [if_neg (by decide), zgI_eq r3 rfl, zoc_eq d1.1, zcV_of e4, zrZ_1, zcI_of (show rB true h4 = rI 1 h4 from rfl), if_pos rfl, hf1]
        refine itC_fin hN E4 ((f4.2 _ (by omega)).trans r3) (tx3.fd fd4) (F3.tr fd4) ⟨_, d1', ?_, d3, rfl, d5, d6⟩
        rw [← d2]
theorem q_readItem {h : zH} {p k : Nat} {nm : Int32} {S : Sd} {W : Wr} (first : Bool) (hN : N ≤ 150) (hp : p ≤ N) (hl : ∀ j, j < N → ∃ c, c < 128 ∧ t j = nI c) (r : RR h x N (nI (tK t N p)) (tS t N p) (tE t N p) nm) (tx : TXc h x N t) (d : DR h x S W) (ok : okP S W k) : itC h x N t (f_X5_readItem (x + 74) (x + 35) (b2i first) h) (itemP t N first p S W) := by
  have k4 := tK_le t N p
  have sS := tS_spec (t := t) hp
  have sE := tE_spec (t := t) hp
  have bad : itC h x N t (zrZ 0 h) (itBad t N p S W) := by
    have := itC_bad (h := h) (S := S) (W := W) r tx FD.rf d
    unfold f_X5_readItem_130 at this
    rw [if_pos rfl] at this
    exact this
  unfold f_X5_readItem f_X5_readItem_18
  rw [zgI_eq r rfl]
  by_cases kw : tK t N p = 1
  · rw [if_pos (show nI (tK t N p) = 1 by rw [kw]; rfl)]
    have ew : wdAt t N p = tW t N p := by unfold wdAt; rw [if_pos kw]
    -- the letters
    have eL : ∀ j, j < tE t N p - tS t N p → ∃ a, 1 ≤ a ∧ a ≤ 26 ∧ t (tS t N p + j) = nI (96 + a) := by
      intro j hj
      have sn : ¬ tS t N p = N := fun e => by
        unfold tK at kw
        rw [if_pos e] at kw; cases kw
      have ql : qL t (tS t N p) = true := by
        unfold tK at kw
        rw [if_neg sn] at kw
        cases q : qL t (tS t N p) with
        | true => rfl
        | false =>
          rw [q, if_neg (by decide)] at kw
          split at kw
          · split at kw <;> cases kw
          · split at kw <;> cases kw
      have ee : tE t N p = runN (qL t) N (tS t N p) := by
        unfold tE
        rw [if_neg sn, ql, if_pos rfl]
      have := (runN_spec (q := qL t) (N := N) (p := tS t N p) sS.2).2.2.1 (tS t N p + j) (by omega) (by omega)
      unfold qL at this
      obtain ⟨c, hc, ec⟩ := hl (tS t N p + j) (by omega)
      rw [ec] at this ⊢
      unfold rng at this
      rw [Bool.and_eq_true, decide_eq_true_eq, decide_eq_true_eq] at this
      have g1 := (nI_leI (a := 97) (b := c) (by decide) (by omega)).mp this.1
      have g2 := (nI_leI (a := c) (b := 122) (by omega) (by decide)).mp this.2
      exact ⟨c - 96, by omega, by omega, by rw [show 96 + (c - 96) = c by omega]⟩
    have w := fun i (hi : i < 5) => q_X5_isWord r tx hN hi sE.1 sE.2.1
    have w0 := wdIs_0 eL
    have w1 := wdIs_1 eL
    have w2 := wdIs_2 eL
    have w3 := wdIs_3 eL
    have w4 := wdIs_4 eL
    rw [← show tW t N p = wdV t (tS t N p) (tE t N p - tS t N p) from rfl] at w0 w1 w2 w3 w4
    have no : ∀ {C : Int32} {b : Bool}, (tW t N p = C ↔ b = true) → ¬ tW t N p = C → b = false := by
      intro C b h1 h2
      cases b with
      | false => rfl
      | true => exact absurd (h1.mpr rfl) h2
    unfold itemP
    rw [ew, zoc_eq r, zcI_of (w 0 (by omega))]
    cases first with
    | true =>
      rw [if_pos (show true = true from rfl)]
      by_cases z : tW t N p = 146828
      · obtain ⟨h1, nm1, e1, r1, n1, f1⟩ := q_readNumber (lo := 0) (hi := 5) hN sE.2.1 r tx
        have tx1 := tx.keep f1 (by omega)
        have E2 := (tE_spec (t := t) sE.2.1).2.1
        rw [w0.mp z, if_pos (show b2i true = b2i true from rfl), if_neg (show ¬ b2i true = 0 by decide), if_pos z, zoc_eq r]
        unfold f_X5_readChild
        rw [zoc_eq r, zcI_of e1]
        cases q : numOk t N (tE t N p) 0 5 with
        | false =>
          rw [if_pos (by decide), zrZ_0, zcI_of (show rB false h1 = rI 0 h1 from rfl), if_neg (by decide)]
          exact itC_bad r1 tx1 (FD.r f1) (d.kr f1)
        | true =>
          have k1 : tK t N (tE t N p) = 2 := by
            unfold numOk at q
            rw [Bool.and_eq_true, decide_eq_true_eq] at q
            exact q.1
          have m1 := n1 k1
          subst m1
          obtain ⟨D, d1, d2, d3, d4, d5, d6⟩ := d.kr f1
          have d1' := d1.obj (D2 := ((tV t N (tE t N p), D.1.2), D.2)) rfl rfl rfl rfl rfl
          rw [if_neg (by decide), zgI_eq r1 rfl, zpV_eq d1.1 (Nat.le_of_ble_eq_true rfl)]
          have F2 : Fr h1 (zset h1 (x + 35) (rdE (x + 35) ((tV t N (tE t N p), D.1.2), D.2))) (x + 35) (x + 36) := Fr.set _ (by omega) (by omega)
          dsimp only [List.set, rdE] at d1' F2 ⊢
          generalize zset h1 (x + 35) _ = g2 at d1' F2 ⊢
          have fd2 : FD h1 g2 x := FD.d F2 (by omega) (by omega)
          rw [zrZ_1, zcI_of (show rB true g2 = rI 1 g2 from rfl), if_pos (show true = true from rfl)]
          refine itC_fin hN E2 ((F2.2 _ (by omega)).trans r1) (tx1.fd fd2) ((FD.r f1).tr fd2) ⟨_, d1', ?_, d3, d4, d5, d6⟩
          rw [← d2]
      · rw [no w0 z, if_neg (show ¬ b2i false = b2i true by decide), if_neg z]
        exact bad
    | false =>
      rw [if_neg (show ¬ (false = true) by decide)]
      by_cases z0 : tW t N p = 146828
      · rw [w0.mp z0, if_neg (show ¬ b2i true = b2i false by decide), if_neg (fun e => by have := z0.symm.trans e.1; exact absurd this (by decide)), if_neg (by rw [z0]; decide), if_neg (by rw [z0]; decide), if_neg (by rw [z0]; decide)]
        exact bad
      · rw [no w0 z0, if_pos (show b2i false = b2i false from rfl), if_pos (show b2i false = 0 from rfl), zoc_eq r, zcI_of (w 1 (by omega))]
        by_cases z1 : tW t N p = 17077349
        · rw [w1.mp z1, if_neg (show ¬ b2i true = 0 by decide)]
          obtain ⟨D, d1, d2, d3, d4, d5, d6⟩ := id d
          rw [zgI_eq d1.1 rfl, show D.1.2.1 = S.2.1 by rw [d2]]
          by_cases h8 : (8 : Int32) ≤ S.2.1
          · rw [if_pos h8, if_neg (fun e => e.2 h8), if_neg (by rw [z1]; decide), if_neg (by rw [z1]; decide), if_neg (by rw [z1]; decide)]
            unfold f_X5_readItem_63 f_X5_readItem_64
            exact itC_bad r tx FD.rf d
          · rw [if_neg h8, if_pos ⟨z1, h8⟩, zoc_eq r]
            refine q_readPiece hN hp r tx d ok h8 (fun g => ?_) (fun g => ?_)
            · rw [if_pos rfl]; rfl
            · rw [if_neg (by decide)]; rfl
        · rw [no w1 z1, if_pos (show b2i false = 0 from rfl), if_neg (fun e => z1 e.1), zoc_eq r, zcI_of (w 2 (by omega))]
          by_cases z2 : tW t N p = 494
          · rw [w2.mp z2, if_neg (show ¬ b2i true = 0 by decide), if_pos z2, zoc_eq r]
            exact q_readMove hN hp r tx d ok (Or.inl rfl) (fun g => rfl) (fun g => rfl)
          · rw [no w2 z2, if_pos (show b2i false = 0 from rfl), if_neg z2, zoc_eq r, zcI_of (w 3 (by omega))]
            by_cases z3 : tW t N p = 15558
            · rw [w3.mp z3, if_neg (show ¬ b2i true = 0 by decide), if_pos z3, zoc_eq r]
              exact q_readMove hN hp r tx d ok (Or.inr (Or.inl rfl)) (fun g => rfl) (fun g => rfl)
            · rw [no w3 z3, if_pos (show b2i false = 0 from rfl), if_neg z3, zoc_eq r, zcI_of (w 4 (by omega))]
              by_cases z4 : tW t N p = 431556
              · rw [w4.mp z4, if_neg (show ¬ b2i true = 0 by decide), if_pos z4, zoc_eq r]
                refine q_readMove hN hp r tx d ok (Or.inr (Or.inr rfl)) (fun g => ?_) (fun g => ?_)
                · rw [if_pos rfl]; rfl
                · rw [if_neg (by decide)]; rfl
              · rw [no w4 z4, if_pos (show b2i false = 0 from rfl), if_neg z4]
                unfold f_X5_readItem_128 f_X5_readItem_129
                exact itC_bad r tx FD.rf d
  · have ew : wdAt t N p = 0 := by unfold wdAt; rw [if_neg kw]
    rw [if_neg (show ¬ nI (tK t N p) = 1 from fun e => kw ((nI_eq (b := 1) (by omega) (by decide)).mp e))]
    unfold itemP
    rw [ew, if_neg (show ¬ (0 : Int32) = 146828 by decide), if_neg (show ¬ ((0 : Int32) = 17077349 ∧ ¬ (8 : Int32) ≤ S.2.1) from fun e => absurd e.1 (by decide)), if_neg (show ¬ (0 : Int32) = 494 by decide), if_neg (show ¬ (0 : Int32) = 15558 by decide), if_neg (show ¬ (0 : Int32) = 431556 by decide)]
    split <;> exact bad
end IC
