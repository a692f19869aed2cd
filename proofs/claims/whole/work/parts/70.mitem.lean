/-! read: items, the model's way -/
section IM
variable {m N : Nat} {t : Nat → Int32} {M : Mo}
theorem kM_2 {k : Nat} (h : k ≤ 4) : kM k = 2 ↔ k = 2 := by
  unfold kM
  rcases (show k = 0 ∨ k = 1 ∨ k = 2 ∨ k = 3 ∨ k = 4 by omega) with q | q | q | q | q <;> subst q <;> decide
theorem kM_3 {k : Nat} (h : k ≤ 4) : kM k = 3 ↔ k = 3 := by
  unfold kM
  rcases (show k = 0 ∨ k = 1 ∨ k = 2 ∨ k = 3 ∨ k = 4 by omega) with q | q | q | q | q <;> subst q <;> decide
theorem kM_1 {k : Nat} (h : k ≤ 4) : kM k = 1 ↔ k = 1 := by
  unfold kM
  rcases (show k = 0 ∨ k = 1 ∨ k = 2 ∨ k = 3 ∨ k = 4 by omega) with q | q | q | q | q <;> subst q <;> decide
theorem kM_0 {k : Nat} (h : k ≤ 4) : kM k = 0 ↔ k = 0 := by
  unfold kM
  rcases (show k = 0 ∨ k = 1 ∨ k = 2 ∨ k = 3 ∨ k = 4 by omega) with q | q | q | q | q <;> subst q <;> decide
theorem q_isNumber {h : zH} {sp : Nat} {bg tk va lo hi : Int32} (hN : N ≤ 150) (hM : M.2.2.1 = nI N) (hs : sp ≤ N) (r : MO h m (mN M (nI sp) bg tk va)) (tx : TXm h m N t) : ∃ h' va', f_X10_isNumber m lo hi h = rB (numOk t N sp lo hi) h' ∧ MO h' m (mN M (nI (tE t N sp)) (nI (tS t N sp)) (kM (tK t N sp)) va') ∧ (tK t N sp = 2 → va' = tV t N sp) ∧ Fr h h' m (m + 1) := by
  obtain ⟨h1, va1, e1, r1, n1, n2, f1⟩ := q_next hN hM hs r tx
  have k4 := tK_le t N sp
  refine ⟨h1, va1, ?_, r1, n2, f1⟩
  unfold f_X10_isNumber f_X10_isNumber_31 f_X10_isNumber_32 numOk
  rw [zoc_eq r, zcV_of e1, zgI_eq r1 rfl]
  by_cases z : tK t N sp = 2
  · rw [if_pos (show kM (tK t N sp) = 2 from (kM_2 k4).mpr z), zgI_eq r1 rfl]
    show zcI (f_X10_in va1.toInt64 lo.toInt64 hi.toInt64 h1) _ = _
    rw [n2 z, zcI_of (q_X10_inn (tV t N sp) lo hi rfl rfl h1), decide_eq_true z, Bool.true_and, zrZ_0, zrZ_1]
    cases rng lo hi (tV t N sp)
    · rw [if_pos (by decide)]
    · rw [if_neg (by decide)]
  · rw [if_neg (show ¬ kM (tK t N sp) = 2 from fun e => z ((kM_2 k4).mp e)), decide_eq_false z, zrZ_0]; rfl
theorem q_isEnd {h : zH} {sp : Nat} {bg tk va : Int32} (hN : N ≤ 150) (hM : M.2.2.1 = nI N) (hs : sp ≤ N) (r : MO h m (mN M (nI sp) bg tk va)) (tx : TXm h m N t) : ∃ h' va', f_X10_isEnd m h = rB (decide (tK t N sp = 3)) h' ∧ MO h' m (mN M (nI (tE t N sp)) (nI (tS t N sp)) (kM (tK t N sp)) va') ∧ Fr h h' m (m + 1) := by
  obtain ⟨h1, va1, e1, r1, n1, n2, f1⟩ := q_next hN hM hs r tx
  have k4 := tK_le t N sp
  refine ⟨h1, va1, ?_, r1, f1⟩
  unfold f_X10_isEnd f_X10_isEnd_17
  rw [zoc_eq r, zcV_of e1, zgI_eq r1 rfl, zrZ_0, zrZ_1]
  by_cases z : tK t N sp = 3
  · rw [if_pos (show kM (tK t N sp) = 3 from (kM_3 k4).mpr z), decide_eq_true z]
  · rw [if_neg (show ¬ kM (tK t N sp) = 3 from fun e => z ((kM_3 k4).mp e)), decide_eq_false z]
/-- the object and the row aside -/
def FM (h g : zH) (m : Nat) : Prop := g.1 = h.1 ∧ ∀ a, a ≠ m → a ≠ m + 2 → g.2 a = h.2 a
theorem FM.rf {h : zH} : FM h h m := ⟨rfl, fun _ _ _ => rfl⟩
theorem FM.tr {h g k : zH} (a : FM h g m) (b : FM g k m) : FM h k m := ⟨b.1.trans a.1, fun q h1 h2 => (b.2 q h1 h2).trans (a.2 q h1 h2)⟩
theorem FM.o {h g : zH} (f : Fr h g m (m + 1)) : FM h g m := ⟨f.1, fun a h1 h2 => f.2 a (by omega)⟩
theorem FM.s {h g : zH} (f : Fr h g (m + 2) (m + 3)) : FM h g m := ⟨f.1, fun a h1 h2 => f.2 a (by omega)⟩
theorem TXm.fm {h g : zH} (r : TXm h m N t) (f : FM h g m) : TXm g m N t := by
  obtain ⟨q, q1, q2⟩ := r
  exact ⟨q, (f.2 _ (by omega) (by omega)).trans q1, q2⟩
/-- the row aside holds the doll that is read -/
def SRw (sf : Nat → Int32) (S : Sd) (W : Wr) : Prop := RowS sf (ix S.2.1) S ∧ RowW sf (ix S.2.1) (wL W) W ∧ sf 44 = 0 ∧ sf 63 = 0
def itM (h : zH) (m N : Nat) (t : Nat → Int32) (M : Mo) (z : zR) (R : itR) : Prop := ∃ h' tk va sf, z = rB R.1 h' ∧ MO h' m (mN M (nI R.2.2.1) (nI R.2.1) tk va) ∧ MA h' (m + 2) 88 sf ∧ TXm h' m N t ∧ FM h h' m ∧ (R.1 = true → SRw sf R.2.2.2.1 R.2.2.2.2)
theorem itM_bad {h g : zH} {p : Nat} {tk va : Int32} {sf : Nat → Int32} {S : Sd} {W : Wr} {z : zR} (hz : z = rB false g) (r : MO g m (mN M (nI (tE t N p)) (nI (tS t N p)) tk va)) (hA : MA g (m + 2) 88 sf) (tx : TXm g m N t) (F : FM h g m) : itM h m N t M z (itBad t N p S W) := ⟨g, tk, va, sf, hz, r, hA, tx, F, fun e => by cases e⟩
theorem itM_fin {h g : zH} {q : Nat} {bg tk va : Int32} {sf : Nat → Int32} {S : Sd} {W : Wr} {z : zR} (hN : N ≤ 150) (hM : M.2.2.1 = nI N) (hq : q ≤ N) (r : MO g m (mN M (nI q) bg tk va)) (hA : MA g (m + 2) 88 sf) (tx : TXm g m N t) (F : FM h g m) (sr : SRw sf S W) (hz : ∀ b h', f_X10_isEnd m g = rB b h' → z = rB b h') : itM h m N t M z (itFin t N q S W) := by
  obtain ⟨h1, va1, e1, r1, f1⟩ := q_isEnd hN hM hq r tx
  exact ⟨h1, _, va1, sf, hz _ _ e1, r1, hA.keep f1 (by omega), tx.keep f1 (by omega), F.tr (FM.o f1), fun _ => sr⟩
theorem q_item_181 {h : zH} {p k : Nat} {bg tk va what : Int32} {sf : Nat → Int32} {S : Sd} {W : Wr} (hN : N ≤ 150) (hM : M.2.2.1 = nI N) (hp : p ≤ N) (r : MO h m (mN M (nI (tE t N p)) bg tk va)) (hA : MA h (m + 2) 88 sf) (tx : TXm h m N t) (sr : SRw sf S W) (ok : okP S W k) (hk : k < 9999) (hw : what = 0 ∨ what = 1 ∨ what = 2) : itM h m N t M (f_X10_item_181 m what h) (itMove t N what p S W) := by
  obtain ⟨okS_, okV_, v, hv, hvv⟩ := ok
  have n8 : ix S.2.1 ≤ 8 := okS_.2.1
  obtain ⟨s1, s2, s3, s4⟩ := sr
  have eE := (tE_spec (t := t) hp).2.1
  have eE2 := (tE_spec (t := t) eE).2.1
  have wn : ¬ what = -101 := by
    rcases hw with e | e | e <;> subst e <;> decide
  obtain ⟨h1, va1, e1, r1, n1, f1⟩ := q_isNumber (lo := 0) (hi := S.2.1 - 1) hN hM eE r tx
  have hA1 := hA.keep f1 (by omega)
  have tx1 := tx.keep f1 (by omega)
  unfold f_X10_item_181 f_X10_item_227 f_X10_item_228 itMove
  rw [if_neg wn, zgR_eq r rfl, zaI_x 0 0 rfl hA (by decide) (by decide), s1.1, zoc_eq r, zcI_of e1]
  cases q : numOk t N (tE t N p) 0 (S.2.1 - 1) with
  | false =>
    rw [if_pos (by decide), Bool.false_and, if_neg (by decide)]
    exact itM_bad (zrZ_0 h1) r1 hA1 tx1 (FM.o f1)
  | true =>
    unfold numOk at q
    rw [Bool.and_eq_true, decide_eq_true_eq] at q
    obtain ⟨i, hi, ei⟩ := (sHas_nI (n := ix S.2.1) (x := tV t N (tE t N p)) (by omega)).mp (by
      have := q.2
      rw [okS_.1, rng_has (by omega)] at this
      exact this)
    have nme := n1 q.1
    rw [ei] at nme
    subst nme
    obtain ⟨h2, sf2, e2, a2, f2, k2, t2, u2⟩ := q_X10_goMove r1 hA1 s1 s2 okV_.1 okS_ hi hw
    have r2 : MO h2 m (mN M (nI (tE t N (tE t N p))) (nI (tS t N (tE t N p))) (kM (tK t N (tE t N p))) (nI i)) := r1.keep f2 (by omega)
    have tx2 := tx1.keep f2 (by omega)
    have F2 := (FM.o f1).tr (FM.s f2)
    rw [if_neg (by decide), zgI_eq r1 rfl, zoc_eq r1]
    show itM h m N t M (zcI (f_X10_goMove m what (nI i) h1) _) _
    rw [zcI_of e2, ei, ix_nI (by omega), Bool.true_and]
    cases c : canMove S W (wL W) what i with
    | false =>
      rw [if_pos (by decide), if_neg (by decide)]
      exact itM_bad (zrZ_0 h2) r2 a2 tx2 F2
    | true =>
      have kk := (okV_.move n8 hi hw c hvv (by omega)).2
      rw [if_neg (by decide), if_pos rfl, zoc_eq r2]
      refine itM_fin hN hM eE2 r2 a2 tx2 F2 ⟨s1.keep k2 n8, ?_, ?_, ?_⟩ (fun b h' e => ?_)
      · rw [kk]; exact t2 c
      · rw [k2 44 (by omega) (by omega)]; exact s3
      · rw [k2 63 (by omega) (by omega)]; exact s4
      · rw [zcI_of e]
        cases b
        · rw [if_pos (by decide), zrZ_0]
        · rw [if_neg (by decide), zrZ_1]
theorem q_addP {h : zH} {n : Nat} {M' : Mo} {sf : Nat → Int32} (r : MO h m M') (hA : MA h (m + 2) 88 sf) (tx : TXm h m N t) (e : sf 0 = nI n) (h8 : n < 8) (a b c : Int32) : ∃ h4, f_X10_addPiece m a b c h = rV h4 ∧ MA h4 (m + 2) 88 (addF sf n a b c) ∧ MO h4 m M' ∧ TXm h4 m N t ∧ FM h h4 m := by
  unfold f_X10_addPiece
  rw [zgR_eq r rfl, zaI_x 0 0 rfl hA (by decide) (by decide), e, zgR_eq r rfl, zsI_x (12 + nI n) (12 + n) (nI_add 12 n) hA (by omega) (by decide)]
  obtain ⟨r1, A1, f1⟩ := side_set r hA (12 + n) a
  generalize zset h (m + 2) (.inl (0, 88, .inl (upd sf (12 + n) a))) = g1 at r1 A1 f1 ⊢
  rw [zgR_eq r1 rfl, zsI_x (20 + nI n) (20 + n) (nI_add 20 n) A1 (by omega) (by decide)]
  obtain ⟨r2, A2, f2⟩ := side_set r1 A1 (20 + n) b
  generalize zset g1 (m + 2) (.inl (0, 88, .inl (upd (upd sf (12 + n) a) (20 + n) b))) = g2 at r2 A2 f2 ⊢
  rw [zgR_eq r2 rfl, zsI_x (28 + nI n) (28 + n) (nI_add 28 n) A2 (by omega) (by decide)]
  obtain ⟨r3, A3, f3⟩ := side_set r2 A2 (28 + n) c
  generalize zset g2 (m + 2) (.inl (0, 88, .inl (upd (upd (upd sf (12 + n) a) (20 + n) b) (28 + n) c))) = g3 at r3 A3 f3 ⊢
  rw [zgR_eq r3 rfl, zsI_x (36 + nI n) (36 + n) (nI_add 36 n) A3 (by omega) (by decide)]
  obtain ⟨r4, A4, f4⟩ := side_set r3 A3 (36 + n) 0
  generalize zset g3 (m + 2) (.inl (0, 88, .inl (upd (upd (upd (upd sf (12 + n) a) (20 + n) b) (28 + n) c) (36 + n) 0))) = g4 at r4 A4 f4 ⊢
  rw [zgR_eq r4 rfl, zaI_x 0 0 rfl A4 (by decide) (by decide), zsI_x 0 0 rfl A4 (by decide) (by decide), upd_ne _ _ (by omega), upd_ne _ _ (by omega), upd_ne _ _ (by omega), upd_ne _ _ (by omega), e, nI_1]
  obtain ⟨r5, A5, f5⟩ := side_set r4 A4 0 (nI (n + 1))
  have F := (((f1.tr f2).tr f3).tr f4).tr f5
  exact ⟨_, rfl, A5, r5, tx.keep F (by omega), FM.s F⟩
theorem q_item {h : zH} {p k : Nat} {va : Int32} {sf : Nat → Int32} {S : Sd} {W : Wr} (first : Bool) (hN : N ≤ 150) (hM : M.2.2.1 = nI N) (hp : p ≤ N) (r : MO h m (mN M (nI (tE t N p)) (nI (tS t N p)) (kM (tK t N p)) va)) (hv : tK t N p = 1 → va = tW t N p) (hA : MA h (m + 2) 88 sf) (tx : TXm h m N t) (sr : SRw sf S W) (ok : okP S W k) (hk : k < 9999) : itM h m N t M (f_X10_item m (b2i first) h) (itemP t N first p S W) := by
  have k4 := tK_le t N p
  have E1 := (tE_spec (t := t) hp).2.1
  have E2 := (tE_spec (t := t) E1).2.1
  have E3 := (tE_spec (t := t) E2).2.1
  have E4 := (tE_spec (t := t) E3).2.1
  have bad0 : itM h m N t M (zrZ 0 h) (itBad t N p S W) := itM_bad (zrZ_0 h) r hA tx FM.rf
  have ewd : f_X10_item m (b2i first) h = f_X10_item_16 m (b2i first) (wdAt t N p) h := by
    unfold f_X10_item wdAt
    rw [zgI_eq r rfl]
    by_cases z : tK t N p = 1
    · rw [if_pos (show kM (tK t N p) = 1 from (kM_1 k4).mpr z), if_pos z, zgI_eq r rfl]
      show f_X10_item_16 m (b2i first) va h = _
      rw [hv z]
    · rw [if_neg (show ¬ kM (tK t N p) = 1 from fun e => z ((kM_1 k4).mp e)), if_neg z]
  rw [ewd]
  unfold itemP
  generalize wdAt t N p = w
  have key : itM h m N t M (f_X10_item_16 m (b2i first) w h) (if first then (if w = 146828 then (if numOk t N (tE t N p) 0 5 then itFin t N (tE t N (tE t N p)) (tV t N (tE t N p), S.2) W else itBad t N (tE t N p) S W) else itBad t N p S W) else if w = 17077349 ∧ ¬ (8 : Int32) ≤ S.2.1 then itPiece t N p S W else if w = 494 then itMove t N 0 p S W else if w = 15558 then itMove t N 1 p S W else if w = 431556 then itMove t N 2 p S W else itBad t N p S W) := by
    unfold f_X10_item_16
    cases first with
    | true =>
      rw [if_neg (show ¬ b2i true = 0 by decide), if_pos (show true = true from rfl)]
      by_cases z : w = 146828
      · rw [if_pos z, if_pos z]
        obtain ⟨h1, va1, e1, r1, n1, f1⟩ := q_isNumber (lo := 0) (hi := 5) hN hM E1 r tx
        have hA1 := hA.keep f1 (by omega)
        have tx1 := tx.keep f1 (by omega)
        obtain ⟨s1, s2, s3, s4⟩ := sr
        rw [zoc_eq r, zcI_of e1]
        have F2 : Fr h1 (zset h1 (m + 2) (.inl (0, 88, .inl (upd sf 1 va1)))) (m + 2) (m + 3) := Fr.set _ (by omega) (by omega)
        have A2 : MA (zset h1 (m + 2) (.inl (0, 88, .inl (upd sf 1 va1)))) (m + 2) 88 (upd sf 1 va1) := zset_at _ _ _
        have r2 : MO (zset h1 (m + 2) (.inl (0, 88, .inl (upd sf 1 va1)))) m (mN M (nI (tE t N (tE t N p))) (nI (tS t N (tE t N p))) (kM (tK t N (tE t N p))) va1) := r1.keep F2 (by omega)
        have tx2 := tx1.keep F2 (by omega)
        have st : ∀ t0, f_X10_item_41 m t0 h1 = if t0 = 0 then f_X10_item_67 (zset h1 (m + 2) (.inl (0, 88, .inl (upd sf 1 va1)))) else zoc (zset h1 (m + 2) (.inl (0, 88, .inl (upd sf 1 va1)))) m 6 (zcI (f_X10_isEnd m (zset h1 (m + 2) (.inl (0, 88, .inl (upd sf 1 va1))))) fun x4 h5 => if x4 = 0 then f_X10_item_67 h5 else f_X10_item_68 1 h5) := by
          intro t0
          unfold f_X10_item_41
          rw [zgR_eq r1 rfl, zgI_eq r1 rfl, zsI_x 1 1 rfl hA1 (by decide) (by decide)]
        unfold f_X10_item_40
        rw [st 0, st 1, if_pos (show (0 : Int32) = 0 from rfl), if_neg (show ¬ (1 : Int32) = 0 by decide)]
        cases q : numOk t N (tE t N p) 0 5 with
        | false =>
          rw [if_pos (by decide), if_neg (by decide)]
          unfold f_X10_item_67 f_X10_item_68
          exact itM_bad (zrZ_0 _) r2 A2 tx2 ((FM.o f1).tr (FM.s F2))
        | true =>
          have k1 : tK t N (tE t N p) = 2 := by
            unfold numOk at q
            rw [Bool.and_eq_true, decide_eq_true_eq] at q
            exact q.1
          have m1 := n1 k1
          rw [if_neg (by decide), if_pos (show true = true from rfl), zoc_eq r2]
          refine itM_fin hN hM E2 r2 A2 tx2 ((FM.o f1).tr (FM.s F2)) ⟨⟨?_, ?_, fun i hi => ?_⟩, ⟨?_, ?_, fun j hj => ?_, fun i hi => ?_⟩, ?_, ?_⟩ (fun b h' e => ?_)
          · rw [upd_ne _ _ (by decide)]; exact s1.1
          · rw [upd_self]; exact m1
          · have hi : i < ix S.2.1 := hi
            have := ok.1.2.1
            rw [upd_ne _ _ (by omega), upd_ne _ _ (by omega), upd_ne _ _ (by omega)]
            exact s1.2.2 i hi
          · rw [upd_ne _ _ (by decide)]; exact s2.1
          · rw [upd_ne _ _ (by decide)]; exact s2.2.1
          · rw [upd_ne _ _ (by omega)]; exact s2.2.2.1 j hj
          · rw [upd_ne _ _ (by omega)]; exact s2.2.2.2 i hi
          · rw [upd_ne _ _ (by decide)]; exact s3
          · rw [upd_ne _ _ (by decide)]; exact s4
          · unfold f_X10_item_67 f_X10_item_68
            rw [zcI_of e]
            cases b
            · rw [if_pos (by decide), zrZ_0]
            · rw [if_neg (by decide), zrZ_1]
      · rw [if_neg z, if_neg z]
        obtain ⟨s1, s2, s3, s4⟩ := sr
        have F2 : Fr h (zset h (m + 2) (.inl (0, 88, .inl (upd sf 1 va)))) (m + 2) (m + 3) := Fr.set _ (by omega) (by omega)
        have A2 : MA (zset h (m + 2) (.inl (0, 88, .inl (upd sf 1 va)))) (m + 2) 88 (upd sf 1 va) := zset_at _ _ _
        unfold f_X10_item_40 f_X10_item_41 f_X10_item_67 f_X10_item_68
        rw [zgR_eq r rfl, zgI_eq r rfl, zsI_x 1 1 rfl hA (by decide) (by decide), if_pos (show (0 : Int32) = 0 from rfl)]
        exact itM_bad (zrZ_0 _) (r.keep F2 (by omega)) A2 (tx.keep F2 (by omega)) (FM.s F2)
    | false =>
      have tail : ∀ w', ¬ (w' = 17077349 ∧ ¬ (8 : Int32) ≤ S.2.1) → itM h m N t M (f_X10_item_147 m w' h) (if w' = 17077349 ∧ ¬ (8 : Int32) ≤ S.2.1 then itPiece t N p S W else if w' = 494 then itMove t N 0 p S W else if w' = 15558 then itMove t N 1 p S W else if w' = 431556 then itMove t N 2 p S W else itBad t N p S W) := by
        intro w' hne
        unfold f_X10_item_147
        rw [if_neg hne]
        by_cases z2 : w' = 494
        · rw [if_pos z2, if_pos z2]; exact q_item_181 hN hM hp r hA tx sr ok hk (Or.inl rfl)
        · rw [if_neg z2, if_neg z2]
          by_cases z3 : w' = 15558
          · rw [if_pos z3, if_pos z3]; exact q_item_181 hN hM hp r hA tx sr ok hk (Or.inr (Or.inl rfl))
          · rw [if_neg z3, if_neg z3]
            by_cases z4 : w' = 431556
            · rw [if_pos z4, if_pos z4]; exact q_item_181 hN hM hp r hA tx sr ok hk (Or.inr (Or.inr rfl))
            · rw [if_neg z4, if_neg z4]
              unfold f_X10_item_181 f_X10_item_227 f_X10_item_228
              rw [if_pos (show (-101 : Int32) = -101 from rfl)]
              exact bad0
      rw [if_pos (show b2i false = 0 from rfl), if_neg (show ¬ (false = true) by decide)]
      by_cases z1 : w = 17077349
      · rw [if_pos z1, zgR_eq r rfl, zaI_x 0 0 rfl hA (by decide) (by decide), sr.1.1]
        by_cases h8 : (8 : Int32) ≤ S.2.1
        · rw [if_pos h8]
          exact tail w (fun e => e.2 h8)
        · rw [if_neg h8, if_pos ⟨z1, h8⟩]
          obtain ⟨okS_, okV_, v, hv_, hvv⟩ := ok
          have n8 : ix S.2.1 < 8 := by
            rw [okS_.1] at h8
            rcases Nat.lt_or_ge (ix S.2.1) 8 with z | z
            · exact z
            · exact absurd (nI_le (a := 8) z (by have := okS_.2.1; omega)) h8
          obtain ⟨h1, va1, e1, r1, n1, f1⟩ := q_isNumber (lo := 0) (hi := 5) hN hM E1 r tx
          have hA1 := hA.keep f1 (by omega)
          have tx1 := tx.keep f1 (by omega)
          unfold itPiece
          rw [zoc_eq r, zcI_of e1]
          cases q1 : numOk t N (tE t N p) 0 5 with
          | false =>
            rw [if_pos (by decide), if_neg (by decide)]
            exact itM_bad (zrZ_0 _) r1 hA1 tx1 (FM.o f1)
          | true =>
            have k1 : tK t N (tE t N p) = 2 := by
              unfold numOk at q1
              rw [Bool.and_eq_true, decide_eq_true_eq] at q1
              exact q1.1
            have m1 := n1 k1
            subst m1
            obtain ⟨h2, va2, e2, r2, n2, f2⟩ := q_isNumber (lo := 0) (hi := 3) hN hM E2 r1 tx1
            have hA2 := hA1.keep f2 (by omega)
            have tx2 := tx1.keep f2 (by omega)
            have F2 := (FM.o f1).tr (FM.o f2)
            rw [if_neg (by decide), zgI_eq r1 rfl, zoc_eq r1, zcI_of e2, if_pos (show true = true from rfl)]
            cases q2 : numOk t N (tE t N (tE t N p)) 0 3 with
            | false =>
              rw [if_pos (by decide), if_neg (by decide)]
              exact itM_bad (zrZ_0 _) r2 hA2 tx2 F2
            | true =>
              have k2 : tK t N (tE t N (tE t N p)) = 2 := by
                unfold numOk at q2
                rw [Bool.and_eq_true, decide_eq_true_eq] at q2
                exact q2.1
              have m2 := n2 k2
              subst m2
              obtain ⟨h3, va3, e3, r3, n3, f3⟩ := q_isNumber (lo := 1) (hi := 9) hN hM E3 r2 tx2
              have hA3 := hA2.keep f3 (by omega)
              have tx3 := tx2.keep f3 (by omega)
              have F3 := F2.tr (FM.o f3)
              rw [if_neg (by decide), zgI_eq r2 rfl, zoc_eq r2, zcI_of e3, if_pos (show true = true from rfl)]
              cases q3 : numOk t N (tE t N (tE t N (tE t N p))) 1 9 with
              | false =>
                rw [if_pos (by decide), if_neg (by decide)]
                exact itM_bad (zrZ_0 _) r3 hA3 tx3 F3
              | true =>
                have k3 : tK t N (tE t N (tE t N (tE t N p))) = 2 := by
                  unfold numOk at q3
                  rw [Bool.and_eq_true, decide_eq_true_eq] at q3
                  exact q3.1
                have m3 := n3 k3
                subst m3
                obtain ⟨s1, s2, s3, s4⟩ := sr
                obtain ⟨h4, e4, A4, fo4, ftx4, F4⟩ : ∃ h4, f_X10_addPiece m (tV t N (tE t N p)) (tV t N (tE t N (tE t N p))) (tV t N (tE t N (tE t N (tE t N p)))) h3 = rV h4 ∧ MA h4 (m + 2) 88 (addF sf (ix S.2.1) (tV t N (tE t N p)) (tV t N (tE t N (tE t N p))) (tV t N (tE t N (tE t N (tE t N p))))) ∧ MO h4 m (mN M (nI (tE t N (tE t N (tE t N (tE t N p))))) (nI (tS t N (tE t N (tE t N (tE t N p))))) (kM (tK t N (tE t N (tE t N (tE t N p))))) (tV t N (tE t N (tE t N (tE t N p))))) ∧ TXm h4 m N t ∧ FM h3 h4 m := q_addP r3 hA3 tx3 (s1.1.trans okS_.1) n8 _ _ _
                have en : ix (nI (ix S.2.1 + 1)) = ix S.2.1 + 1 := ix_nI (by omega)
                rw [if_neg (by decide), zgI_eq r3 rfl, zoc_eq r3, zcV_of e4, zoc_eq fo4, if_pos (show true = true from rfl)]
                have l8 := okV_.le okS_.2.1
                refine itM_fin hN hM E4 fo4 A4 ftx4 (F3.tr F4) ⟨⟨?_, ?_, fun i hi => ?_⟩, ⟨?_, ?_, fun j hj => ?_, fun i hi => ?_⟩, ?_, ?_⟩ (fun b h' e => ?_)
                · show addF sf (ix S.2.1) _ _ _ 0 = nI (ix S.2.1 + 1)
                  unfold addF; rw [upd_self]
                · rw [addF_else (by omega) (by omega) (by omega) (by omega) (by omega)]; exact s1.2.1
                · have hi : i < ix S.2.1 + 1 := by have z : i < ix (nI (ix S.2.1 + 1)) := hi; rw [en] at z; exact z
                  show addF sf (ix S.2.1) _ _ _ (12 + i) = upd S.2.2.1 (ix S.2.1) _ i ∧ addF sf (ix S.2.1) _ _ _ (20 + i) = upd S.2.2.2.1 (ix S.2.1) _ i ∧ addF sf (ix S.2.1) _ _ _ (28 + i) = upd S.2.2.2.2 (ix S.2.1) _ i
                  by_cases z : i = ix S.2.1
                  · subst z
                    unfold addF
                    rw [upd_self, upd_self, upd_self]
                    refine ⟨?_, ?_, ?_⟩
                    · rw [upd_ne _ _ (by omega), upd_ne _ _ (by omega), upd_ne _ _ (by omega), upd_ne _ _ (by omega), upd_self]
                    · rw [upd_ne _ _ (by omega), upd_ne _ _ (by omega), upd_ne _ _ (by omega), upd_self]
                    · rw [upd_ne _ _ (by omega), upd_ne _ _ (by omega), upd_self]
                  · rw [upd_ne _ _ z, upd_ne _ _ z, upd_ne _ _ z, addF_else (by omega) (by omega) (by omega) (by omega) (by omega), addF_else (by omega) (by omega) (by omega) (by omega) (by omega), addF_else (by omega) (by omega) (by omega) (by omega) (by omega)]
                    exact s1.2.2 i (by omega)
                · rw [addF_else (by omega) (by omega) (by omega) (by omega) (by omega)]; exact s2.1
                · rw [addF_else (by omega) (by omega) (by omega) (by omega) (by omega)]; exact s2.2.1
                · rw [addF_else (by omega) (by omega) (by omega) (by omega) (by omega)]; exact s2.2.2.1 j hj
                · have hi : i < ix S.2.1 + 1 := by have z : i < ix (nI (ix S.2.1 + 1)) := hi; rw [en] at z; exact z
                  by_cases z : i = ix S.2.1
                  · subst z
                    show addF sf (ix S.2.1) _ _ _ (36 + ix S.2.1) = W.2.1 (ix S.2.1)
                    unfold addF
                    rw [upd_ne _ _ (by omega), upd_self]
                    exact (okV_.2.1 _ (Nat.le_refl _) n8).symm
                  · rw [addF_else (by omega) (by omega) (by omega) (by omega) (by omega)]; exact s2.2.2.2 i (by omega)
                · rw [addF_else (by omega) (by omega) (by omega) (by omega) (by omega)]; exact s3
                · rw [addF_else (by omega) (by omega) (by omega) (by omega) (by omega)]; exact s4
                · rw [zcI_of e, zrZ_b]
      · rw [if_neg z1]
        exact tail w (fun e => z1 e.1)
  exact key
end IM
