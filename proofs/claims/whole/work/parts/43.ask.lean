/-! of, seen, can, off, going -/
theorem seven {j : Nat} (h : j ≤ 6) : j = 0 ∨ j = 1 ∨ j = 2 ∨ j = 3 ∨ j = 4 ∨ j = 5 ∨ j = 6 := by omega
theorem op_of (a v : Int32) : Both (fun x => f_X9_of x a v) (fun m => f_X10_of m a v) := by
  refine Both.of2 (fun T o => ?_)
  obtain ⟨en, hn⟩ := o.1.n
  cases hh : sHas (tD T).1.2.1 a with
  | false =>
    refine of2Bad o ?_ ?_
    · intro h x r h1 e1
      show f_X9_of x a v h = _
      unfold f_X9_of
      rw [zgR_eq r.1 rfl, zoc_eq r.2.1.1, zcI_of (q_X1_has r.2.1.RS a), hh, if_pos (by decide), zoc_eq r.1, zcI_of e1]
      rfl
    · intro h m r h1 e1
      obtain ⟨M, nf, n0, n1, n2, n3, n4⟩ := r.now
      show f_X10_of m a v h = _
      unfold f_X10_of f_X10_of_20
      rw [zoc_eq n0, zcI_of (q_X10_isPiece n0 n1 (n2.1.trans en) hn a), ← en, hh, if_pos (by decide), zoc_eq n0, zcI_of e1]
      rfl
  | true =>
    obtain ⟨i, hi, ea⟩ := (sHas_nI (n := dn (tD T)) (x := a) (by omega)).mp (by rw [← en]; exact hh)
    subst ea
    cases hv : rng 0 6 v with
    | false =>
      have hne : ∀ j, j ≤ 6 → ¬ v = nI j := fun j hj e => by
        have := (rng_0 (b := 6) (x := v) (n := 6) rfl (by decide)).mpr ⟨j, hj, e⟩
        rw [hv] at this; exact absurd this (by decide)
      refine of2Bad o ?_ ?_
      · intro h x r h1 e1
        show f_X9_of x (nI i) v h = _
        unfold f_X9_of
        rw [zgR_eq r.1 rfl, zoc_eq r.2.1.1, zcI_of (q_X1_has r.2.1.RS _), hh, if_neg (by decide), if_neg (show ¬ v = 0 from hne 0 (by omega)), if_neg (show ¬ v = 1 from hne 1 (by omega)), if_neg (show ¬ v = 2 from hne 2 (by omega)), if_neg (show ¬ v = 3 from hne 3 (by omega)), if_neg (show ¬ v = 4 from hne 4 (by omega)), if_neg (show ¬ v = 5 from hne 5 (by omega)), if_neg (show ¬ v = 6 from hne 6 (by omega)), zoc_eq r.1, zcI_of e1]
        rfl
      · intro h m r h1 e1
        obtain ⟨M, nf, n0, n1, n2, n3, n4⟩ := r.now
        show f_X10_of m (nI i) v h = _
        unfold f_X10_of f_X10_of_20
        rw [zoc_eq n0, zcI_of (q_X10_isPiece n0 n1 (n2.1.trans en) hn _), ← en, hh, if_neg (by decide), zcI_of (q_X10_inn v 0 6 (A := 0) (B := 6) (by decide) (by decide) h), hv, if_pos (by decide), zoc_eq n0, zcI_of e1]
        rfl
    | true =>
      obtain ⟨j, hj, ev⟩ := (rng_0 (b := 6) (x := v) (n := 6) rfl (by decide)).mp hv
      refine ⟨.int (if j = 0 then (tD T).1.2.2.1 i else if j = 1 then (tD T).1.2.2.2.1 i else if j = 2 then (tD T).1.2.2.2.2 i else if j = 3 then (dW (tD T)).2.1 i else if j = 4 then sPl (dW (tD T)).1 (wL (dW (tD T))) (nI i) else if j = 5 then sCov ((tD T).1.2.2.1 i) else sHol ((tD T).1.2.2.1 i) ((tD T).1.2.2.2.2 i) ((dW (tD T)).2.1 i)), T, o, ?_, ?_⟩
      · intro h x r
        refine ⟨h, ?_, r, Fr.rf⟩
        show f_X9_of x (nI i) v h = _
        unfold f_X9_of
        have rd := r.2.1
        have ow := o.1.2.1.1
        rw [zgR_eq r.1 rfl, zoc_eq r.2.1.1, zcI_of (q_X1_has r.2.1.RS _), hh, if_neg (by decide)]
        rcases seven hj with q | q | q | q | q | q | q <;> subst q <;> subst ev
        · rw [if_pos (show nI 0 = 0 from rfl), zgR_eq r.1 rfl, zgR_eq rd.1 rfl, zaI_x (nI i) i rfl rd.2.1 (by omega) (by decide)]; rfl
        · rw [if_neg (by decide), if_pos (show nI 1 = 1 from rfl), zgR_eq r.1 rfl, zgR_eq rd.1 rfl, zaI_x (nI i) i rfl rd.2.2.1 (by omega) (by decide)]; rfl
        · rw [if_neg (by decide), if_neg (by decide), if_pos (show nI 2 = 2 from rfl), zgR_eq r.1 rfl, zgR_eq rd.1 rfl, zaI_x (nI i) i rfl rd.2.2.2.1 (by omega) (by decide)]; rfl
        · rw [if_neg (by decide), if_neg (by decide), if_neg (by decide), if_pos (show nI 3 = 3 from rfl), zgR_eq r.1 rfl, zgR_eq rd.1 rfl, zgR_eq rd.2.2.2.2.1.1 rfl, zaI_x (nI i) i rfl rd.2.2.2.2.1.2.2 (by omega) (by decide)]; rfl
        · rw [if_neg (by decide), if_neg (by decide), if_neg (by decide), if_neg (by decide), if_pos (show nI 4 = 4 from rfl), zgR_eq r.1 rfl, zgR_eq rd.1 rfl, zoc_eq rd.2.2.2.2.1.1, zcI_of (q_X8_placeOf rd.2.2.2.2.1 ow.1 (o.1.2.1.le hn) (nI i))]; rfl
        · rw [if_neg (by decide), if_neg (by decide), if_neg (by decide), if_neg (by decide), if_neg (by decide), if_pos (show nI 5 = 5 from rfl), zgR_eq r.1 rfl, zoc_eq rd.1, zcI_of (q_X1_spotsOf rd.RS o.1.1 hi)]; rfl
        · rw [if_neg (by decide), if_neg (by decide), if_neg (by decide), if_neg (by decide), if_neg (by decide), if_neg (by decide), if_pos (show nI 6 = 6 from rfl), zgR_eq r.1 rfl, zgR_eq r.1 rfl, zgR_eq rd.1 rfl, zoc_eq rd.1, zcI_of (q_X1_holdOf rd.RS o.1.1 rd.2.2.2.2.1 hi)]; rfl
      · intro h m r
        obtain ⟨M0, nf0, m0, m1, m2, m3, m4⟩ := r.now
        obtain ⟨h1, M, nf, sf, e1, n0, n1, n2, s1, w1, -, s2, w2, r1, f1⟩ := r.aside o
        refine ⟨h1, ?_, r1, f1⟩
        have ow := o.1.2.1.1
        show f_X10_of m (nI i) v h = _
        unfold f_X10_of
        rw [zoc_eq m0, zcI_of (q_X10_isPiece m0 m1 (m2.1.trans en) hn _), ← en, hh, if_neg (by decide), zcI_of (q_X10_inn v 0 6 (A := 0) (B := 6) (by decide) (by decide) h), hv, if_neg (by decide), zoc_eq m0, zcV_of e1]
        obtain ⟨t1, t2, t3⟩ := s1.2.2 i hi
        rcases seven hj with q | q | q | q | q | q | q <;> subst q <;> subst ev
        · rw [if_pos (show nI 0 = 0 from rfl), zgR_eq n0 rfl, zaI_x (12 + nI i) (12 + i) (nI_add 12 i) n1 (by omega) (by decide), t1]; rfl
        · rw [if_neg (by decide), if_pos (show nI 1 = 1 from rfl), zgR_eq n0 rfl, zaI_x (20 + nI i) (20 + i) (nI_add 20 i) n1 (by omega) (by decide), t2]; rfl
        · rw [if_neg (by decide), if_neg (by decide), if_pos (show nI 2 = 2 from rfl), zgR_eq n0 rfl, zaI_x (28 + nI i) (28 + i) (nI_add 28 i) n1 (by omega) (by decide), t3]; rfl
        · rw [if_neg (by decide), if_neg (by decide), if_neg (by decide), if_pos (show nI 3 = 3 from rfl), zgR_eq n0 rfl, zaI_x (36 + nI i) (36 + i) (nI_add 36 i) n1 (by omega) (by decide), w1.2.2.2 i hi]; rfl
        · rw [if_neg (by decide), if_neg (by decide), if_neg (by decide), if_neg (by decide), if_pos (show nI 4 = 4 from rfl), zoc_eq n0, zcI_of (q_X10_placeOf n0 n2 w2 ow hn (nI i))]; rfl
        · rw [if_neg (by decide), if_neg (by decide), if_neg (by decide), if_neg (by decide), if_neg (by decide), if_pos (show nI 5 = 5 from rfl), zgR_eq n0 rfl, zaI_x (12 + nI i) (12 + i) (nI_add 12 i) n1 (by omega) (by decide), t1, zcI_of (q_X10_covers _ h1)]; rfl
        · rw [if_neg (by decide), if_neg (by decide), if_neg (by decide), if_neg (by decide), if_neg (by decide), if_neg (by decide), zoc_eq n0, zcI_of (q_X10_holdsOf n0 n2 s2 w2 hn hi)]; rfl
theorem orIf {α : Type} (F : Int32 → α) (b : Bool) (a s : Int32) : (if b2i b = 0 then F (a ||| 0) else F (a ||| s)) = F (if b then a ||| s else a) := by
  cases b
  · rw [if_pos (by decide), or0]; rfl
  · rw [if_neg (by decide)]; rfl
theorem q_X10_canSet {h : zH} {m : Nat} {T : Tt} (r : RM h m T) (o : okT T) : ∃ h1, f_X10_canSet m h = rI (mkI (canMove (tD T).1 (dW (tD T)) (wL (dW (tD T))) 0) (dn (tD T))) h1 ∧ RM h1 m T ∧ Fr h h1 m (m + 11) := by
  obtain ⟨en, hn⟩ := o.1.n
  obtain ⟨M0, nf0, m0, m1, m2, m3, m4⟩ := r.now
  obtain ⟨h1, M, nf, sf, e1, n0, n1, n2, s1, w1, -, s2, w2, r1, f1⟩ := r.aside o
  refine ⟨h1, ?_, r1, f1⟩
  have ow := o.1.2.1.1
  unfold f_X10_canSet
  rw [zoc_eq m0, zcV_of e1]
  refine zloop (fun f k (a : Int32) => f_X10_canSet_8 f m a (nI k) h1) (fun k => mkI (canMove (tD T).1 (dW (tD T)) (wL (dW (tD T))) 0) k) (dn (tD T)) _ ?_ ?_ zF 0 (by omega) (by show dn (tD T) < 20000 + 0; omega)
  · intro f
    rw [f_X10_canSet_8, zgR_eq n0 rfl, zaI_x 0 0 rfl n1 (by decide) (by decide), s1.1, en, if_pos (Int32.le_refl _)]; rfl
  · intro f k hk
    rw [f_X10_canSet_8, zgR_eq n0 rfl, zaI_x 0 0 rfl n1 (by decide) (by decide), s1.1, en, if_neg (nI_ge hk (by omega)), zoc_eq n0, zcI_of (q_X10_canPut n0 n2 s2 w2 ow o.1.1 hk)]
    unfold f_X10_canSet_34
    rw [zlt_eq, zlt_eq, nI_1]
    rw [mkI]
    exact orIf (fun z => f_X10_canSet_8 f m z (nI (k + 1)) h1) _ _ _
theorem op_can : Both f_X9_can f_X10_can := by
  refine Both.ask (fun T o => ?_)
  refine ⟨.int (mkI (canMove (tD T).1 (dW (tD T)) (wL (dW (tD T))) 0) (dn (tD T))), ?_, ?_⟩
  · intro h x r
    refine ⟨h, ?_, r, Fr.rf⟩
    unfold f_X9_can
    rw [zgR_eq r.1 rfl, zgR_eq r.1 rfl, zgR_eq r.2.1.1 rfl, zoc_eq r.2.1.1, zcI_of (q_X1_setThatMay r.2.1.RS o.1.1 r.2.1.2.2.2.2.1 o.1.2.1.1 (Or.inl rfl))]; rfl
  · intro h m r
    obtain ⟨h1, e1, r1, f1⟩ := q_X10_canSet r o
    obtain ⟨M0, nf0, m0, m1, m2, m3, m4⟩ := r.now
    refine ⟨h1, ?_, r1, f1⟩
    unfold f_X10_can
    rw [zoc_eq m0, zcI_of e1]; rfl
theorem op_off : Both f_X9_off f_X10_off := by
  refine Both.ask (fun T o => ?_)
  refine ⟨.int (mkI (canMove (tD T).1 (dW (tD T)) (wL (dW (tD T))) 1) (dn (tD T))), ?_, ?_⟩
  · intro h x r
    refine ⟨h, ?_, r, Fr.rf⟩
    unfold f_X9_off
    rw [zgR_eq r.1 rfl, zgR_eq r.1 rfl, zgR_eq r.2.1.1 rfl, zoc_eq r.2.1.1, zcI_of (q_X1_setThatMay r.2.1.RS o.1.1 r.2.1.2.2.2.2.1 o.1.2.1.1 (Or.inr (Or.inl rfl)))]; rfl
  · intro h m r
    obtain ⟨en, hn⟩ := o.1.n
    obtain ⟨M0, nf0, m0, m1, m2, m3, m4⟩ := r.now
    obtain ⟨h1, M, nf, sf, e1, n0, n1, n2, s1, w1, -, s2, w2, r1, f1⟩ := r.aside o
    refine ⟨h1, ?_, r1, f1⟩
    have ow := o.1.2.1.1
    unfold f_X10_off
    rw [zoc_eq m0, zcV_of e1]
    refine zloop (fun f k (a : Int32) => f_X10_off_8 f m a (nI k) h1) (fun k => mkI (canMove (tD T).1 (dW (tD T)) (wL (dW (tD T))) 1) k) (dn (tD T)) _ ?_ ?_ zF 0 (by omega) (by show dn (tD T) < 20000 + 0; omega)
    · intro f
      rw [f_X10_off_8, zgR_eq n0 rfl, zaI_x 0 0 rfl n1 (by decide) (by decide), s1.1, en, if_pos (Int32.le_refl _)]; rfl
    · intro f k hk
      rw [f_X10_off_8, zgR_eq n0 rfl, zaI_x 0 0 rfl n1 (by decide) (by decide), s1.1, en, if_neg (nI_ge hk (by omega)), zoc_eq n0, zcI_of (q_X10_canTake n0 n2 s2 w2 ow o.1.1 hk)]
      unfold f_X10_off_34
      rw [zlt_eq, zlt_eq, nI_1]
      rw [mkI]
      exact orIf (fun z => f_X10_off_8 f m z (nI (k + 1)) h1) _ _ _
theorem q_X10_areGoing {h : zH} {m n i j : Nat} {M : Mo} {nf : Nat → Int32} {S : Sd} (hO : MO h m M) (hN : MA h (m + 1) 88 nf) (s : RowS nf n S) (ok : okS n S) (hi : i < n) (hj : j < n) : f_X10_areGoing m (nI i) (nI j) h = rB (sMat S i j) h := by
  have h8 := ok.2.1
  unfold f_X10_areGoing
  rw [zgR_eq hO rfl, zaI_x 1 1 rfl hN (by decide) (by decide), zgR_eq hO rfl, zaI_x (20 + nI i) (20 + i) (nI_add 20 i) hN (by omega) (by decide), zgR_eq hO rfl, zaI_x (20 + nI j) (20 + j) (nI_add 20 j) hN (by omega) (by decide), s.2.1, (s.2.2 i hi).2.1, (s.2.2 j hj).2.1, zcI_of (q_X10_goes ok.2.2.1 _ _ h), zrZ_b]
  rfl
theorem op_going (a : Int32) : Both (fun x => f_X9_going x a) (fun m => f_X10_going m a) := by
  refine Both.of2 (fun T o => ?_)
  obtain ⟨en, hn⟩ := o.1.n
  cases hh : sHas (tD T).1.2.1 a with
  | false =>
    refine of2Bad o ?_ ?_
    · intro h x r h1 e1
      show f_X9_going x a h = _
      unfold f_X9_going
      rw [zgR_eq r.1 rfl, zoc_eq r.2.1.1, zcI_of (q_X1_has r.2.1.RS a), hh, if_pos (by decide), zoc_eq r.1, zcI_of e1]
      rfl
    · intro h m r h1 e1
      obtain ⟨M, nf, n0, n1, n2, n3, n4⟩ := r.now
      show f_X10_going m a h = _
      unfold f_X10_going
      rw [zoc_eq n0, zcI_of (q_X10_isPiece n0 n1 (n2.1.trans en) hn a), ← en, hh, if_pos (by decide), zoc_eq n0, zcI_of e1]
      rfl
  | true =>
    obtain ⟨i, hi, ea⟩ := (sHas_nI (n := dn (tD T)) (x := a) (by omega)).mp (by rw [← en]; exact hh)
    subst ea
    refine ⟨.int (mkI (sMat (tD T).1 i) (dn (tD T))), T, o, ?_, ?_⟩
    · intro h x r
      refine ⟨h, ?_, r, Fr.rf⟩
      show f_X9_going x (nI i) h = _
      unfold f_X9_going
      rw [zgR_eq r.1 rfl, zoc_eq r.2.1.1, zcI_of (q_X1_has r.2.1.RS _), hh, if_neg (by decide), zgR_eq r.1 rfl, zoc_eq r.2.1.1, zcI_of (q_X1_matchesOf r.2.1.RS o.1.1 hi)]
      rfl
    · intro h m r
      obtain ⟨M, nf, n0, n1, n2, n3, n4⟩ := r.now
      refine ⟨h, ?_, r, Fr.rf⟩
      show f_X10_going m (nI i) h = _
      unfold f_X10_going
      rw [zoc_eq n0, zcI_of (q_X10_isPiece n0 n1 (n2.1.trans en) hn _), ← en, hh, if_neg (by decide)]
      refine zloop (fun f k (a : Int32) => f_X10_going_17 f m (nI i) a (nI k) h) (fun k => mkI (sMat (tD T).1 i) k) (dn (tD T)) _ ?_ ?_ zF 0 (by omega) (by show dn (tD T) < 20000 + 0; omega)
      · intro f
        rw [f_X10_going_17, zgR_eq n0 rfl, zaI_x 0 0 rfl n1 (by decide) (by decide), n2.1, en, if_pos (Int32.le_refl _)]; rfl
      · intro f k hk
        rw [f_X10_going_17, zgR_eq n0 rfl, zaI_x 0 0 rfl n1 (by decide) (by decide), n2.1, en, if_neg (nI_ge hk (by omega)), zoc_eq n0, zcI_of (q_X10_areGoing n0 n1 n2 o.1.1 hi hk)]
        unfold f_X10_going_44
        rw [zlt_eq, zlt_eq, nI_1, mkI]
        exact orIf (fun z => f_X10_going_17 f m (nI i) z (nI (k + 1)) h) _ _ _
