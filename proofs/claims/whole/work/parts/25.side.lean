/-! THE MODEL'S ROW ASIDE: readers -/
theorem zaI_x {h : zH} {a t n : Nat} {f : Nat → Int32} {K : Int32 → zR} (i : Int32) (j : Nat) (hi : i = nI j) (ha : h.2 a = some (.inl (t, n, .inl f))) (hj : j < n) (hn : n < 2 ^ 31) : zaI h a t i K = K (f j) := zaI_eq j hi ha hj hn
theorem zsI_x {h : zH} {a t n : Nat} {f : Nat → Int32} {K : zH → zR} (i : Int32) {x : Int32} (j : Nat) (hi : i = nI j) (ha : h.2 a = some (.inl (t, n, .inl f))) (hj : j < n) (hn : n < 2 ^ 31) : zsI h a t i x K = K (zset h a (.inl (t, n, .inl (upd f j x)))) := zsI_eq j hi ha hj hn
abbrev Mo : Type := Int32 × Int32 × Int32 × Int64 × Int64 × Int32 × Int32 × Int32 × Int32
def MO (h : zH) (m : Nat) (M : Mo) : Prop := h.2 m = some (.inr (6, [.ref (m + 1), .ref (m + 2), .ref (m + 3), .int M.1, .ref (m + 4), .ref (m + 5), .ref (m + 6), .int M.2.1, .int M.2.2.1, .ref (m + 7), .long M.2.2.2.1, .long M.2.2.2.2.1, .ref (m + 8), .int M.2.2.2.2.2.1, .int M.2.2.2.2.2.2.1, .int M.2.2.2.2.2.2.2.1, .int M.2.2.2.2.2.2.2.2, .ref (m + 9), .ref (m + 10)]))
def MA (h : zH) (a N : Nat) (f : Nat → Int32) : Prop := h.2 a = some (.inl (0, N, .inl f))
def RowS (f : Nat → Int32) (n : Nat) (S : Sd) : Prop := f 0 = S.2.1 ∧ f 1 = S.1 ∧ ∀ i, i < n → f (12 + i) = S.2.2.1 i ∧ f (20 + i) = S.2.2.2.1 i ∧ f (28 + i) = S.2.2.2.2 i
def RowW (f : Nat → Int32) (n L : Nat) (W : Wr) : Prop := f 2 = W.2.2.2 ∧ f 3 = W.2.2.1 ∧ (∀ k, k < L → f (4 + k) = W.1 k) ∧ ∀ i, i < n → f (36 + i) = W.2.1 i
theorem sPl_succ {on : Nat → Int32} {k : Nat} {x : Int32} (hk : ∀ j, j < k → on j = on k → j = k) : sPl on (k + 1) x = if on k = x then nI k else sPl on k x := by
  unfold sPl
  rw [fstN]
  cases h : fstN (fun k => decide (on k = x)) k with
  | none =>
    simp only []
    by_cases c : on k = x
    · rw [if_pos c]; simp [c]
    · rw [if_neg c]; simp [c]
  | some j =>
    obtain ⟨h1, h2, -⟩ := fstN_some.mp h
    have h2 : on j = x := by simpa using h2
    simp only []
    rw [if_neg]
    intro c
    have := hk j h1 (by rw [h2, c])
    omega
section SD
variable {h : zH} {m n L : Nat} {M : Mo} {sf : Nat → Int32} {S : Sd} {W : Wr}
theorem q_X10_placeOf (hO : MO h m M) (hA : MA h (m + 2) 88 sf) (rW : RowW sf n L W) (okw : okW n L W) (h8 : n ≤ 8) (x : Int32) : f_X10_placeOf m x h = rI (sPl W.1 L x) h := by
  obtain ⟨w1, w2, w3, w4⟩ := okw
  obtain ⟨r2, r3, r4, r5⟩ := rW
  refine zloop (fun f k s => f_X10_placeOf_5 f m x s (nI k) h) (fun k => sPl W.1 k x) L _ ?_ ?_ zF 0 (Nat.zero_le _) (zF_gt (by omega))
  · intro f
    rw [f_X10_placeOf_5, zgR_eq hO rfl, zaI_x 3 3 rfl hA (by decide) (by decide), r3, w1, if_pos (Int32.le_refl _)]
    rfl
  · intro f k hk
    rw [f_X10_placeOf_5, zgR_eq hO rfl, zaI_x 3 3 rfl hA (by decide) (by decide), r3, w1, if_neg (nI_ge hk (by omega)), zgR_eq hO rfl, zaI_x (4 + nI k) (4 + k) (nI_add 4 k) hA (by omega) (by decide), r4 k hk, sPl_succ (fun j hj e => w4 j k (by omega) hk e)]
    by_cases c : W.1 k = x
    · rw [if_pos c, if_pos c, f_X10_placeOf_32, nI_1]
    · rw [if_neg c, if_neg c, f_X10_placeOf_32, nI_1]
theorem q_X10_holdsOf (hO : MO h m M) (hA : MA h (m + 2) 88 sf) (rS : RowS sf n S) (rW : RowW sf n L W) (h8 : n ≤ 8) {i : Nat} (hi : i < n) : f_X10_holdsOf m (nI i) h = rI (sHol (S.2.2.1 i) (S.2.2.2.2 i) (W.2.1 i)) h := by
  obtain ⟨s1, s2, s3⟩ := rS
  obtain ⟨r2, r3, r4, r5⟩ := rW
  unfold f_X10_holdsOf
  rw [zgR_eq hO rfl, zaI_x (12 + nI i) (12 + i) (nI_add 12 i) hA (by omega) (by decide), zgR_eq hO rfl, zaI_x (28 + nI i) (28 + i) (nI_add 28 i) hA (by omega) (by decide), zgR_eq hO rfl, zaI_x (36 + nI i) (36 + i) (nI_add 36 i) hA (by omega) (by decide), zcI_of (q_X10_holds _ _ _ h), (s3 i hi).1, (s3 i hi).2.2, r5 i hi]
  rfl
theorem q_X10_canPut (hO : MO h m M) (hA : MA h (m + 2) 88 sf) (rS : RowS sf n S) (rW : RowW sf n L W) (okw : okW n L W) (ok : okS n S) {i : Nat} (hi : i < n) : f_X10_canPut m (nI i) h = rB (canPut S W L i) h := by
  have h8 := ok.2.1
  have e1 := q_X10_placeOf hO hA rW okw h8 (nI i)
  have e2 := q_X10_holdsOf hO hA rS rW h8 hi
  obtain ⟨s1, s2, s3⟩ := rS
  obtain ⟨r2, r3, r4, r5⟩ := rW
  obtain ⟨w1, w2, w3, w4⟩ := okw
  have loop : ∀ c0 : Bool, f_X10_canPut_24 m (nI i) (b2i c0) h = rB (c0 && allN (fun k => sMat S i (ix (W.1 k))) L) h := by
    intro c0
    unfold f_X10_canPut_24
    have z := zloop (fun f k s => f_X10_canPut_27 f m (nI i) s (nI k) h) (fun k => b2i (c0 && allN (fun k => sMat S i (ix (W.1 k))) k)) L (rB (c0 && allN (fun k => sMat S i (ix (W.1 k))) L) h) ?_ ?_ zF 0 (Nat.zero_le _) (zF_gt (by omega))
    · simp only [allN, Bool.and_true] at z
      exact z
    · intro f
      rw [f_X10_canPut_27, zgR_eq hO rfl, zaI_x 3 3 rfl hA (by decide) (by decide), r3, w1, if_pos (Int32.le_refl _), zrZ_b]
    · intro f k hk
      obtain ⟨j, hj, ej⟩ := w3 k hk
      rw [f_X10_canPut_27, zgR_eq hO rfl, zaI_x 3 3 rfl hA (by decide) (by decide), r3, w1, if_neg (nI_ge hk (by omega)), allN]
      cases hc : (c0 && allN (fun k => sMat S i (ix (W.1 k))) k) with
      | false =>
        rw [if_pos (by decide), f_X10_canPut_82, f_X10_canPut_83, nI_1, ← Bool.and_assoc, hc, Bool.false_and]
        rfl
      | true =>
        rw [if_neg (by decide), zgR_eq hO rfl, zaI_x 1 1 rfl hA (by decide) (by decide), zgR_eq hO rfl, zaI_x (20 + nI i) (20 + i) (nI_add 20 i) hA (by omega) (by decide), zgR_eq hO rfl, zgR_eq hO rfl, zaI_x (4 + nI k) (4 + k) (nI_add 4 k) hA (by omega) (by decide), r4 k hk, ej, zaI_x (20 + nI j) (20 + j) (nI_add 20 j) hA (by omega) (by decide), s2, (s3 i hi).2.1, (s3 j hj).2.1, zcI_of (q_X10_goes ok.2.2.1 _ _ h), ← Bool.and_assoc, hc, Bool.true_and, show sMat S i (ix (nI j)) = sGo S.1 (S.2.2.2.1 i) (S.2.2.2.1 j) by rw [ix_nI (by omega)]; rfl]
        cases sGo S.1 (S.2.2.2.1 i) (S.2.2.2.1 j)
        · rw [if_pos (by decide), f_X10_canPut_82, f_X10_canPut_83, nI_1]; rfl
        · rw [if_neg (by decide), f_X10_canPut_83, nI_1]; rfl
  have o8 : L ≤ 8 := Nat.le_trans w2 h8
  unfold f_X10_canPut f_X10_canPut_23 canPut
  rw [zoc_eq hO, zcI_of e1]
  by_cases c : sPl W.1 L (nI i) = -101
  · rw [if_pos c, zoc_eq hO, zcI_of e2]
    have c' := (sPl_none o8).mp c
    rw [show allN (fun k => !decide (W.1 k = nI i)) L = true from allN_iff.mpr (fun k hk => by simpa using c' k hk), Bool.true_and]
    by_cases c2 : sHol (S.2.2.1 i) (S.2.2.2.2 i) (W.2.1 i) < 1
    · rw [if_pos c2, decide_eq_false (Int32.not_le.mpr c2)]
      exact loop false
    · rw [if_neg c2, decide_eq_true (Int32.not_lt.mp c2)]
      exact loop true
  · rw [if_neg c]
    have c' : allN (fun k => !decide (W.1 k = nI i)) L = false := by
      cases q : allN (fun k => !decide (W.1 k = nI i)) L with
      | false => rfl
      | true => exact absurd ((sPl_none o8).mpr (fun k hk => by simpa using allN_iff.mp q k hk)) c
    rw [c', Bool.false_and]
    exact loop false
theorem q_X10_canTake (hO : MO h m M) (hA : MA h (m + 2) 88 sf) (rS : RowS sf n S) (rW : RowW sf n L W) (okw : okW n L W) (ok : okS n S) {i : Nat} (hi : i < n) : f_X10_canTake m (nI i) h = rB (canTake S W L i) h := by
  have h8 := ok.2.1
  have e1 := q_X10_placeOf hO hA rW okw h8 (nI i)
  obtain ⟨s1, s2, s3⟩ := rS
  obtain ⟨r2, r3, r4, r5⟩ := rW
  obtain ⟨w1, w2, w3, w4⟩ := okw
  unfold f_X10_canTake canTake f_X10_canTake_17
  rw [zoc_eq hO, zcI_of e1]
  unfold sPl
  cases hp : fstN (fun k => decide (W.1 k = nI i)) L with
  | none =>
    simp only []
    rw [if_pos (by first | rfl | trivial), zlt_eq, show zF = 19999 + 1 from rfl, f_X10_canTake_23, zgR_eq hO rfl, zaI_x 3 3 rfl hA (by decide) (by decide), r3, w1]
    have : ¬ nI L ≤ (-101 : Int32) + 1 := by
      intro q
      exact nI_pos (n := L) (by omega) (Int32.lt_of_le_of_lt q (by decide))
    rw [if_neg this, if_pos rfl, f_X10_canTake_86, zrZ_0]
  | some p =>
    obtain ⟨p1, p2, p3⟩ := fstN_some.mp hp
    simp only []
    rw [if_neg (m101 (by omega)), zlt_eq, nI_1]
    have loop : ∀ (r fuel k : Nat) (c : Bool), p + 1 + k + r = L → r < fuel → f_X10_canTake_23 fuel m (nI i) (b2i c) (nI (p + 1 + k)) h = rB (c && allN (fun q => decide (sCov (S.2.2.1 (ix (W.1 (p + 1 + k + q)))) &&& sCov (S.2.2.1 i) = 0)) r) h := by
      intro r
      induction r with
      | zero =>
        intro fuel k c e hf
        obtain ⟨f, rfl⟩ : ∃ f, fuel = f + 1 := ⟨fuel - 1, by omega⟩
        rw [f_X10_canTake_23, zgR_eq hO rfl, zaI_x 3 3 rfl hA (by decide) (by decide), r3, w1, if_pos (nI_le (by omega) (by omega)), f_X10_canTake_86, zrZ_b, allN, Bool.and_true]
      | succ r ih =>
        intro fuel k c e hf
        obtain ⟨f, rfl⟩ : ∃ f, fuel = f + 1 := ⟨fuel - 1, by omega⟩
        obtain ⟨j, hj, ej⟩ := w3 (p + 1 + k) (by omega)
        rw [f_X10_canTake_23, zgR_eq hO rfl, zaI_x 3 3 rfl hA (by decide) (by decide), r3, w1, if_neg (nI_ge (by omega) (by omega))]
        cases c with
        | false => rw [if_pos (by decide), f_X10_canTake_86, zrZ_b, Bool.false_and]
        | true =>
          rw [if_neg (by decide), zgR_eq hO rfl, zgR_eq hO rfl, zaI_x (4 + nI (p + 1 + k)) (4 + (p + 1 + k)) (nI_add 4 _) hA (by omega) (by decide), r4 _ (by omega), ej, zaI_x (12 + nI j) (12 + j) (nI_add 12 j) hA (by omega) (by decide), (s3 j hj).1, zcI_of (q_X10_covers _ h), zgR_eq hO rfl, zaI_x (12 + nI i) (12 + i) (nI_add 12 i) hA (by omega) (by decide), (s3 i hi).1, zcI_of (q_X10_covers _ h)]
          have split : allN (fun q => decide (sCov (S.2.2.1 (ix (W.1 (p + 1 + k + q)))) &&& sCov (S.2.2.1 i) = 0)) (r + 1) = (decide (sCov (S.2.2.1 j) &&& sCov (S.2.2.1 i) = 0) && allN (fun q => decide (sCov (S.2.2.1 (ix (W.1 (p + 1 + (k + 1) + q)))) &&& sCov (S.2.2.1 i) = 0)) r) := by
            apply Bool.eq_iff_iff.mpr
            rw [Bool.and_eq_true, allN_iff, allN_iff]
            constructor
            · intro q
              refine ⟨?_, fun t ht => ?_⟩
              · have := q 0 (by omega)
                rw [Nat.add_zero, ej, ix_nI (by omega)] at this
                exact this
              · have := q (t + 1) (by omega)
                rw [show p + 1 + k + (t + 1) = p + 1 + (k + 1) + t by omega] at this
                exact this
            · intro ⟨q1, q2⟩ t ht
              rcases Nat.eq_zero_or_pos t with z | z
              · subst z
                rw [Nat.add_zero, ej, ix_nI (by omega)]
                exact q1
              · have := q2 (t - 1) (by omega)
                rw [show p + 1 + (k + 1) + (t - 1) = p + 1 + k + t by omega] at this
                exact this
          rw [split, Bool.true_and]
          by_cases c : sCov (S.2.2.1 j) &&& sCov (S.2.2.1 i) = 0
          · rw [if_pos c, f_X10_canTake_79, nI_1, decide_eq_true c]
            exact ih f (k + 1) true (by omega) (by omega)
          · rw [if_neg c, f_X10_canTake_79, nI_1, decide_eq_false c]
            exact ih f (k + 1) false (by omega) (by omega)
    have := loop (L - (p + 1)) zF 0 true (by omega) (by show _ < 20000; omega)
    simp only [Nat.add_zero, Bool.true_and] at this
    exact this
def sCd (S : Sd) (on : Nat → Int32) : Nat → Int32
  | 0 => 0
  | k + 1 => sCd S on k ||| sCov (S.2.2.1 (ix (on k)))
theorem q_X10_covered (hO : MO h m M) (hA : MA h (m + 2) 88 sf) (rS : RowS sf n S) (rW : RowW sf n L W) (okw : okW n L W) (ok : okS n S) : f_X10_covered m h = rI (sCd S W.1 L) h := by
  have h8 := ok.2.1
  obtain ⟨s1, s2, s3⟩ := rS
  obtain ⟨r2, r3, r4, r5⟩ := rW
  obtain ⟨w1, w2, w3, w4⟩ := okw
  refine zloop (fun f k s => f_X10_covered_4 f m s (nI k) h) (sCd S W.1) L _ ?_ ?_ zF 0 (Nat.zero_le _) (zF_gt (by omega))
  · intro f
    rw [f_X10_covered_4, zgR_eq hO rfl, zaI_x 3 3 rfl hA (by decide) (by decide), r3, w1, if_pos (Int32.le_refl _)]
    rfl
  · intro f k hk
    obtain ⟨j, hj, ej⟩ := w3 k hk
    rw [f_X10_covered_4, zgR_eq hO rfl, zaI_x 3 3 rfl hA (by decide) (by decide), r3, w1, if_neg (nI_ge hk (by omega)), zgR_eq hO rfl, zgR_eq hO rfl, zaI_x (4 + nI k) (4 + k) (nI_add 4 k) hA (by omega) (by decide), r4 k hk, ej, zaI_x (12 + nI j) (12 + j) (nI_add 12 j) hA (by omega) (by decide), (s3 j hj).1, zcI_of (q_X10_covers _ h), zlt_eq, nI_1, sCd, ej, ix_nI (by omega)]
end SD
def keepF (f f' : Nat → Int32) : Prop := ∀ k, ¬ (2 ≤ k ∧ k < 12) → ¬ (36 ≤ k ∧ k < 44) → f' k = f k
theorem RowS.keep {f f' : Nat → Int32} {n : Nat} {S : Sd} (r : RowS f n S) (hk : keepF f f') (h8 : n ≤ 8) : RowS f' n S := by
  obtain ⟨s1, s2, s3⟩ := r
  refine ⟨(hk 0 (by omega) (by omega)).trans s1, (hk 1 (by omega) (by omega)).trans s2, fun i hi => ?_⟩
  obtain ⟨a, b, c⟩ := s3 i hi
  exact ⟨(hk _ (by omega) (by omega)).trans a, (hk _ (by omega) (by omega)).trans b, (hk _ (by omega) (by omega)).trans c⟩
theorem keepF.rf {f : Nat → Int32} : keepF f f := fun _ _ _ => rfl
theorem keepF.tr {f g k : Nat → Int32} (a : keepF f g) (b : keepF g k) : keepF f k := fun j h1 h2 => (b j h1 h2).trans (a j h1 h2)
theorem keepF.upd {f : Nat → Int32} {j : Nat} (x : Int32) (hj : (2 ≤ j ∧ j < 12) ∨ (36 ≤ j ∧ j < 44)) : keepF f (upd f j x) := fun k h1 h2 => upd_ne _ _ (by omega)
section SM
variable {h : zH} {m n L : Nat} {M : Mo} {sf : Nat → Int32} {S : Sd} {W : Wr}
theorem MO.keep {h' : zH} {lo hi : Nat} (hO : MO h m M) (f : Fr h h' lo hi) (hm : m < lo ∨ hi ≤ m) : MO h' m M := (f.2 m hm).trans hO
theorem MA.keep {h' : zH} {a N lo hi : Nat} {f : Nat → Int32} (hA : MA h a N f) (fr : Fr h h' lo hi) (hm : a < lo ∨ hi ≤ a) : MA h' a N f := (fr.2 a hm).trans hA
/-- a store into the row aside -/
theorem side_st (hO : MO h m M) (hA : MA h (m + 2) 88 sf) (i : Int32) {x : Int32} (j : Nat) (hi : i = nI j) (hj : j < 88) {K : zH → zR} : zsI h (m + 2) 0 i x K = K (zset h (m + 2) (.inl (0, 88, .inl (upd sf j x)))) ∧ MO (zset h (m + 2) (.inl (0, 88, .inl (upd sf j x)))) m M ∧ MA (zset h (m + 2) (.inl (0, 88, .inl (upd sf j x)))) (m + 2) 88 (upd sf j x) ∧ Fr h (zset h (m + 2) (.inl (0, 88, .inl (upd sf j x)))) (m + 2) (m + 3) :=
  ⟨zsI_x i j hi hA hj (by decide), (zset_ne _ (by omega)).trans hO, zset_at _ _ _, Fr.set _ (by omega) (by omega)⟩
end SM
