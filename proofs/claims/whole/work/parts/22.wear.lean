/-! THE CLASS'S WEAR AND DOLL: readers -/
abbrev Wr : Type := (Nat → Int32) × (Nat → Int32) × Int32 × Int32
abbrev Sd : Type := Int32 × Int32 × (Nat → Int32) × (Nat → Int32) × (Nat → Int32)
def RW (h : zH) (w : Nat) (W : Wr) : Prop := h.2 w = some (.inr (4, [.ref (w + 1), .ref (w + 2), .int W.2.2.1, .int W.2.2.2])) ∧ h.2 (w + 1) = some (.inl (0, 8, .inl W.1)) ∧ h.2 (w + 2) = some (.inl (0, 8, .inl W.2.1))
def RS (h : zH) (d : Nat) (S : Sd) : Prop := (∃ (nw ps nt mk : Nat) (pc nc mc : Int32), h.2 d = some (.inr (0, [.int S.1, .int S.2.1, .ref (d + 1), .ref (d + 2), .ref (d + 3), .ref nw, .ref ps, .int pc, .ref nt, .int nc, .ref mk, .int mc]))) ∧ h.2 (d + 1) = some (.inl (0, 8, .inl S.2.2.1)) ∧ h.2 (d + 2) = some (.inl (0, 8, .inl S.2.2.2.1)) ∧ h.2 (d + 3) = some (.inl (0, 8, .inl S.2.2.2.2))
/-- the numbers are as they should be: n pieces, kinds, the child's kind -/
def okS (n : Nat) (S : Sd) : Prop := S.2.1 = nI n ∧ n ≤ 8 ∧ kOk S.1 ∧ ∀ i, i < n → kOk (S.2.2.1 i)
/-- L pieces are on, all unlike, all there -/
def okW (n L : Nat) (W : Wr) : Prop := W.2.2.1 = nI L ∧ L ≤ n ∧ (∀ k, k < L → ∃ j, j < n ∧ W.1 k = nI j) ∧ ∀ j k, j < L → k < L → W.1 j = W.1 k → j = k
def sPl (on : Nat → Int32) (L : Nat) (x : Int32) : Int32 := match fstN (fun k => decide (on k = x)) L with
  | some k => nI k
  | none => -101
def sOn (on : Nat → Int32) : Nat → Int32
  | 0 => 0
  | k + 1 => sOn on k ||| (1 <<< (on k &&& 31))
def sSet (kd : Nat → Int32) (s : Int32) : Nat → Int32
  | 0 => 0
  | i + 1 => if hb s i then sSet kd s i ||| sCov (kd i) else sSet kd s i
def sHas (n x : Int32) : Bool := !(decide (x < 0)) && !(decide (n ≤ x))
theorem sHas_nI {n : Nat} {x : Int32} (hn : n < 2 ^ 31) : sHas (nI n) x = true ↔ ∃ j, j < n ∧ x = nI j := by
  unfold sHas
  rw [Bool.and_eq_true]
  constructor
  · intro ⟨h1, h2⟩
    rcases pk_ix x hn with q | q | q
    · simp [q] at h1
    · simp [q] at h2
    · exact q
  · intro ⟨j, hj, e⟩
    subst e
    simp [nI_pos (Nat.lt_trans hj hn), nI_ge hj hn]
theorem zF_gt {b : Nat} (h : b < 20000) : b < zF + 0 := h
theorem q_X8_placeOf {h : zH} {w L : Nat} {W : Wr} (hW : RW h w W) (hL : W.2.2.1 = nI L) (h8 : L ≤ 8) (x : Int32) : f_X8_placeOf w x h = rI (sPl W.1 L x) h := by
  obtain ⟨h1, h2, h3⟩ := hW
  rw [hL] at h1
  refine (zloopX (fun n k (_ : Unit) => f_X8_placeOf_2 n w x (nI k) h) (fun _ => ()) L (fun k => decide (W.1 k = x)) (fun k => rI (nI k) h) (rI (-101) h) ?_ ?_ ?_ zF 0 (Nat.zero_le _) (zF_gt (by omega)) (fun j hj => absurd hj (Nat.not_lt_zero j))).trans ?_
  · intro n
    rw [f_X8_placeOf_2, zgI_eq h1 rfl, if_pos (Int32.le_refl _)]
    rfl
  · intro n k hk hp
    have hp : ¬ W.1 k = x := by simpa using hp
    rw [f_X8_placeOf_2, zgI_eq h1 rfl, if_neg (nI_ge hk (by omega)), zgR_eq h1 rfl, zaI_nI h2 (by omega) (by decide), if_neg hp, nI_1]
  · intro n k hk hp
    have hp : W.1 k = x := by simpa using hp
    rw [f_X8_placeOf_2, zgI_eq h1 rfl, if_neg (nI_ge hk (by omega)), zgR_eq h1 rfl, zaI_nI h2 (by omega) (by decide), if_pos hp]
    rfl
  · unfold sPl
    cases fstN (fun k => decide (W.1 k = x)) L <;> rfl
theorem q_X8_onSet {h : zH} {w L : Nat} {W : Wr} (hW : RW h w W) (hL : W.2.2.1 = nI L) (h8 : L ≤ 8) : f_X8_onSet w h = rI (sOn W.1 L) h := by
  obtain ⟨h1, h2, h3⟩ := hW
  rw [hL] at h1
  refine zloop (fun n k s => f_X8_onSet_4 n w s (nI k) h) (sOn W.1) L _ ?_ ?_ zF 0 (Nat.zero_le _) (zF_gt (by omega))
  · intro n
    rw [f_X8_onSet_4, zgI_eq h1 rfl, if_pos (Int32.le_refl _)]
    rfl
  · intro n k hk
    rw [f_X8_onSet_4, zgI_eq h1 rfl, if_neg (nI_ge hk (by omega)), zgR_eq h1 rfl, zaI_nI h2 (by omega) (by decide), zlt_eq, nI_1]
    rfl
theorem q_X1_has {h : zH} {d : Nat} {S : Sd} (hS : RS h d S) (x : Int32) : f_X1_has d x h = rB (sHas S.2.1 x) h := by
  obtain ⟨⟨nw, ps, nt, mk, pc, nc, mc, h1⟩, h2, h3, h4⟩ := hS
  unfold f_X1_has f_X1_has_16 f_X1_has_17 sHas
  by_cases c1 : x < 0
  · rw [if_pos c1, zrZ_0]; simp [c1]
  · rw [if_neg c1, zgI_eq h1 rfl]
    by_cases c2 : S.2.1 ≤ x
    · rw [if_pos c2, zrZ_0]; simp [c2]
    · rw [if_neg c2, zrZ_1]; simp [c1, c2]
theorem q_X1_spotsOf {h : zH} {d n i : Nat} {S : Sd} (hS : RS h d S) (ok : okS n S) (hi : i < n) : f_X1_spotsOf d (nI i) h = rI (sCov (S.2.2.1 i)) h := by
  have hh := q_X1_has hS (nI i)
  obtain ⟨⟨nw, ps, nt, mk, pc, nc, mc, h1⟩, h2, h3, h4⟩ := hS
  obtain ⟨o1, o2, o3, o4⟩ := ok
  rw [o1, (sHas_nI (by omega)).mpr ⟨i, hi, rfl⟩] at hh
  unfold f_X1_spotsOf f_X1_spotsOf_21
  rw [zoc_eq h1, zcI_of hh, if_neg (by decide), zgR_eq h1 rfl, zaI_nI h2 (by omega) (by decide), zcI_of (q_X0_covers (o4 i hi) h)]
  rfl
theorem q_X1_spotsOfSet {h : zH} {d n : Nat} {S : Sd} (hS : RS h d S) (ok : okS n S) (s : Int32) : f_X1_spotsOfSet d s h = rI (sSet S.2.2.1 s n) h := by
  obtain ⟨⟨nw, ps, nt, mk, pc, nc, mc, h1⟩, h2, h3, h4⟩ := hS
  obtain ⟨o1, o2, o3, o4⟩ := ok
  rw [o1] at h1
  refine zloop (fun m k t => f_X1_spotsOfSet_4 m d s t (nI k) h) (sSet S.2.2.1 s) n _ ?_ ?_ zF 0 (Nat.zero_le _) (zF_gt (by omega))
  · intro m
    rw [f_X1_spotsOfSet_4, zgI_eq h1 rfl, if_pos (Int32.le_refl _)]
    rfl
  · intro m k hk
    rw [f_X1_spotsOfSet_4, zgI_eq h1 rfl, if_neg (nI_ge hk (by omega)), f_X1_spotsOfSet_33, nI_1, sSet]
    unfold hb
    by_cases c : ((s >>> (nI k &&& 31)) &&& 1) = 1
    · rw [if_pos c, zgR_eq h1 rfl, zaI_nI h2 (by omega) (by decide), zcI_of (q_X0_covers (o4 k hk) h), zlt_eq, f_X1_spotsOfSet_33, nI_1, if_pos (by simpa using c)]
    · rw [if_neg c, if_neg (by simpa using c)]
theorem q_X1_isDressed {h : zH} {d n w L : Nat} {S : Sd} {W : Wr} (hS : RS h d S) (ok : okS n S) (hW : RW h w W) (okw : okW n L W) : f_X1_isDressed d w h = rB (decide (sSet S.2.2.1 (sOn W.1 L) n = 15)) h := by
  have e1 := q_X8_onSet hW okw.1 (Nat.le_trans okw.2.1 ok.2.1)
  have e2 := q_X1_spotsOfSet hS ok (sOn W.1 L)
  obtain ⟨⟨nw, ps, nt, mk, pc, nc, mc, h1⟩, h2, h3, h4⟩ := hS
  obtain ⟨g1, g2, g3⟩ := hW
  unfold f_X1_isDressed f_X1_isDressed_18
  rw [zoc_eq g1, zcI_of e1, zoc_eq h1, zcI_of e2]
  by_cases c : sSet S.2.2.1 (sOn W.1 L) n = 15
  · rw [if_pos c, zrZ_1, decide_eq_true c]
  · rw [if_neg c, zrZ_0, decide_eq_false c]
theorem q_X1_holdOf {h : zH} {d n w i : Nat} {S : Sd} {W : Wr} (hS : RS h d S) (ok : okS n S) (hW : RW h w W) (hi : i < n) : f_X1_holdOf d w (nI i) h = rI (sHol (S.2.2.1 i) (S.2.2.2.2 i) (W.2.1 i)) h := by
  have hh := q_X1_has hS (nI i)
  obtain ⟨⟨nw, ps, nt, mk, pc, nc, mc, h1⟩, h2, h3, h4⟩ := hS
  obtain ⟨o1, o2, o3, o4⟩ := ok
  obtain ⟨g1, g2, g3⟩ := hW
  rw [o1, (sHas_nI (by omega)).mpr ⟨i, hi, rfl⟩] at hh
  unfold f_X1_holdOf f_X1_holdOf_33
  rw [zoc_eq h1, zcI_of hh, if_neg (by decide), zgR_eq h1 rfl, zaI_nI h2 (by omega) (by decide), zgR_eq h1 rfl, zaI_nI h4 (by omega) (by decide), zgR_eq g1 rfl, zaI_nI g3 (by omega) (by decide), zcI_of (q_X0_holds (o4 i hi) _ _ h)]
  rfl
def sMat (S : Sd) (i j : Nat) : Bool := sGo S.1 (S.2.2.2.1 i) (S.2.2.2.1 j)
theorem q_X1_match {h : zH} {d n i j : Nat} {S : Sd} (hS : RS h d S) (ok : okS n S) (hi : i < n) (hj : j < n) : f_X1_match d (nI i) (nI j) h = rB (sMat S i j) h := by
  have hh := q_X1_has hS (nI i)
  have hh2 := q_X1_has hS (nI j)
  obtain ⟨⟨nw, ps, nt, mk, pc, nc, mc, h1⟩, h2, h3, h4⟩ := hS
  obtain ⟨o1, o2, o3, o4⟩ := ok
  rw [o1, (sHas_nI (by omega)).mpr ⟨i, hi, rfl⟩] at hh
  rw [o1, (sHas_nI (by omega)).mpr ⟨j, hj, rfl⟩] at hh2
  unfold f_X1_match f_X1_match_42 f_X1_match_43
  rw [zoc_eq h1, zcI_of hh, if_neg (by decide), zoc_eq h1, zcI_of hh2, if_neg (by decide), zgI_eq h1 rfl, zgR_eq h1 rfl, zaI_nI h3 (by omega) (by decide), zgR_eq h1 rfl, zaI_nI h3 (by omega) (by decide), zcI_of (q_X6_allows o3 _ _ h)]
  unfold sMat
  cases sGo S.1 (S.2.2.2.1 i) (S.2.2.2.1 j)
  · rw [if_pos (by decide), zrZ_0]
  · rw [if_neg (by decide), zrZ_1]
theorem q_X1_matchesOf {h : zH} {d n i : Nat} {S : Sd} (hS : RS h d S) (ok : okS n S) (hi : i < n) : f_X1_matchesOf d (nI i) h = rI (mkI (sMat S i) n) h := by
  have hm := fun j hj => q_X1_match (j := j) hS ok hi hj
  obtain ⟨⟨nw, ps, nt, mk, pc, nc, mc, h1⟩, h2, h3, h4⟩ := hS
  obtain ⟨o1, o2, o3, o4⟩ := ok
  rw [o1] at h1
  refine zloop (fun m k t => f_X1_matchesOf_4 m d (nI i) t (nI k) h) (mkI (sMat S i)) n _ ?_ ?_ zF 0 (Nat.zero_le _) (zF_gt (by omega))
  · intro m
    rw [f_X1_matchesOf_4, zgI_eq h1 rfl, if_pos (Int32.le_refl _)]
    rfl
  · intro m k hk
    rw [f_X1_matchesOf_4, zgI_eq h1 rfl, if_neg (nI_ge hk (by omega)), zoc_eq h1, zcI_of (hm k hk), mkI]
    cases sMat S i k
    · rw [if_pos (by decide), f_X1_matchesOf_27, nI_1]; rfl
    · rw [if_neg (by decide), zlt_eq, f_X1_matchesOf_27, nI_1]; rfl
