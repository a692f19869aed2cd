/-! LEAVES: kinds, tastes, small readers -/
def kOk (k : Int32) : Prop := ∃ j, j < 6 ∧ k = nI j
def sCov (k : Int32) : Int32 := if k = 0 then 2 else if k = 1 then 6 else if k = 2 then 7 else if k = 3 then 1 else if k = 4 then 8 else 14
def sHol (k p n : Int32) : Int32 := if k = 0 then p - n / 3 else if k = 3 then p - n / 3 + 2 else if k = 4 then p - n / 3 + 2 - n else if k = 5 then 2 * (p - n / 3 - 1) else p - n / 3 - 1
def sGo2 (ch a b : Int32) : Bool := if ch = 0 then (decide (b = a) || decide (b = a + 1)) else if ch = 1 then decide (b = a) else if ch = 2 then !(decide (b = a) || decide (b = a + 1)) else if ch = 3 then (decide (b = a) || decide (a + b = 3)) else if ch = 4 then ((decide (b = a) || decide (b = a + 1)) && !(decide (b = 3))) else (!(decide (b = a) || decide (b = a + 1)) || decide (a = 0))
def sGo (ch u v : Int32) : Bool := sGo2 ch (if v ≤ u then v else u) (if v ≤ u then u else v)
/-- answers -/
abbrev rI (x : Int32) (h : zH) : zR := some (some (.int x), h)
abbrev rB (b : Bool) (h : zH) : zR := some (some (.int (b2i b)), h)
abbrev rV (h : zH) : zR := some (none, h)
theorem zrZ_b (b : Bool) (h : zH) : zrZ (b2i b) h = rB b h := by
  unfold zrZ
  rw [if_pos (b2i_01 b)]
theorem zrZ_0 (h : zH) : zrZ 0 h = rB false h := by
  unfold zrZ
  rw [if_pos (Or.inl rfl)]
  rfl
theorem zrZ_1 (h : zH) : zrZ 1 h = rB true h := by
  unfold zrZ
  rw [if_pos (Or.inr rfl)]
  rfl
theorem six {P : Nat → Prop} (h0 : P 0) (h1 : P 1) (h2 : P 2) (h3 : P 3) (h4 : P 4) (h5 : P 5) : ∀ j, j < 6 → P j := by
  intro j hj
  match j, hj with
  | 0, _ => exact h0
  | 1, _ => exact h1
  | 2, _ => exact h2
  | 3, _ => exact h3
  | 4, _ => exact h4
  | 5, _ => exact h5
theorem q_X0_covers {k : Int32} (hk : kOk k) (h : zH) : f_X0_covers k h = rI (sCov k) h := by
  obtain ⟨j, hj, rfl⟩ := hk
  revert j
  exact six rfl rfl rfl rfl rfl rfl
theorem q_X10_covers (k : Int32) (h : zH) : f_X10_covers k h = rI (sCov k) h := by
  simp only [f_X10_covers, f_X10_covers_49, zrI, sCov]
  repeat' split
  all_goals rfl
theorem z3 : ¬ (3 : Int32) = 0 := by decide
theorem q_X0_holds {k : Int32} (hk : kOk k) (p n : Int32) (h : zH) : f_X0_holds k p n h = rI (sHol k p n) h := by
  obtain ⟨j, hj, rfl⟩ := hk
  simp only [f_X0_holds, zdv, zlt, zrI, if_neg z3]
  revert j
  exact six rfl rfl rfl rfl rfl rfl
theorem q_X10_holds (k p n : Int32) (h : zH) : f_X10_holds k p n h = rI (sHol k p n) h := by
  simp only [f_X10_holds, f_X10_holds_54, zdv, zlt, zrI, if_neg z3, sHol]
  repeat' split
  all_goals rfl
theorem q_X6_21 {ch : Int32} (hk : kOk ch) (a b : Int32) (h : zH) : f_X6_allows_21 ch a b h = rB (sGo2 ch a b) h := by
  obtain ⟨j, hj, rfl⟩ := hk
  simp only [f_X6_allows_21, f_X6_allows_34, f_X6_allows_49, f_X6_allows_54, f_X6_allows_112, f_X6_allows_126, f_X6_allows_131, f_X6_allows_147, f_X6_allows_148, f_X6_allows_158, f_X6_allows_163, sGo2, zrZ, ← Bool.cond_decide]
  generalize decide (b = a) = B1
  generalize decide (b = a + 1) = B2
  generalize decide (a + b = 3) = B3
  generalize decide (b = 3) = B4
  generalize decide (a = 0) = B5
  revert j
  cases B1 <;> cases B2 <;> cases B3 <;> cases B4 <;> cases B5 <;> exact six rfl rfl rfl rfl rfl rfl
theorem q_X10_21 {ch : Int32} (hk : kOk ch) (a b : Int32) (h : zH) : f_X10_goes_21 ch a b h = rB (sGo2 ch a b) h := by
  obtain ⟨j, hj, rfl⟩ := hk
  have e : decide (a = b) = decide (b = a) := by simp only [eq_comm]
  simp only [f_X10_goes_21, f_X10_goes_37, f_X10_goes_42, f_X10_goes_94, f_X10_goes_105, f_X10_goes_120, f_X10_goes_125, f_X10_goes_141, f_X10_goes_142, f_X10_goes_152, f_X10_goes_157, sGo2, zrZ, ← Bool.cond_decide]
  rw [e]
  generalize decide (b = a) = B1
  generalize decide (b = a + 1) = B2
  generalize decide (a + b = 3) = B3
  generalize decide (b = 3) = B4
  generalize decide (a = 0) = B5
  revert j
  cases B1 <;> cases B2 <;> cases B3 <;> cases B4 <;> cases B5 <;> exact six rfl rfl rfl rfl rfl rfl
theorem q_X6_allows {ch : Int32} (hk : kOk ch) (u v : Int32) (h : zH) : f_X6_allows ch u v h = rB (sGo ch u v) h := by
  unfold f_X6_allows f_X6_allows_10 sGo
  by_cases c : v ≤ u
  · simp only [if_pos c]; exact q_X6_21 hk v u h
  · simp only [if_neg c]; exact q_X6_21 hk u v h
theorem q_X10_goes {ch : Int32} (hk : kOk ch) (u v : Int32) (h : zH) : f_X10_goes ch u v h = rB (sGo ch u v) h := by
  unfold f_X10_goes f_X10_goes_10 sGo
  by_cases c : v ≤ u
  · simp only [if_pos c]; exact q_X10_21 hk v u h
  · simp only [if_neg c]; exact q_X10_21 hk u v h
theorem sGo_comm (ch u v : Int32) : sGo ch u v = sGo ch v u := by
  unfold sGo
  by_cases c1 : v ≤ u
  · by_cases c2 : u ≤ v
    · have : u = v := Int32.le_antisymm c2 c1
      subst this; rfl
    · simp only [if_pos c1, if_neg c2]
  · by_cases c2 : u ≤ v
    · simp only [if_neg c1, if_pos c2]
    · exact absurd (Int32.le_of_lt (Int32.not_le.mp c1)) c2
theorem q_X9_within (x a b : Int32) (h : zH) : f_X9_within x a b h = rB (decide (a ≤ x) && decide (x ≤ b)) h := by
  simp only [f_X9_within, f_X9_within_14, f_X9_within_15]
  by_cases c1 : x < a
  · rw [if_pos c1, show decide (a ≤ x) = false from decide_eq_false (Int32.not_le.mpr c1)]; exact zrZ_0 h
  · rw [if_neg c1, show decide (a ≤ x) = true from decide_eq_true (Int32.not_lt.mp c1)]
    by_cases c2 : b < x
    · rw [if_pos c2, show decide (x ≤ b) = false from decide_eq_false (Int32.not_le.mpr c2)]; exact zrZ_0 h
    · rw [if_neg c2, show decide (x ≤ b) = true from decide_eq_true (Int32.not_lt.mp c2)]; exact zrZ_1 h
theorem q_X10_has (s : Int32) (i : Nat) (h : zH) : f_X10_has s (nI i) h = rB (hb s i) h := by
  unfold f_X10_has f_X10_has_14 hb
  by_cases c : ((s >>> (nI i &&& 31)) &&& 1) = 1
  · rw [if_pos c, c]; rfl
  · rw [if_neg c]
    have e : (((s >>> (nI i &&& 31)) &&& 1) == 1) = false := by simpa using c
    rw [e]; rfl
/-! evaluation, a step each -/
section EVS
variable {h : zH} {a ci k t n : Nat}
theorem zgO_eq {fs : List Value} {K : List Value → zR} (ha : h.2 a = some (.inr (ci, fs))) : zgO h a ci K = K fs := by
  unfold zgO
  rw [ha]
  exact if_pos rfl
theorem zgI_eq {fs : List Value} {x : Int32} {K : Int32 → zR} (ha : h.2 a = some (.inr (ci, fs))) (hk : fs[k]? = some (.int x)) : zgI h a ci k K = K x := by
  unfold zgI
  rw [zgO_eq ha, hk]
theorem zgJ_eq {fs : List Value} {x : Int64} {K : Int64 → zR} (ha : h.2 a = some (.inr (ci, fs))) (hk : fs[k]? = some (.long x)) : zgJ h a ci k K = K x := by
  unfold zgJ
  rw [zgO_eq ha, hk]
theorem zgR_eq {fs : List Value} {x : Nat} {K : Nat → zR} (ha : h.2 a = some (.inr (ci, fs))) (hk : fs[k]? = some (.ref x)) : zgR h a ci k K = K x := by
  unfold zgR
  rw [zgO_eq ha, hk]
theorem zoc_eq {fs : List Value} {r : zR} (ha : h.2 a = some (.inr (ci, fs))) : zoc h a ci r = r := by
  unfold zoc
  rw [zgO_eq ha]
theorem zpV_eq {fs : List Value} {v : Value} {K : zH → zR} (ha : h.2 a = some (.inr (ci, fs))) (hk : k < fs.length) : zpV h a ci k v K = K (zset h a (.inr (ci, fs.set k v))) := by
  unfold zpV
  rw [zgO_eq ha, if_pos hk]
theorem zgA_eq {f : Nat → Int32} {K : Nat → (Nat → Int32) → zR} (ha : h.2 a = some (.inl (t, n, .inl f))) : zgA h a t K = K n f := by
  unfold zgA
  rw [ha]
  exact if_pos rfl
theorem zgB_eq {f : Nat → Option Nat} {K : Nat → (Nat → Option Nat) → zR} (ha : h.2 a = some (.inl (t, n, .inr f))) : zgB h a t K = K n f := by
  unfold zgB
  rw [ha]
  exact if_pos rfl
theorem inF {k n : Nat} (hk : k < n) (hn : n < 2 ^ 31) : ¬ (nI k < 0 ∨ n ≤ (nI k).toNatClampNeg) := by
  rw [nI_clamp (Nat.lt_trans hk hn)]
  intro q
  rcases q with q | q
  · exact nI_pos (Nat.lt_trans hk hn) q
  · omega
theorem zaI_eq {f : Nat → Int32} {K : Int32 → zR} {i : Int32} (j : Nat) (hi : i = nI j) (ha : h.2 a = some (.inl (t, n, .inl f))) (hj : j < n) (hn : n < 2 ^ 31) : zaI h a t i K = K (f j) := by
  subst hi
  unfold zaI
  rw [zgA_eq ha, if_neg (inF hj hn), nI_clamp (Nat.lt_trans hj hn)]
theorem zaI_nI {f : Nat → Int32} {K : Int32 → zR} {j : Nat} (ha : h.2 a = some (.inl (t, n, .inl f))) (hj : j < n) (hn : n < 2 ^ 31) : zaI h a t (nI j) K = K (f j) := zaI_eq j rfl ha hj hn
theorem zsI_eq {f : Nat → Int32} {K : zH → zR} {i x : Int32} (j : Nat) (hi : i = nI j) (ha : h.2 a = some (.inl (t, n, .inl f))) (hj : j < n) (hn : n < 2 ^ 31) : zsI h a t i x K = K (zset h a (.inl (t, n, .inl (upd f j x)))) := by
  subst hi
  unfold zsI
  rw [zgA_eq ha, if_neg (inF hj hn), nI_clamp (Nat.lt_trans hj hn)]
theorem zaR_eq {f : Nat → Option Nat} {K : Nat → zR} {i : Int32} {y : Nat} (j : Nat) (hi : i = nI j) (ha : h.2 a = some (.inl (t, n, .inr f))) (hj : j < n) (hn : n < 2 ^ 31) (hy : f j = some y) : zaR h a t i K = K y := by
  subst hi
  unfold zaR
  rw [zgB_eq ha, if_neg (inF hj hn), nI_clamp (Nat.lt_trans hj hn), hy]
theorem zsR_eq {f : Nat → Option Nat} {K : zH → zR} {i : Int32} {v : Nat} {fs : List Value} (j : Nat) (hi : i = nI j) (ha : h.2 a = some (.inl (t, n, .inr f))) (hj : j < n) (hn : n < 2 ^ 31) (hv : h.2 v = some (.inr (ci, fs))) : zsR h a t i v ci K = K (zset h a (.inl (t, n, .inr (va_up f j (some v))))) := by
  subst hi
  unfold zsR
  rw [zgB_eq ha, if_neg (inF hj hn), nI_clamp (Nat.lt_trans hj hn), zoc_eq hv]
theorem zcI_of {r : zR} {x : Int32} {h' : zH} {K : Int32 → zH → zR} (e : r = rI x h') : zcI r K = K x h' := by rw [e]; rfl
theorem zcJ_of {r : zR} {x : Int64} {h' : zH} {K : Int64 → zH → zR} (e : r = some (some (.long x), h')) : zcJ r K = K x h' := by rw [e]; rfl
theorem zcV_of {r : zR} {h' : zH} {K : zH → zR} (e : r = rV h') : zcV r K = K h' := by rw [e]; rfl
theorem zlt_eq {α : Type} {x : α} {K : α → zR} : zlt x K = K x := rfl
theorem zset_at (h : zH) (a : Nat) (e : zE) : (zset h a e).2 a = some e := by simp [zset]
theorem zset_ne {b : Nat} (e : zE) (hb : b ≠ a) : (zset h a e).2 b = h.2 b := by simp [zset, hb]
theorem zset_1 (h : zH) (a : Nat) (e : zE) : (zset h a e).1 = h.1 := rfl
end EVS
