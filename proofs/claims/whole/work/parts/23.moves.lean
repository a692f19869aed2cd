/-! THE CLASS'S MOVES ON A WEAR -/
theorem hole : ∀ (m n : Nat) (f : Nat → Nat), (∀ i, i < n → f i < m) → (∀ i j, i < n → j < n → f i = f j → i = j) → n ≤ m
  | m, 0, _, _, _ => Nat.zero_le m
  | 0, n + 1, f, h, _ => absurd (h 0 (by omega)) (Nat.not_lt_zero _)
  | m + 1, n + 1, f, h, hi => by
    refine Nat.succ_le_succ (hole m n (fun i => if f i = m then f n else f i) ?_ ?_)
    · intro i hin
      have h1 := h i (by omega)
      have h2 := h n (by omega)
      have h3 : f i ≠ f n := fun e => by have := hi i n (by omega) (by omega) e; omega
      show (if f i = m then f n else f i) < m
      split <;> omega
    · intro i j h1 h2 e
      have h3 : f i ≠ f n := fun e => by have := hi i n (by omega) (by omega) e; omega
      have h4 : f j ≠ f n := fun e => by have := hi j n (by omega) (by omega) e; omega
      have e : (if f i = m then f n else f i) = (if f j = m then f n else f j) := e
      apply hi i j (by omega) (by omega)
      split at e <;> split at e <;> omega
def Fr (h h' : zH) (lo hi : Nat) : Prop := h'.1 = h.1 ∧ ∀ a, a < lo ∨ hi ≤ a → h'.2 a = h.2 a
theorem Fr.rf {h : zH} {lo hi : Nat} : Fr h h lo hi := ⟨rfl, fun _ _ => rfl⟩
theorem Fr.tr {h h1 h2 : zH} {lo hi : Nat} (a : Fr h h1 lo hi) (b : Fr h1 h2 lo hi) : Fr h h2 lo hi := ⟨b.1.trans a.1, fun q hq => (b.2 q hq).trans (a.2 q hq)⟩
theorem Fr.wide {h g : zH} {lo hi lo2 hi2 : Nat} (a : Fr h g lo hi) (h1 : lo2 ≤ lo) (h2 : hi ≤ hi2) : Fr h g lo2 hi2 := ⟨a.1, fun q hq => a.2 q (by omega)⟩
theorem Fr.set {h : zH} {a lo hi : Nat} (e : zE) (h1 : lo ≤ a) (h2 : a < hi) : Fr h (zset h a e) lo hi := ⟨rfl, fun q hq => zset_ne e (by omega)⟩
theorem RW.keep {h h' : zH} {w lo hi : Nat} {W : Wr} (a : RW h w W) (f : Fr h h' lo hi) (hd : w + 3 ≤ lo ∨ hi ≤ w) : RW h' w W := by
  obtain ⟨h1, h2, h3⟩ := a
  exact ⟨(f.2 w (by omega)).trans h1, (f.2 (w + 1) (by omega)).trans h2, (f.2 (w + 2) (by omega)).trans h3⟩
theorem RS.keep {h h' : zH} {d lo hi : Nat} {S : Sd} (a : RS h d S) (f : Fr h h' lo hi) (hd : d + 4 ≤ lo ∨ hi ≤ d) : RS h' d S := by
  obtain ⟨⟨nw, ps, nt, mk, pc, nc, mc, h1⟩, h2, h3, h4⟩ := a
  exact ⟨⟨nw, ps, nt, mk, pc, nc, mc, (f.2 d (by omega)).trans h1⟩, (f.2 (d + 1) (by omega)).trans h2, (f.2 (d + 2) (by omega)).trans h3, (f.2 (d + 3) (by omega)).trans h4⟩
theorem m101 {k : Nat} (hk : k < 256) : ¬ nI k = -101 := by
  revert k
  decide +kernel
theorem sPl_none {on : Nat → Int32} {L : Nat} (h8 : L ≤ 8) {x : Int32} : sPl on L x = -101 ↔ ∀ k, k < L → ¬ on k = x := by
  unfold sPl
  cases h : fstN (fun k => decide (on k = x)) L with
  | none =>
    have := fstN_none.mp h
    simp only [true_iff]
    exact fun k hk => by simpa using this k hk
  | some k =>
    obtain ⟨h1, h2, -⟩ := fstN_some.mp h
    constructor
    · intro e
      exact absurd e (m101 (by omega))
    · intro q
      exact absurd (by simpa using h2) (q k h1)
def canPut (S : Sd) (W : Wr) (L i : Nat) : Bool := allN (fun k => !decide (W.1 k = nI i)) L && (decide (1 ≤ sHol (S.2.2.1 i) (S.2.2.2.2 i) (W.2.1 i)) && allN (fun k => sMat S i (ix (W.1 k))) L)
def canTake (S : Sd) (W : Wr) (L i : Nat) : Bool := match fstN (fun k => decide (W.1 k = nI i)) L with
  | none => false
  | some p => allN (fun k => decide (sCov (S.2.2.1 (ix (W.1 (p + 1 + k)))) &&& sCov (S.2.2.1 i) = 0)) (L - (p + 1))
def canMove (S : Sd) (W : Wr) (L : Nat) (what : Int32) (i : Nat) : Bool := if what = 0 then canPut S W L i else if what = 1 then canTake S W L i else !decide (W.2.1 i ≤ 0)
theorem q_X1_mayPut {h : zH} {d n w L i : Nat} {S : Sd} {W : Wr} (hS : RS h d S) (ok : okS n S) (hW : RW h w W) (okw : okW n L W) (hi : i < n) : f_X1_mayPut d w (nI i) h = rB (canPut S W L i) h := by
  have o8 : L ≤ 8 := Nat.le_trans okw.2.1 ok.2.1
  have e1 := q_X8_placeOf hW okw.1 o8 (nI i)
  obtain ⟨⟨nw, ps, nt, mk, pc, nc, mc, h1⟩, h2, h3, h4⟩ := hS
  obtain ⟨o1, o2, o3, o4⟩ := ok
  obtain ⟨g1, g2, g3⟩ := hW
  obtain ⟨w1, w2, w3, w4⟩ := okw
  rw [w1] at g1
  unfold f_X1_mayPut f_X1_mayPut_35 canPut
  rw [zoc_eq g1, zcI_of e1]
  by_cases c : sPl W.1 L (nI i) = -101
  · rw [if_pos c]
    have c' := (sPl_none o8).mp c
    rw [show allN (fun k => !decide (W.1 k = nI i)) L = true from allN_iff.mpr (fun k hk => by simpa using c' k hk), Bool.true_and]
    rw [zgR_eq h1 rfl, zaI_nI h2 (by omega) (by decide), zgR_eq h1 rfl, zaI_nI h4 (by omega) (by decide), zgR_eq g1 rfl, zaI_nI g3 (by omega) (by decide), zcI_of (q_X0_holds (o4 i hi) _ _ h)]
    by_cases c2 : 1 ≤ sHol (S.2.2.1 i) (S.2.2.2.2 i) (W.2.1 i)
    · rw [if_pos c2, decide_eq_true c2, Bool.true_and]
      refine (zloopA (fun m k (_ : Unit) => f_X1_mayPut_39 m d w (nI i) (nI k) h) (fun _ => ()) L (fun k => sMat S i (ix (W.1 k))) (rB true h) (rB false h) ?_ ?_ ?_ zF (by show L < 20000; omega)).trans ?_
      · intro m
        rw [f_X1_mayPut_39, zgI_eq g1 rfl, if_pos (Int32.le_refl _), zrZ_1]
      · intro m k hk hp
        obtain ⟨j, hj, ej⟩ := w3 k hk
        rw [ej, ix_nI (by omega)] at hp
        rw [f_X1_mayPut_39, zgI_eq g1 rfl, if_neg (nI_ge hk (by omega)), zgI_eq h1 rfl, zgR_eq h1 rfl, zaI_nI h3 (by omega) (by decide), zgR_eq h1 rfl, zgR_eq g1 rfl, zaI_nI g2 (by omega) (by decide), ej, zaI_nI h3 (by omega) (by decide), zcI_of (q_X6_allows o3 _ _ h), show sGo S.1 (S.2.2.2.1 i) (S.2.2.2.1 j) = true from hp, if_neg (by decide), nI_1]
      · intro m k hk hp
        obtain ⟨j, hj, ej⟩ := w3 k hk
        rw [ej, ix_nI (by omega)] at hp
        rw [f_X1_mayPut_39, zgI_eq g1 rfl, if_neg (nI_ge hk (by omega)), zgI_eq h1 rfl, zgR_eq h1 rfl, zaI_nI h3 (by omega) (by decide), zgR_eq h1 rfl, zgR_eq g1 rfl, zaI_nI g2 (by omega) (by decide), ej, zaI_nI h3 (by omega) (by decide), zcI_of (q_X6_allows o3 _ _ h), show sGo S.1 (S.2.2.2.1 i) (S.2.2.2.1 j) = false from hp, if_pos (by decide), zrZ_0]
      · cases allN (fun k => sMat S i (ix (W.1 k))) L <;> rfl
    · rw [if_neg c2, decide_eq_false c2, Bool.false_and, zrZ_0]
  · rw [if_neg c]
    have c' : allN (fun k => !decide (W.1 k = nI i)) L = false := by
      cases q : allN (fun k => !decide (W.1 k = nI i)) L with
      | false => rfl
      | true => exact absurd ((sPl_none o8).mpr (fun k hk => by simpa using allN_iff.mp q k hk)) c
    rw [c', Bool.false_and, zrZ_0]
theorem q_X1_mayTake {h : zH} {d n w L i : Nat} {S : Sd} {W : Wr} (hS : RS h d S) (ok : okS n S) (hW : RW h w W) (okw : okW n L W) (hi : i < n) : f_X1_mayTake d w (nI i) h = rB (canTake S W L i) h := by
  have o8 : L ≤ 8 := Nat.le_trans okw.2.1 ok.2.1
  have e1 := q_X8_placeOf hW okw.1 o8 (nI i)
  have e2 := fun j hj => q_X1_spotsOf (i := j) hS ok hj
  obtain ⟨⟨nw, ps, nt, mk, pc, nc, mc, h1⟩, h2, h3, h4⟩ := hS
  obtain ⟨o1, o2, o3, o4⟩ := ok
  obtain ⟨g1, g2, g3⟩ := hW
  obtain ⟨w1, w2, w3, w4⟩ := okw
  rw [w1] at g1
  unfold f_X1_mayTake canTake
  rw [zoc_eq g1, zcI_of e1]
  unfold sPl
  cases hp : fstN (fun k => decide (W.1 k = nI i)) L with
  | none =>
    simp only []
    rw [if_pos (by first | rfl | trivial), zrZ_0]
  | some p =>
    obtain ⟨p1, p2, p3⟩ := fstN_some.mp hp
    simp only []
    rw [if_neg (m101 (by omega)), zoc_eq h1, zcI_of (e2 i hi), zlt_eq, nI_1]
    refine (zloopA (fun m k (_ : Unit) => f_X1_mayTake_26 m d w (sCov (S.2.2.1 i)) (nI (p + 1 + k)) h) (fun _ => ()) (L - (p + 1)) (fun k => decide (sCov (S.2.2.1 (ix (W.1 (p + 1 + k)))) &&& sCov (S.2.2.1 i) = 0)) (rB true h) (rB false h) ?_ ?_ ?_ zF (by show _ < 20000; omega)).trans ?_
    · intro m
      rw [f_X1_mayTake_26, zgI_eq g1 rfl, if_pos (nI_le (by omega) (by omega)), zrZ_1]
    · intro m k hk hq
      obtain ⟨j, hj, ej⟩ := w3 (p + 1 + k) (by omega)
      rw [ej, ix_nI (by omega)] at hq
      rw [f_X1_mayTake_26, zgI_eq g1 rfl, if_neg (nI_ge (by omega) (by omega)), zgR_eq g1 rfl, zaI_nI g2 (by omega) (by decide), ej, zoc_eq h1, zcI_of (e2 j hj), if_pos (of_decide_eq_true hq), nI_1, Nat.add_assoc]
    · intro m k hk hq
      obtain ⟨j, hj, ej⟩ := w3 (p + 1 + k) (by omega)
      rw [ej, ix_nI (by omega)] at hq
      rw [f_X1_mayTake_26, zgI_eq g1 rfl, if_neg (nI_ge (by omega) (by omega)), zgR_eq g1 rfl, zaI_nI g2 (by omega) (by decide), ej, zoc_eq h1, zcI_of (e2 j hj), if_neg (of_decide_eq_false hq), zrZ_0]
    · cases allN (fun k => decide (sCov (S.2.2.1 (ix (W.1 (p + 1 + k)))) &&& sCov (S.2.2.1 i) = 0)) (L - (p + 1)) <;> rfl
theorem n20 : ¬ (2 : Int32) = 0 := by decide
theorem n21 : ¬ (2 : Int32) = 1 := by decide
theorem n10 : ¬ (1 : Int32) = 0 := by decide
theorem q_X1_mayMove {h : zH} {d n w L i : Nat} {S : Sd} {W : Wr} (hS : RS h d S) (ok : okS n S) (hW : RW h w W) (okw : okW n L W) (hi : i < n) {what : Int32} (hw : what = 0 ∨ what = 1 ∨ what = 2) : f_X1_mayMove d w what (nI i) h = rB (canMove S W L what i) h := by
  have hh := q_X1_has hS (nI i)
  have e1 := q_X1_mayPut hS ok hW okw hi
  have e2 := q_X1_mayTake hS ok hW okw hi
  obtain ⟨⟨nw, ps, nt, mk, pc, nc, mc, h1⟩, h2, h3, h4⟩ := hS
  obtain ⟨o1, o2, o3, o4⟩ := ok
  obtain ⟨g1, g2, g3⟩ := hW
  rw [o1, (sHas_nI (by omega)).mpr ⟨i, hi, rfl⟩] at hh
  unfold f_X1_mayMove canMove f_X1_mayMove_64
  rw [zoc_eq h1, zcI_of hh, if_neg (by decide)]
  rcases hw with rfl | rfl | rfl
  · rw [if_pos rfl, zoc_eq h1, zcI_of e1, if_pos rfl, zrZ_b]
  · rw [if_neg (by decide), if_pos rfl, zoc_eq h1, zcI_of e2, if_neg (by decide), if_pos rfl, zrZ_b]
  · rw [if_neg n20, if_neg n21, if_pos rfl, zgR_eq g1 rfl, zaI_nI g3 (by omega) (by decide), if_neg n20, if_neg n21]
    by_cases c : W.2.1 i ≤ 0
    · rw [if_pos c, zrZ_0, decide_eq_true c]; rfl
    · rw [if_neg c, zrZ_1, decide_eq_false c]; rfl
theorem q_X1_setThatMay {h : zH} {d n w L : Nat} {S : Sd} {W : Wr} (hS : RS h d S) (ok : okS n S) (hW : RW h w W) (okw : okW n L W) {what : Int32} (hw : what = 0 ∨ what = 1 ∨ what = 2) : f_X1_setThatMay d w what h = rI (mkI (canMove S W L what) n) h := by
  have hm := fun i (hi : i < n) => q_X1_mayMove hS ok hW okw hi hw
  obtain ⟨⟨nw, ps, nt, mk, pc, nc, mc, h1⟩, h2, h3, h4⟩ := hS
  obtain ⟨o1, o2, o3, o4⟩ := ok
  rw [o1] at h1
  refine zloop (fun m k t => f_X1_setThatMay_5 m d w what t (nI k) h) (mkI (canMove S W L what)) n _ ?_ ?_ zF 0 (Nat.zero_le _) (zF_gt (by omega))
  · intro m
    rw [f_X1_setThatMay_5, zgI_eq h1 rfl, if_pos (Int32.le_refl _)]
    rfl
  · intro m k hk
    rw [f_X1_setThatMay_5, zgI_eq h1 rfl, if_neg (nI_ge hk (by omega)), zoc_eq h1, zcI_of (hm k hk), mkI]
    cases canMove S W L what k
    · rw [if_pos (by decide), f_X1_setThatMay_32, nI_1]; rfl
    · rw [if_neg (by decide), zlt_eq, f_X1_setThatMay_32, nI_1]; rfl
/-- a move, as the class does it -/
def shf (on : Nat → Int32) (p b : Nat) : Nat → Int32 := fun k => if p ≤ k ∧ k < b then on (k + 1) else on k
def moveW (W : Wr) (L : Nat) (what : Int32) (i : Nat) : Wr := if what = 0 then (upd W.1 L (nI i), upd W.2.1 i (W.2.1 i + 1), W.2.2.1 + 1, W.2.2.2 + 1) else if what = 1 then (match fstN (fun k => decide (W.1 k = nI i)) L with
  | some p => (shf W.1 p (L - 1), W.2.1, W.2.2.1 - 1, W.2.2.2 + 1)
  | none => W) else (W.1, upd W.2.1 i 0, W.2.2.1, W.2.2.2 + 1)
def moveL (L : Nat) (what : Int32) : Nat := if what = 0 then L + 1 else if what = 1 then L - 1 else L
theorem RW.cnt {h : zH} {w : Nat} {W : Wr} (hW : RW h w W) (a b : Int32) : RW (zset h w (.inr (4, [.ref (w + 1), .ref (w + 2), .int a, .int b]))) w (W.1, W.2.1, a, b) := ⟨zset_at _ _ _, (zset_ne _ (by omega)).trans hW.2.1, (zset_ne _ (by omega)).trans hW.2.2⟩
theorem RW.on {h : zH} {w : Nat} {W : Wr} (hW : RW h w W) (f : Nat → Int32) : RW (zset h (w + 1) (.inl (0, 8, .inl f))) w (f, W.2.1, W.2.2.1, W.2.2.2) := ⟨(zset_ne _ (by omega)).trans hW.1, zset_at _ _ _, (zset_ne _ (by omega)).trans hW.2.2⟩
theorem RW.wo {h : zH} {w : Nat} {W : Wr} (hW : RW h w W) (f : Nat → Int32) : RW (zset h (w + 2) (.inl (0, 8, .inl f))) w (W.1, f, W.2.2.1, W.2.2.2) := ⟨(zset_ne _ (by omega)).trans hW.1, (zset_ne _ (by omega)).trans hW.2.1, zset_at _ _ _⟩
theorem RW.put2 {h : zH} {w : Nat} {W : Wr} (hW : RW h w W) (a : Int32) {K : zH → zR} : zpV h w 4 2 (.int a) K = K (zset h w (.inr (4, [.ref (w + 1), .ref (w + 2), .int a, .int W.2.2.2]))) := zpV_eq hW.1 (Nat.le_of_ble_eq_true rfl)
theorem RW.put3 {h : zH} {w : Nat} {W : Wr} (hW : RW h w W) (a : Int32) {K : zH → zR} : zpV h w 4 3 (.int a) K = K (zset h w (.inr (4, [.ref (w + 1), .ref (w + 2), .int W.2.2.1, .int a]))) := zpV_eq hW.1 (Nat.le_of_ble_eq_true rfl)
theorem q_X8_layOver {h : zH} {w L i : Nat} {W : Wr} (hW : RW h w W) (hL : W.2.2.1 = nI L) (h8 : L < 8) (hi : i < 8) : ∃ h', f_X8_layOver w (nI i) h = rV h' ∧ RW h' w (upd W.1 L (nI i), upd W.2.1 i (W.2.1 i + 1), W.2.2.1 + 1, W.2.2.2) ∧ Fr h h' w (w + 3) := by
  unfold f_X8_layOver f_X8_layOver_39
  rw [zgI_eq hW.1 rfl, if_neg (by rw [hL]; exact nI_ge (b := 8) h8 (by decide)), zgR_eq hW.1 rfl, zgI_eq hW.1 rfl, zsI_eq L hL hW.2.1 h8 (by decide)]
  have hW1 := hW.on (upd W.1 L (nI i))
  have f1 : Fr h (zset h (w + 1) (.inl (0, 8, .inl (upd W.1 L (nI i))))) w (w + 3) := Fr.set _ (by omega) (by omega)
  generalize zset h (w + 1) (.inl (0, 8, .inl (upd W.1 L (nI i)))) = h1 at hW1 f1 ⊢
  rw [zgI_eq hW1.1 rfl, hW1.put2]
  have hW2 := hW1.cnt (W.2.2.1 + 1) W.2.2.2
  have f2 := f1.tr (Fr.set (h := h1) (a := w) (lo := w) (hi := w + 3) (.inr (4, [.ref (w + 1), .ref (w + 2), .int (W.2.2.1 + 1), .int W.2.2.2])) (by omega) (by omega))
  dsimp only at hW2 f2 ⊢
  generalize zset h1 w (.inr (4, [.ref (w + 1), .ref (w + 2), .int (W.2.2.1 + 1), .int W.2.2.2])) = h2 at hW2 f2 ⊢
  rw [zgR_eq hW2.1 rfl, zaI_nI hW2.2.2 hi (by decide), zsI_eq i rfl hW2.2.2 hi (by decide)]
  exact ⟨_, rfl, hW2.wo _, f2.tr (Fr.set _ (by omega) (by omega))⟩
theorem upd_self (f : Nat → Int32) (k : Nat) (x : Int32) : upd f k x k = x := by simp [upd]
theorem upd_ne (f : Nat → Int32) {k j : Nat} (x : Int32) (h : j ≠ k) : upd f k x j = f j := by simp [upd, h]
theorem shf_step (on : Nat → Int32) (p k : Nat) (h : p ≤ k) : upd (shf on p k) k (on (k + 1)) = shf on p (k + 1) := by
  funext j
  unfold upd shf
  by_cases c : j = k
  · subst c; simp [h]
  · by_cases c2 : p ≤ j ∧ j < k
    · simp [c, c2, show j < k + 1 by omega]
    · have : ¬ (p ≤ j ∧ j < k + 1) := by omega
      simp [c, c2, this]
theorem shf_0 (on : Nat → Int32) (p : Nat) : shf on p p = on := by
  funext j
  unfold shf
  rw [if_neg (by omega)]
theorem shf_out (on : Nat → Int32) (p k : Nat) : shf on p k (k + 1) = on (k + 1) := by
  unfold shf
  rw [if_neg (by omega)]
theorem zloopE {σ : Type} (F : Nat → Nat → σ → zR) (Inv : Nat → σ → Prop) (b : Nat) (R : zR → Prop) (hend : ∀ n s, Inv b s → R (F (n + 1) b s)) (hstep : ∀ n k s, k < b → Inv k s → ∃ s', Inv (k + 1) s' ∧ F (n + 1) k s = F n (k + 1) s') : ∀ (fuel k : Nat) (s : σ), k ≤ b → b < fuel + k → Inv k s → R (F fuel k s) := by
  intro fuel
  induction fuel with
  | zero => intro k s h1 h2; omega
  | succ n ih =>
    intro k s h1 h2 hI
    rcases Nat.lt_or_ge k b with h | h
    · obtain ⟨s', hI', e⟩ := hstep n k s h hI
      rw [e]
      exact ih (k + 1) s' (by omega) (by omega) hI'
    · have : k = b := by omega
      subst this
      exact hend n s hI
theorem q_X8_pullOut {h : zH} {w L i : Nat} {W : Wr} (hW : RW h w W) (hL : W.2.2.1 = nI L) (h8 : L ≤ 8) {p : Nat} (hp : fstN (fun k => decide (W.1 k = nI i)) L = some p) : ∃ h', f_X8_pullOut w (nI i) h = rV h' ∧ RW h' w (shf W.1 p (L - 1), W.2.1, W.2.2.1 - 1, W.2.2.2) ∧ Fr h h' w (w + 3) := by
  have e1 := q_X8_placeOf hW hL h8 (nI i)
  obtain ⟨p1, p2, p3⟩ := fstN_some.mp hp
  unfold sPl at e1
  rw [hp] at e1
  have hL1 : W.2.2.1 - 1 = nI (L - 1) := by rw [hL, show L = (L - 1) + 1 by omega, nI_pred]; rfl
  unfold f_X8_pullOut
  rw [zoc_eq hW.1, zcI_of e1, if_neg (m101 (by omega)), zgI_eq hW.1 rfl, hW.put2]
  have hW1 := hW.cnt (W.2.2.1 - 1) W.2.2.2
  have f1 : Fr h (zset h w (.inr (4, [.ref (w + 1), .ref (w + 2), .int (W.2.2.1 - 1), .int W.2.2.2]))) w (w + 3) := Fr.set _ (by omega) (by omega)
  show ∃ h', f_X8_pullOut_25 zF w (nI p) (zset h w (.inr (4, [.ref (w + 1), .ref (w + 2), .int (W.2.2.1 - 1), .int W.2.2.2]))) = _ ∧ _
  generalize zset h w (.inr (4, [.ref (w + 1), .ref (w + 2), .int (W.2.2.1 - 1), .int W.2.2.2])) = h1 at hW1 f1 ⊢
  refine zloopE (fun m k g => f_X8_pullOut_25 m w (nI k) g) (fun k g => p ≤ k ∧ RW g w (shf W.1 p k, W.2.1, W.2.2.1 - 1, W.2.2.2) ∧ Fr h g w (w + 3)) (L - 1) (fun r => ∃ h', r = rV h' ∧ RW h' w (shf W.1 p (L - 1), W.2.1, W.2.2.1 - 1, W.2.2.2) ∧ Fr h h' w (w + 3)) ?_ ?_ zF p h1 (by omega) (by show _ < 20000 + p; omega) ⟨Nat.le_refl _, by rw [shf_0]; exact hW1, f1⟩
  · intro m g ⟨_, hg, fg⟩
    show ∃ h', f_X8_pullOut_25 (m + 1) w (nI (L - 1)) g = _ ∧ _
    rw [f_X8_pullOut_25, zgI_eq hg.1 rfl, if_pos (by show W.2.2.1 - 1 ≤ _; rw [hL1]; exact Int32.le_refl _)]
    exact ⟨g, rfl, hg, fg⟩
  · intro m k g hk ⟨hpk, hg, fg⟩
    refine ⟨zset g (w + 1) (.inl (0, 8, .inl (shf W.1 p (k + 1)))), ⟨by omega, hg.on _, fg.tr (Fr.set _ (by omega) (by omega))⟩, ?_⟩
    show f_X8_pullOut_25 (m + 1) w (nI k) g = f_X8_pullOut_25 m w (nI (k + 1)) _
    rw [f_X8_pullOut_25, zgI_eq hg.1 rfl, if_neg (by show ¬ W.2.2.1 - 1 ≤ _; rw [hL1]; exact nI_ge hk (by omega)), zgR_eq hg.1 rfl, zgR_eq hg.1 rfl, nI_1, zaI_nI hg.2.1 (by omega) (by decide), zsI_eq k rfl hg.2.1 (by omega) (by decide)]
    show f_X8_pullOut_25 m w (nI (k + 1)) (zset g (w + 1) (.inl (0, 8, .inl (upd (shf W.1 p k) k (shf W.1 p k (k + 1)))))) = _
    rw [shf_out, shf_step W.1 p k hpk]
theorem q_X1_move_41 {h : zH} {w : Nat} {W : Wr} (hW : RW h w W) : ∃ h', f_X1_move_41 w h = rV h' ∧ RW h' w (W.1, W.2.1, W.2.2.1, W.2.2.2 + 1) ∧ Fr h h' w (w + 3) := by
  unfold f_X1_move_41
  rw [zgI_eq hW.1 rfl, hW.put3]
  exact ⟨_, rfl, hW.cnt W.2.2.1 (W.2.2.2 + 1), Fr.set _ (by omega) (by omega)⟩
/-- a move that can be made: what the class does -/
theorem q_X1_move {h : zH} {d n w L i : Nat} {S : Sd} {W : Wr} (hS : RS h d S) (ok : okS n S) (hW : RW h w W) (okw : okW n L W) (hi : i < n) {what : Int32} (hw : what = 0 ∨ what = 1 ∨ what = 2) (hL8 : what = 0 → L < 8) (hc : what = 1 → ∃ p, fstN (fun k => decide (W.1 k = nI i)) L = some p) : ∃ h', f_X1_move d w what (nI i) h = rV h' ∧ RW h' w (moveW W L what i) ∧ Fr h h' w (w + 3) := by
  have hh := q_X1_has hS (nI i)
  have o8 : L ≤ 8 := Nat.le_trans okw.2.1 ok.2.1
  obtain ⟨⟨nw, ps, nt, mk, pc, nc, mc, h1⟩, h2, h3, h4⟩ := hS
  obtain ⟨o1, o2, o3, o4⟩ := ok
  rw [o1, (sHas_nI (by omega)).mpr ⟨i, hi, rfl⟩] at hh
  unfold f_X1_move moveW
  rw [zoc_eq h1, zcI_of hh, if_neg (by decide)]
  rcases hw with rfl | rfl | rfl
  · obtain ⟨g1, e1, r1, f1⟩ := q_X8_layOver hW okw.1 (hL8 rfl) (show i < 8 by omega)
    obtain ⟨g2, e2, r2, f2⟩ := q_X1_move_41 r1
    rw [if_pos rfl, zoc_eq hW.1, zcV_of e1, if_pos rfl]
    exact ⟨g2, e2, r2, f1.tr f2⟩
  · obtain ⟨p, hp⟩ := hc rfl
    obtain ⟨g1, e1, r1, f1⟩ := q_X8_pullOut hW okw.1 o8 hp
    obtain ⟨g2, e2, r2, f2⟩ := q_X1_move_41 r1
    rw [if_neg n10, if_pos rfl, zoc_eq hW.1, zcV_of e1, if_neg n10, if_pos rfl, hp]
    exact ⟨g2, e2, r2, f1.tr f2⟩
  · rw [if_neg n20, if_neg n21, zgR_eq hW.1 rfl, zsI_eq i rfl hW.2.2 (by omega) (by decide), if_neg n20, if_neg n21]
    obtain ⟨g2, e2, r2, f2⟩ := q_X1_move_41 (hW.wo (upd W.2.1 i 0))
    exact ⟨g2, e2, r2, Fr.tr (Fr.set _ (by omega) (by omega)) f2⟩
