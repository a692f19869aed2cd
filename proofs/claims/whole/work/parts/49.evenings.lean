/-! evenings -/
theorem zdvJ_of {y : Int64} {r : zR} (h : ¬ y = 0) : zdvJ y r = r := by
  unfold zdvJ
  rw [if_neg h]
theorem zdv_of {y : Int32} {r : zR} (h : ¬ y = 0) : zdv y r = r := by
  unfold zdv
  rw [if_neg h]
def playW (S : Sd) (W : Wr) (i : Nat) : Wr := if canMove S W (wL W) 0 i then moveW W (wL W) 0 i else if canMove S W (wL W) 1 i then moveW W (wL W) 1 i else moveW W (wL W) 2 i
theorem q_X1_mayMoveN {h : zH} {d w : Nat} {S : Sd} (hS : RS h d S) {y : Int32} (hy : sHas S.2.1 y = false) (what : Int32) : f_X1_mayMove d w what y h = rB false h := by
  have hh := q_X1_has hS y
  obtain ⟨⟨nw, ps, nt, mk, pc, nc, mc, h1⟩, -⟩ := hS
  unfold f_X1_mayMove
  rw [zoc_eq h1, zcI_of hh, hy, if_pos (by decide), zrZ_0]
theorem q_X1_moveN {h : zH} {d w : Nat} {S : Sd} (hS : RS h d S) {y : Int32} (hy : sHas S.2.1 y = false) (what : Int32) : f_X1_move d w what y h = rV h := by
  have hh := q_X1_has hS y
  obtain ⟨⟨nw, ps, nt, mk, pc, nc, mc, h1⟩, -⟩ := hS
  unfold f_X1_move
  rw [zoc_eq h1, zcI_of hh, hy, if_pos (by decide)]
  rfl
theorem q_X1_playWithN {h : zH} {d w : Nat} {S : Sd} (hS : RS h d S) {y : Int32} (hy : sHas S.2.1 y = false) : f_X1_playWith d w y h = rV h := by
  have e := fun q => q_X1_mayMoveN (w := w) hS hy q
  have e2 := q_X1_moveN (w := w) hS hy 2
  obtain ⟨⟨nw, ps, nt, mk, pc, nc, mc, h1⟩, -⟩ := hS
  unfold f_X1_playWith f_X1_playWith_47
  rw [zoc_eq h1, zcI_of (e 0), if_pos (by decide), zoc_eq h1, zcI_of (e 1), if_pos (by decide), zoc_eq h1, zcV_of e2]
  rfl
theorem okW.wl {n L : Nat} {W : Wr} (o : okW n L W) (h8 : n ≤ 8) : wL W = L := by
  show ix W.2.2.1 = L
  rw [o.1, ix_nI (by have := o.2.1; omega)]
theorem okW.play {n i : Nat} {S : Sd} {W : Wr} (okw : okW n (wL W) W) (ok : okS n S) (hi : i < n) : okW n (wL (playW S W i)) (playW S W i) := by
  unfold playW
  cases c0 : canMove S W (wL W) 0 i with
  | true =>
    have k := okw.move ok.2.1 hi (what := 0) (Or.inl rfl) (Or.inl c0)
    rw [if_pos rfl, k.wl ok.2.1]; exact k
  | false =>
    rw [if_neg (by decide)]
    cases c1 : canMove S W (wL W) 1 i with
    | true =>
      have k := okw.move ok.2.1 hi (what := 1) (Or.inr (Or.inl rfl)) (Or.inl c1)
      rw [if_pos rfl, k.wl ok.2.1]; exact k
    | false =>
      have k := okw.move (S := S) ok.2.1 hi (what := 2) (Or.inr (Or.inr rfl)) (Or.inr rfl)
      rw [if_neg (by decide), k.wl ok.2.1]; exact k
theorem q_X1_playWith {h : zH} {d n w i : Nat} {S : Sd} {W : Wr} (hS : RS h d S) (ok : okS n S) (hW : RW h w W) (okw : okW n (wL W) W) (hi : i < n) : ∃ h', f_X1_playWith d w (nI i) h = rV h' ∧ RW h' w (playW S W i) ∧ okW n (wL (playW S W i)) (playW S W i) ∧ Fr h h' w (w + 3) := by
  have m0 := q_X1_mayMove hS ok hW okw hi (what := 0) (Or.inl rfl)
  have m1 := q_X1_mayMove hS ok hW okw hi (what := 1) (Or.inr (Or.inl rfl))
  obtain ⟨⟨nw, ps, nt, mk, pc, nc, mc, h1⟩, -⟩ := id hS
  have kp := okW.play okw ok hi
  unfold f_X1_playWith f_X1_playWith_47
  rw [zoc_eq h1, zcI_of m0]
  cases c0 : canMove S W (wL W) 0 i with
  | true =>
    have ep : playW S W i = moveW W (wL W) 0 i := by unfold playW; rw [c0, if_pos rfl]
    obtain ⟨g, e, r, f⟩ := q_X1_moveC hS ok hW okw hi (what := 0) (Or.inl rfl) (Or.inl c0)
    rw [if_neg (by decide), zoc_eq h1, zcV_of e]
    exact ⟨g, rfl, by rw [ep]; exact r, kp, f⟩
  | false =>
    rw [if_pos (by decide), zoc_eq h1, zcI_of m1]
    cases c1 : canMove S W (wL W) 1 i with
    | true =>
      have ep : playW S W i = moveW W (wL W) 1 i := by unfold playW; rw [c0, if_neg (by decide), c1, if_pos rfl]
      obtain ⟨g, e, r, f⟩ := q_X1_moveC hS ok hW okw hi (what := 1) (Or.inr (Or.inl rfl)) (Or.inl c1)
      rw [if_neg (by decide), zoc_eq h1, zcV_of e]
      exact ⟨g, rfl, by rw [ep]; exact r, kp, f⟩
    | false =>
      have ep : playW S W i = moveW W (wL W) 2 i := by unfold playW; rw [c0, if_neg (by decide), c1, if_neg (by decide)]
      obtain ⟨g, e, r, f⟩ := q_X1_moveC hS ok hW okw hi (what := 2) (Or.inr (Or.inr rfl)) (Or.inr rfl)
      rw [if_pos (by decide), zoc_eq h1, zcV_of e]
      exact ⟨g, rfl, by rw [ep]; exact r, kp, f⟩
def lcg (x : Int64) : Int64 := ((x * 1103515245) + 12345) - ((x * 1103515245) + 12345) / 2147483648 * 2147483648
def lcgI (x : Int64) : Int32 := ((x / 65536) - (x / 65536) / 8 * 8 : Int64).toInt32
def evW (G : Int64 → Int32) (S : Sd) (n : Nat) (x : Int64) (W : Wr) : Wr := if sHas (nI n) (G x) then playW S W (ix (G x)) else W
def evX (F : Int64 → Int64) (x : Int64) : Nat → Int64
  | 0 => x
  | k + 1 => F (evX F x k)
def evT (F : Int64 → Int64) (G : Int64 → Int32) (S : Sd) (n : Nat) (x : Int64) (W : Wr) : Nat → Wr
  | 0 => W
  | k + 1 => evW G S n (evX F x (k + 1)) (evT F G S n x W k)
def evD (F : Int64 → Int64) (G : Int64 → Int32) (S : Sd) (n : Nat) (x : Int64) (W : Wr) : Nat → Int32
  | 0 => 0
  | k + 1 => if dressed S (evT F G S n x W (k + 1)) (wL (evT F G S n x W (k + 1))) then evD F G S n x W k + 1 else evD F G S n x W k
/-- what a round of the loops does -/
def evC (F : Int64 → Int64) (G : Int64 → Int32) : Prop := ∀ (n x : Nat) (v2 : Int32) (v3 : Int64) (v5 v6 : Int32) (h : zH), f_X9_evenings_50 (n + 1) x v2 v3 v5 v6 h = if v2 ≤ v6 then zrI v5 h else zgR h x 5 0 fun a2 => zgR h x 5 4 fun a3 => zoc h a2 0 (zcV (f_X1_playWith a2 a3 (G (F v3)) h) fun h4 => zgR h4 x 5 0 fun a5 => zgR h4 x 5 4 fun a6 => zoc h4 a5 0 (zcI (f_X1_isDressed a5 a6 h4) fun x7 h8 => if x7 = 0 then f_X9_evenings_50 n x v2 (F v3) v5 (v6 + 1) h8 else f_X9_evenings_50 n x v2 (F v3) (v5 + 1) (v6 + 1) h8))
def evM (F : Int64 → Int64) (G : Int64 → Int32) : Prop := ∀ (n m : Nat) (v2 : Int32) (v3 : Int64) (v5 v6 : Int32) (h : zH), f_X10_evenings_42 (n + 1) m v2 v3 v5 v6 h = if v2 ≤ v6 then zrI v5 h else zoc h m 6 (zcI (f_X10_isPiece m (G (F v3)) h) fun x3 h4 => if x3 = 0 then f_X10_evenings_111 (f_X10_evenings_42 n) m v2 (F v3) v5 v6 h4 else zoc h4 m 6 (zcI (f_X10_goMove m 0 (G (F v3)) h4) fun x5 h6 => if x5 = 0 then zoc h6 m 6 (zcI (f_X10_goMove m 1 (G (F v3)) h6) fun x7 h8 => if x7 = 0 then zoc h8 m 6 (zcI (f_X10_goMove m 2 (G (F v3)) h8) fun x9 h10 => f_X10_evenings_111 (f_X10_evenings_42 n) m v2 (F v3) v5 v6 h10) else f_X10_evenings_111 (f_X10_evenings_42 n) m v2 (F v3) v5 v6 h8) else f_X10_evenings_111 (f_X10_evenings_42 n) m v2 (F v3) v5 v6 h6))
theorem evC_is : evC lcg lcgI := by
  intro n x v2 v3 v5 v6 h
  rw [f_X9_evenings_50]
  unfold f_X9_evenings_108
  rw [zdvJ_of (by decide), zlt_eq]
  simp only [zdvJ_of (show ¬ (65536 : Int64) = 0 by decide), zdvJ_of (show ¬ (8 : Int64) = 0 by decide)]
  unfold lcgI lcg
  exact rfl
theorem evM_is : evM lcg lcgI := by
  intro n m v2 v3 v5 v6 h
  rw [f_X10_evenings_42, zdvJ_of (by decide), zlt_eq, zdvJ_of (by decide), zdvJ_of (by decide), zlt_eq]
  unfold lcgI lcg
  exact rfl
/-- the mark of wear is a number -/
def wnN (v : Nat) (W : Wr) : Prop := ∀ i, i < 8 → ∃ a, a ≤ v ∧ W.2.1 i = nI a
theorem wnN.play {v n i : Nat} {S : Sd} {W : Wr} (h : wnN v W) (hi : i < n) (h8 : n ≤ 8) : wnN (v + 1) (playW S W i) := by
  intro j hj
  obtain ⟨a, a1, a2⟩ := h j hj
  unfold playW
  split
  · show ∃ a, a ≤ v + 1 ∧ upd W.2.1 i (W.2.1 i + 1) j = nI a
    by_cases z : j = i
    · subst z; exact ⟨a + 1, by omega, by rw [upd_self, a2, nI_1]⟩
    · exact ⟨a, by omega, by rw [upd_ne _ _ z]; exact a2⟩
  · split
    · rename_i c
      obtain ⟨p, hp⟩ := canTake_at c
      unfold moveW
      rw [if_neg n10, if_pos rfl, hp]
      exact ⟨a, by omega, a2⟩
    · show ∃ a, a ≤ v + 1 ∧ upd W.2.1 i 0 j = nI a
      by_cases z : j = i
      · subst z; exact ⟨0, by omega, upd_self _ _ _⟩
      · exact ⟨a, by omega, by rw [upd_ne _ _ z]; exact a2⟩
theorem RM.side {h h' : zH} {m : Nat} {T : Tt} (r : RM h m T) {sf : Nat → Int32} (hA : MA h' (m + 2) 88 sf) (f : Fr h h' (m + 2) (m + 3)) : RM h' m T := by
  obtain ⟨im, sp, bg, tk, va, nf, sf0, bf, jf, jb, ju, xf, rf, yf, of, h0, h1, h2, h3, h4, h5, h6, h7, h8, h9, h10, rest⟩ := r
  exact ⟨im, sp, bg, tk, va, nf, sf, bf, jf, jb, ju, xf, rf, yf, of, h0.keep f (by omega), h1.keep f (by omega), hA, h3.keep f (by omega), h4.keep f (by omega), h5.keep f (by omega), h6.keep f (by omega), h7.keep f (by omega), h8.keep f (by omega), h9.keep f (by omega), h10.keep f (by omega), rest⟩
abbrev mvs (W : Wr) (v : Int32) : Wr := (W.1, W.2.1, W.2.2.1, v)
theorem okW.mvs {n L : Nat} {W : Wr} (o : okW n L W) (v : Int32) : okW n L (mvs W v) := o
theorem canMove_mvs (S : Sd) (W : Wr) (v : Int32) (L : Nat) (what : Int32) (i : Nat) : canMove S (mvs W v) L what i = canMove S W L what i := rfl
theorem moveW_mvs {S : Sd} {W : Wr} {v : Int32} {L : Nat} {what : Int32} {i : Nat} (hw : what = 0 ∨ what = 1 ∨ what = 2) (hc : canMove S W L what i = true ∨ what = 2) : moveW (mvs W v) L what i = mvs (moveW W L what i) (v + 1) := by
  rcases hw with rfl | rfl | rfl
  · rfl
  · rcases hc with hc | hc
    · obtain ⟨p, hp⟩ := canTake_at hc
      unfold moveW
      rw [if_neg n10, if_pos rfl, if_neg n10, if_pos rfl, hp]
    · exact absurd hc (by decide)
  · rfl
/-- one evening on the model's row aside -/
theorem ev_model {h : zH} {m n i v0 : Nat} {M : Mo} {sf : Nat → Int32} {S : Sd} {W : Wr} {v : Int32} (hO : MO h m M) (hA : MA h (m + 2) 88 sf) (rS : RowS sf n S) (rW : RowW sf n (wL W) (mvs W v)) (okw : okW n (wL W) W) (ok : okS n S) (wn : wnN v0 W) (hv0 : v0 < 20000) (hi : i < n) : ∃ (h' : zH) (sf' : Nat → Int32) (v' : Int32), (∀ K : zH → zR, zoc h m 6 (zcI (f_X10_goMove m 0 (nI i) h) fun x5 h6 => if x5 = 0 then zoc h6 m 6 (zcI (f_X10_goMove m 1 (nI i) h6) fun x7 h8 => if x7 = 0 then zoc h8 m 6 (zcI (f_X10_goMove m 2 (nI i) h8) fun x9 h10 => K h10) else K h8) else K h6) = K h') ∧ MA h' (m + 2) 88 sf' ∧ Fr h h' (m + 2) (m + 3) ∧ RowS sf' n S ∧ RowW sf' n (wL (playW S W i)) (mvs (playW S W i) v') := by
  have h8 := ok.2.1
  obtain ⟨h1, sf1, e1, a1, f1, k1, t1, u1⟩ := q_X10_goMove hO hA rS rW (okw.mvs v) ok hi (what := 0) (Or.inl rfl)
  rw [canMove_mvs] at e1 t1 u1
  cases c0 : canMove S W (wL W) 0 i with
  | true =>
    have k := okw.move h8 hi (what := 0) (Or.inl rfl) (Or.inl c0)
    have ep : playW S W i = moveW W (wL W) 0 i := by unfold playW; rw [c0, if_pos rfl]
    have tt := t1 c0
    rw [c0] at e1
    refine ⟨h1, sf1, v + 1, fun K => by rw [zoc_eq hO, zcI_of e1, if_neg (by decide)], a1, f1, rS.keep k1 h8, ?_⟩
    rw [ep, k.wl h8, ← moveW_mvs (S := S) (Or.inl rfl) (Or.inl c0)]
    exact tt
  | false =>
    have es := u1 c0
    subst es
    rw [c0] at e1
    have hO1 : MO h1 m M := hO.keep f1 (by omega)
    obtain ⟨h2, sf2, e2, a2, f2, k2, t2, u2⟩ := q_X10_goMove hO1 a1 rS rW (okw.mvs v) ok hi (what := 1) (Or.inr (Or.inl rfl))
    rw [canMove_mvs] at e2 t2 u2
    cases c1 : canMove S W (wL W) 1 i with
    | true =>
      have k := okw.move h8 hi (what := 1) (Or.inr (Or.inl rfl)) (Or.inl c1)
      have ep : playW S W i = moveW W (wL W) 1 i := by unfold playW; rw [c0, if_neg (by decide), c1, if_pos rfl]
      have tt := t2 c1
      rw [c1] at e2
      refine ⟨h2, sf2, v + 1, fun K => by rw [zoc_eq hO, zcI_of e1, if_pos (by decide), zoc_eq hO1, zcI_of e2, if_neg (by decide)], a2, f1.tr f2, rS.keep k2 h8, ?_⟩
      rw [ep, k.wl h8, ← moveW_mvs (S := S) (Or.inr (Or.inl rfl)) (Or.inl c1)]
      exact tt
    | false =>
      have es := u2 c1
      subst es
      rw [c1] at e2
      have hO2 : MO h2 m M := hO1.keep f2 (by omega)
      obtain ⟨h3, sf3, e3, a3, f3, k3, t3, u3⟩ := q_X10_goMove hO2 a2 rS rW (okw.mvs v) ok hi (what := 2) (Or.inr (Or.inr rfl))
      rw [canMove_mvs] at e3 t3 u3
      have k := okw.move (S := S) h8 hi (what := 2) (Or.inr (Or.inr rfl)) (Or.inr rfl)
      have ep : playW S W i = moveW W (wL W) 2 i := by unfold playW; rw [c0, if_neg (by decide), c1, if_neg (by decide)]
      have eK : ∀ K : zH → zR, zoc h m 6 (zcI (f_X10_goMove m 0 (nI i) h) fun x5 h6 => if x5 = 0 then zoc h6 m 6 (zcI (f_X10_goMove m 1 (nI i) h6) fun x7 h8 => if x7 = 0 then zoc h8 m 6 (zcI (f_X10_goMove m 2 (nI i) h8) fun x9 h10 => K h10) else K h8) else K h6) = K h3 := fun K => by
        rw [zoc_eq hO, zcI_of e1, if_pos (by decide), zoc_eq hO1, zcI_of e2, if_pos (by decide), zoc_eq hO2, zcI_of e3]
      cases c2 : canMove S W (wL W) 2 i with
      | true =>
        refine ⟨h3, sf3, v + 1, eK, a3, (f1.tr f2).tr f3, rS.keep k3 h8, ?_⟩
        rw [ep, k.wl h8, ← moveW_mvs (S := S) (Or.inr (Or.inr rfl)) (Or.inr rfl)]
        exact t3 c2
      | false =>
        have es := u3 c2
        subst es
        refine ⟨h3, sf3, v, eK, a3, (f1.tr f2).tr f3, rS, ?_⟩
        rw [ep, k.wl h8]
        obtain ⟨w1, w2, w3, w4⟩ := rW
        refine ⟨w1, w2, w3, fun j hj => ?_⟩
        show sf3 (36 + j) = upd W.2.1 i 0 j
        by_cases z : j = i
        · subst z
          rw [upd_self, w4 j hj]
          obtain ⟨a, b1, b2⟩ := wn j (by omega)
          have c2 : (!decide (W.2.1 j ≤ 0)) = false := c2
          have c3 : W.2.1 j ≤ 0 := by simpa using c2
          show W.2.1 j = 0
          rw [b2] at c3 ⊢
          have : a = 0 := by
            rcases Nat.eq_zero_or_pos a with q | q
            · exact q
            · exact absurd c3 (nI_nle q (by omega))
          rw [this]; rfl
        · rw [upd_ne _ _ z]; exact w4 j hj
theorem RX.trial {h h' : zH} {x : Nat} {T : Tt} {W : Wr} (r : RX h x T) (f : Fr h h' (x + 71) (x + 74)) (hW : RW h' (x + 71) W) : RX h' x T := by
  obtain ⟨a, b, c, d, ⟨g, e1, e2⟩, ⟨g2, f1, f2⟩, ⟨g3, i1, i2⟩, ⟨⟨D, s1⟩, ⟨W0, s2⟩, ⟨y, a1, b1, c1, d1, e3, s3⟩, ⟨g4, c2, s4, s5⟩, s6, ⟨k, s7⟩, ⟨gg, s8, s9⟩, s10⟩⟩ := r
  refine ⟨(f.2 _ (by omega)).trans a, b.keep f (by omega), c.keep f (by omega), d.keep f (by omega), ⟨g, (f.2 _ (by omega)).trans e1, e2⟩, ⟨g2, (f.2 _ (by omega)).trans f1, f2⟩, ⟨g3, (f.2 _ (by omega)).trans i1, i2⟩, ⟨D, s1.keep f (by omega)⟩, ⟨W, hW⟩, ⟨y, a1, b1, c1, d1, e3, (f.2 _ (by omega)).trans s3⟩, ⟨g4, c2, (f.2 _ (by omega)).trans s4, s5.keep f (by omega)⟩, (f.2 _ (by omega)).trans s6, ⟨k, s7.keep f (by omega)⟩, ⟨gg, (f.2 _ (by omega)).trans s8, s9⟩, fun j hj => ?_⟩
  obtain ⟨W, w⟩ := s10 j hj
  exact ⟨W, w.keep f (by omega)⟩
theorem q_X9_evenings_50 {F : Int64 → Int64} {G : Int64 → Int32} (hC : evC F G) {h : zH} {x N : Nat} {T : Tt} {V : Wr} (r : RX h x T) (o : okT T) (a : Int64) (hV : RW h (x + 71) V) (okv : okW (dn (tD T)) (wL V) V) (hN : N ≤ 60) : ∃ h1, f_X9_evenings_50 zF x (nI N) a 0 0 h = rI (evD F G (tD T).1 (dn (tD T)) a V N) h1 ∧ RX h1 x T ∧ Fr h h1 x (x + 159) := by
  obtain ⟨en, hn⟩ := o.1.n
  refine zloopE (fun f k (s : Int64 × Int32 × zH) => f_X9_evenings_50 f x (nI N) s.1 s.2.1 (nI k) s.2.2) (fun k s => s.1 = evX F a k ∧ s.2.1 = evD F G (tD T).1 (dn (tD T)) a V k ∧ RW s.2.2 (x + 71) (evT F G (tD T).1 (dn (tD T)) a V k) ∧ okW (dn (tD T)) (wL (evT F G (tD T).1 (dn (tD T)) a V k)) (evT F G (tD T).1 (dn (tD T)) a V k) ∧ Fr h s.2.2 (x + 71) (x + 74)) N (fun z => ∃ h1, z = rI (evD F G (tD T).1 (dn (tD T)) a V N) h1 ∧ RX h1 x T ∧ Fr h h1 x (x + 159)) ?_ ?_ zF 0 (a, 0, h) (Nat.zero_le _) (zF_gt (by omega)) ⟨rfl, rfl, hV, okv, Fr.rf⟩
  · intro f ⟨s1, s2, g⟩ ⟨e1, e2, w, ow, Ff⟩
    show ∃ h1, f_X9_evenings_50 (f + 1) x (nI N) s1 s2 (nI N) g = _ ∧ _
    have e2 : s2 = evD F G (tD T).1 (dn (tD T)) a V _ := e2
    rw [hC, if_pos (Int32.le_refl _), e2]
    exact ⟨g, rfl, r.trial Ff w, Ff.wide (by omega) (by omega)⟩
  · intro f k ⟨s1, s2, g⟩ hk ⟨e1, e2, w, ow, Ff⟩
    dsimp only at e1 e2 w Ff
    subst e1
    have rg := r.trial Ff w
    have rd := rg.2.1
    -- the piece that is played with
    have key : ∃ g2, f_X1_playWith (x + 1) (x + 71) (G (F (evX F a k))) g = rV g2 ∧ RW g2 (x + 71) (evT F G (tD T).1 (dn (tD T)) a V (k + 1)) ∧ okW (dn (tD T)) (wL (evT F G (tD T).1 (dn (tD T)) a V (k + 1))) (evT F G (tD T).1 (dn (tD T)) a V (k + 1)) ∧ Fr g g2 (x + 71) (x + 74) := by
      show ∃ g2, f_X1_playWith (x + 1) (x + 71) (G (F (evX F a k))) g = rV g2 ∧ RW g2 (x + 71) (evW G (tD T).1 (dn (tD T)) (evX F a (k + 1)) (evT F G (tD T).1 (dn (tD T)) a V k)) ∧ okW (dn (tD T)) (wL (evW G (tD T).1 (dn (tD T)) (evX F a (k + 1)) (evT F G (tD T).1 (dn (tD T)) a V k))) (evW G (tD T).1 (dn (tD T)) (evX F a (k + 1)) (evT F G (tD T).1 (dn (tD T)) a V k)) ∧ Fr g g2 (x + 71) (x + 74)
      unfold evW
      rw [show evX F a (k + 1) = F (evX F a k) from rfl]
      generalize G (F (evX F a k)) = y
      cases hy : sHas (nI (dn (tD T))) y with
      | false =>
        rw [if_neg (by decide)]
        exact ⟨g, q_X1_playWithN rd.RS (by rw [en]; exact hy), w, ow, Fr.rf⟩
      | true =>
        obtain ⟨i, hi, ey⟩ := (sHas_nI (by omega)).mp hy
        subst ey
        obtain ⟨g2, e2, w2, o2, f2⟩ := q_X1_playWith rd.RS o.1.1 w ow hi
        rw [if_pos rfl, ix_nI (by omega)]
        exact ⟨g2, e2, w2, o2, f2⟩
    obtain ⟨g2, p1, p2, p3, p4⟩ := key
    have rg2 := r.trial (Ff.tr p4) p2
    refine ⟨(evX F a (k + 1), evD F G (tD T).1 (dn (tD T)) a V (k + 1), g2), ⟨rfl, rfl, p2, p3, Ff.tr p4⟩, ?_⟩
    show f_X9_evenings_50 (f + 1) x (nI N) (evX F a k) s2 (nI k) g = f_X9_evenings_50 f x (nI N) (evX F a (k + 1)) (evD F G (tD T).1 (dn (tD T)) a V (k + 1)) (nI (k + 1)) g2
    rw [hC, if_neg (nI_ge hk (by omega)), zgR_eq rg.1 rfl, zgR_eq rg.1 rfl, zoc_eq rd.1, zcV_of p1, zgR_eq rg2.1 rfl, zgR_eq rg2.1 rfl, zoc_eq rg2.2.1.1, zcI_of (q_X1_isDressedC rg2.2.1.RS o.1.1 p2 p3), e2]
    rw [nI_1]
    show _ = f_X9_evenings_50 f x (nI N) (evX F a (k + 1)) (if dressed (tD T).1 (evT F G (tD T).1 (dn (tD T)) a V (k + 1)) (wL (evT F G (tD T).1 (dn (tD T)) a V (k + 1))) then evD F G (tD T).1 (dn (tD T)) a V k + 1 else evD F G (tD T).1 (dn (tD T)) a V k) (nI (k + 1)) g2
    cases dressed (tD T).1 (evT F G (tD T).1 (dn (tD T)) a V (k + 1)) (wL (evT F G (tD T).1 (dn (tD T)) a V (k + 1)))
    · rw [if_pos (by decide)]; rfl
    · rw [if_neg (by decide)]; rfl
theorem q_X10_evenings_42 {F : Int64 → Int64} {G : Int64 → Int32} (hM : evM F G) {h : zH} {m N v0 : Nat} {T : Tt} {V : Wr} {v : Int32} {sf : Nat → Int32} (r : RM h m T) (o : okT T) (a : Int64) (hA : MA h (m + 2) 88 sf) (rS : RowS sf (dn (tD T)) (tD T).1) (rW : RowW sf (dn (tD T)) (wL V) (mvs V v)) (okv : okW (dn (tD T)) (wL V) V) (wn : wnN v0 V) (hv0 : v0 ≤ 9999) (hN : N ≤ 60) : ∃ h1, f_X10_evenings_42 zF m (nI N) a 0 0 h = rI (evD F G (tD T).1 (dn (tD T)) a V N) h1 ∧ RM h1 m T ∧ Fr h h1 m (m + 11) := by
  obtain ⟨en, hn⟩ := o.1.n
  refine zloopE (fun f k (s : Int64 × Int32 × zH) => f_X10_evenings_42 f m (nI N) s.1 s.2.1 (nI k) s.2.2) (fun k s => s.1 = evX F a k ∧ s.2.1 = evD F G (tD T).1 (dn (tD T)) a V k ∧ (∃ sf v, MA s.2.2 (m + 2) 88 sf ∧ RowS sf (dn (tD T)) (tD T).1 ∧ RowW sf (dn (tD T)) (wL (evT F G (tD T).1 (dn (tD T)) a V k)) (mvs (evT F G (tD T).1 (dn (tD T)) a V k) v)) ∧ okW (dn (tD T)) (wL (evT F G (tD T).1 (dn (tD T)) a V k)) (evT F G (tD T).1 (dn (tD T)) a V k) ∧ wnN (v0 + k) (evT F G (tD T).1 (dn (tD T)) a V k) ∧ Fr h s.2.2 (m + 2) (m + 3)) N (fun z => ∃ h1, z = rI (evD F G (tD T).1 (dn (tD T)) a V N) h1 ∧ RM h1 m T ∧ Fr h h1 m (m + 11)) ?_ ?_ zF 0 (a, 0, h) (Nat.zero_le _) (zF_gt (by omega)) ⟨rfl, rfl, ⟨sf, v, hA, rS, rW⟩, okv, wn, Fr.rf⟩
  · intro f ⟨s1, s2, g⟩ ⟨e1, e2, ⟨sf, v, A, B, C⟩, ow, w, Ff⟩
    show ∃ h1, f_X10_evenings_42 (f + 1) m (nI N) s1 s2 (nI N) g = _ ∧ _
    have e2 : s2 = evD F G (tD T).1 (dn (tD T)) a V _ := e2
    rw [hM, if_pos (Int32.le_refl _), e2]
    exact ⟨g, rfl, r.side A Ff, Ff.wide (by omega) (by omega)⟩
  · intro f k ⟨s1, s2, g⟩ hk ⟨e1, e2, ⟨sf, v, A, B, C⟩, ow, w, Ff⟩
    dsimp only at e1 e2 A Ff
    subst e1
    have rg := r.side A Ff
    obtain ⟨M, nf, n0, n1, n2, n3, n4⟩ := rg.now
    -- behind the moves
    have fin : ∀ (g2 : zH) (sf2 : Nat → Int32) (v2 : Int32), MA g2 (m + 2) 88 sf2 → Fr g g2 (m + 2) (m + 3) → RowS sf2 (dn (tD T)) (tD T).1 → RowW sf2 (dn (tD T)) (wL (evT F G (tD T).1 (dn (tD T)) a V (k + 1))) (mvs (evT F G (tD T).1 (dn (tD T)) a V (k + 1)) v2) → okW (dn (tD T)) (wL (evT F G (tD T).1 (dn (tD T)) a V (k + 1))) (evT F G (tD T).1 (dn (tD T)) a V (k + 1)) → f_X10_evenings_111 (f_X10_evenings_42 f) m (nI N) (F (evX F a k)) s2 (nI k) g2 = f_X10_evenings_42 f m (nI N) (evX F a (k + 1)) (evD F G (tD T).1 (dn (tD T)) a V (k + 1)) (nI (k + 1)) g2 := by
      intro g2 sf2 v2 A2 F2 B2 C2 o2
      have O2 : MO g2 m M := n0.keep F2 (by omega)
      unfold f_X10_evenings_111 f_X10_evenings_127
      rw [zoc_eq O2, zcI_of (q_X10_covered O2 A2 B2 C2 (o2.mvs v2) o.1.1), zlt_eq, zlt_eq, nI_1, e2]
      show _ = f_X10_evenings_42 f m (nI N) (F (evX F a k)) (if dressed (tD T).1 (evT F G (tD T).1 (dn (tD T)) a V (k + 1)) (wL (evT F G (tD T).1 (dn (tD T)) a V (k + 1))) then evD F G (tD T).1 (dn (tD T)) a V k + 1 else evD F G (tD T).1 (dn (tD T)) a V k) (nI (k + 1)) g2
      unfold dressed
      show (if sCd (tD T).1 (evT F G (tD T).1 (dn (tD T)) a V (k + 1)).1 (wL (evT F G (tD T).1 (dn (tD T)) a V (k + 1))) = 15 then _ else _) = _
      by_cases q : sCd (tD T).1 (evT F G (tD T).1 (dn (tD T)) a V (k + 1)).1 (wL (evT F G (tD T).1 (dn (tD T)) a V (k + 1))) = 15
      · rw [if_pos q, decide_eq_true q, if_pos rfl]
      · rw [if_neg q, decide_eq_false q, if_neg (by decide), i32add0]
    show ∃ s' : Int64 × Int32 × zH, _ ∧ f_X10_evenings_42 (f + 1) m (nI N) (evX F a k) s2 (nI k) g = f_X10_evenings_42 f m (nI N) s'.1 s'.2.1 (nI (k + 1)) s'.2.2
    rw [hM, if_neg (nI_ge hk (by omega))]
    rw [zoc_eq n0, zcI_of (q_X10_isPiece n0 n1 (n2.1.trans en) hn _)]
    cases hy : sHas (nI (dn (tD T))) (G (F (evX F a k))) with
    | false =>
      have ev : evT F G (tD T).1 (dn (tD T)) a V (k + 1) = evT F G (tD T).1 (dn (tD T)) a V k := by
        show evW G (tD T).1 (dn (tD T)) (evX F a (k + 1)) (evT F G (tD T).1 (dn (tD T)) a V k) = _
        unfold evW
        rw [show evX F a (k + 1) = F (evX F a k) from rfl, hy, if_neg (by decide)]
      have w' : wnN (v0 + (k + 1)) (evT F G (tD T).1 (dn (tD T)) a V k) := fun i hi => by
        obtain ⟨c, c1, c2⟩ := w i hi
        exact ⟨c, by omega, c2⟩
      rw [if_pos (by decide)]
      refine ⟨(evX F a (k + 1), evD F G (tD T).1 (dn (tD T)) a V (k + 1), g), ⟨rfl, rfl, ⟨sf, v, A, B, by rw [ev]; exact C⟩, by rw [ev]; exact ow, by rw [ev]; exact w', Ff⟩, ?_⟩
      exact fin g sf v A Fr.rf B (by rw [ev]; exact C) (by rw [ev]; exact ow)
    | true =>
      obtain ⟨i, hi, ey⟩ := (sHas_nI (by omega)).mp hy
      have ev : evT F G (tD T).1 (dn (tD T)) a V (k + 1) = playW (tD T).1 (evT F G (tD T).1 (dn (tD T)) a V k) i := by
        show evW G (tD T).1 (dn (tD T)) (evX F a (k + 1)) (evT F G (tD T).1 (dn (tD T)) a V k) = _
        unfold evW
        rw [show evX F a (k + 1) = F (evX F a k) from rfl, hy, if_pos rfl, ey, ix_nI (by omega)]
      have w' : wnN (v0 + (k + 1)) (playW (tD T).1 (evT F G (tD T).1 (dn (tD T)) a V k) i) := w.play hi hn
      have ow' : okW (dn (tD T)) (wL (playW (tD T).1 (evT F G (tD T).1 (dn (tD T)) a V k) i)) (playW (tD T).1 (evT F G (tD T).1 (dn (tD T)) a V k) i) := okW.play ow o.1.1 hi
      rw [if_neg (by decide), ey]
      obtain ⟨g2, sf2, v2, eK, A2, F2, B2, C2⟩ := ev_model n0 A B C ow o.1.1 w (by omega) hi
      rw [eK (fun z => f_X10_evenings_111 (f_X10_evenings_42 f) m (nI N) (F (evX F a k)) s2 (nI k) z)]
      refine ⟨(evX F a (k + 1), evD F G (tD T).1 (dn (tD T)) a V (k + 1), g2), ⟨rfl, rfl, ⟨sf2, v2, A2, B2, by rw [ev]; exact C2⟩, by rw [ev]; exact ow', by rw [ev]; exact w', Ff.tr F2⟩, ?_⟩
      exact fin g2 sf2 v2 A2 F2 B2 (by rw [ev]; exact C2) (by rw [ev]; exact ow')
theorem op_evenings (a b : Int32) : Both (fun x => f_X9_evenings x a b) (fun m => f_X10_evenings m a b) := by
  cases ha : rng 0 999999 a with
  | false =>
    refine Both.of2 (fun T o => of2Bad o ?_ ?_)
    · intro h x r h1 e1
      show f_X9_evenings x a b h = _
      unfold f_X9_evenings f_X9_evenings_20
      rw [zcI_of (q_X9_in _ _ _ h), ha, if_pos (by decide), zoc_eq r.1, zcI_of e1]
      rfl
    · intro h m r h1 e1
      obtain ⟨M, nf, n0, n1, n2, n3, n4⟩ := r.now
      show f_X10_evenings m a b h = _
      unfold f_X10_evenings f_X10_evenings_24
      rw [zcI_of (q_X10_inn a 0 999999 (A := 0) (B := 999999) (by decide) (by decide) h), ha, if_pos (by decide), zoc_eq n0, zcI_of e1]
      rfl
  | true =>
    cases hb : rng 0 60 b with
    | false =>
      refine Both.of2 (fun T o => of2Bad o ?_ ?_)
      · intro h x r h1 e1
        show f_X9_evenings x a b h = _
        unfold f_X9_evenings f_X9_evenings_20
        rw [zcI_of (q_X9_in _ _ _ h), ha, if_neg (by decide), zcI_of (q_X9_in _ _ _ h), hb, if_pos (by decide), zoc_eq r.1, zcI_of e1]
        rfl
      · intro h m r h1 e1
        obtain ⟨M, nf, n0, n1, n2, n3, n4⟩ := r.now
        show f_X10_evenings m a b h = _
        unfold f_X10_evenings f_X10_evenings_24
        rw [zcI_of (q_X10_inn a 0 999999 (A := 0) (B := 999999) (by decide) (by decide) h), ha, if_neg (by decide), zcI_of (q_X10_inn b 0 60 (A := 0) (B := 60) (by decide) (by decide) h), hb, if_pos (by decide), zoc_eq n0, zcI_of e1]
        rfl
    | true =>
      obtain ⟨N, hN, eb⟩ := (rng_0 (b := 60) (x := b) (n := 60) rfl (by decide)).mp hb
      subst eb
      intro h x T r rM o
      obtain ⟨en, hn⟩ := o.1.n
      obtain ⟨v, hv9, hv, hwn⟩ := o.1.2.1.2.2
      obtain ⟨x0, x1, x2, x3, x4, x5, x6, ⟨sd, ⟨W0, sw⟩, srest⟩⟩ := id r
      obtain ⟨h1, e1, w1, f1⟩ := q_X8_copyFrom sw x1.2.2.2.2.1 (by omega)
      have r1 := r.trial f1 w1
      have okv := (o.1.2.1.eq hn (cpyW_eq (dW (tD T)) W0)).1
      obtain ⟨h2, e2, r2, f2⟩ := q_X9_evenings_50 evC_is r1 o a.toInt64 w1 okv hN
      have F := (f1.wide (lo2 := x) (hi2 := x + 159) (by omega) (by omega)).tr f2
      have rM2 := rM.keep F (by omega)
      obtain ⟨h3, M, nf, sf, e3, n0, n1, n2, s1, z1, -, s2, z2, r3, f3⟩ := rM2.aside o
      obtain ⟨M', nf', n0', -⟩ := rM2.now
      have z3 : RowW sf (dn (tD T)) (wL (cpyW (dW (tD T)) W0)) (mvs (cpyW (dW (tD T)) W0) (dW (tD T)).2.2.2) := z2.eqW hn (o.1.2.1.le hn) (cpyW_eq _ _)
      have wn : wnN v (cpyW (dW (tD T)) W0) := fun i hi => by
        obtain ⟨c, c1, c2⟩ := hwn i hi
        exact ⟨c, c1, ((cpyW_eq (dW (tD T)) W0).2.1 i hi).symm.trans c2⟩
      obtain ⟨h4, e4, r4, f4⟩ := q_X10_evenings_42 evM_is r3 o a.toInt64 n2 s2 z3 okv wn hv9 hN
      refine ⟨  .int (evD lcg lcgI (tD T).1 (dn (tD T)) a.toInt64 (cpyW (dW (tD T)) W0) N), h2, h4, T, ?_, ?_, r2.keep (f3.tr f4) (by omega), r4, o, rM2⟩
      · show f_X9_evenings x a (nI N) h = _
        unfold f_X9_evenings
        rw [zcI_of (q_X9_in _ _ _ h), ha, if_neg (by decide), zcI_of (q_X9_in _ _ _ h), hb, if_neg (by decide), zgR_eq x0 rfl, zgR_eq x0 rfl, zgR_eq x1.1 rfl, zoc_eq sw.1, zcV_of e1, zlt_eq]
        exact e2
      · show f_X10_evenings (x + 159) a (nI N) h2 = _
        unfold f_X10_evenings
        rw [zcI_of (q_X10_inn a 0 999999 (A := 0) (B := 999999) (by decide) (by decide) h2), ha, if_neg (by decide), zcI_of (q_X10_inn (nI N) 0 60 (A := 0) (B := 60) (by decide) (by decide) h2), hb, if_neg (by decide), zlt_eq, zoc_eq n0', zcV_of e3]
        exact e4
