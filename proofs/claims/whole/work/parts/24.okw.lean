/-! A MOVE KEEPS THE WEAR IN ORDER -/
theorem okW.ne {n L : Nat} {W : Wr} (o : okW n L W) (h8 : n ≤ 8) {i : Nat} (hi : i < n) (hc : ∀ k, k < L → ¬ W.1 k = nI i) : L < n := by
  obtain ⟨w1, w2, w3, w4⟩ := o
  have e : ∀ k, k < L → ix (W.1 k) < n ∧ W.1 k = nI (ix (W.1 k)) := by
    intro k hk
    obtain ⟨j, hj, ej⟩ := w3 k hk
    rw [ej, ix_nI (by omega)]
    exact ⟨hj, rfl⟩
  have := hole n (L + 1) (fun k => if k < L then ix (W.1 k) else i) (fun k hk => by
    show (if k < L then ix (W.1 k) else i) < n
    split
    · exact (e k ‹_›).1
    · exact hi) (fun a b ha hb q => by
    have q : (if a < L then ix (W.1 a) else i) = (if b < L then ix (W.1 b) else i) := q
    by_cases ca : a < L
    · by_cases cb : b < L
      · rw [if_pos ca, if_pos cb] at q
        exact w4 a b ca cb (by rw [(e a ca).2, (e b cb).2, q])
      · rw [if_pos ca, if_neg cb] at q
        exact absurd (by rw [(e a ca).2, q]) (hc a ca)
    · by_cases cb : b < L
      · rw [if_neg ca, if_pos cb] at q
        exact absurd (by rw [(e b cb).2, q]) (hc b cb)
      · omega)
  omega
theorem canPut_not {S : Sd} {W : Wr} {L i : Nat} (h : canPut S W L i = true) : ∀ k, k < L → ¬ W.1 k = nI i := by
  unfold canPut at h
  rw [Bool.and_eq_true] at h
  exact fun k hk => by simpa using allN_iff.mp h.1 k hk
theorem canTake_at {S : Sd} {W : Wr} {L i : Nat} (h : canTake S W L i = true) : ∃ p, fstN (fun k => decide (W.1 k = nI i)) L = some p := by
  unfold canTake at h
  cases hp : fstN (fun k => decide (W.1 k = nI i)) L with
  | none => rw [hp] at h; cases h
  | some p => exact ⟨p, rfl⟩
theorem canMove_0 {S : Sd} {W : Wr} {L i : Nat} : canMove S W L 0 i = canPut S W L i := rfl
theorem canMove_1 {S : Sd} {W : Wr} {L i : Nat} : canMove S W L 1 i = canTake S W L i := rfl
theorem canMove_2 {S : Sd} {W : Wr} {L i : Nat} : canMove S W L 2 i = !decide (W.2.1 i ≤ 0) := rfl
theorem okW.move {n L i : Nat} {S : Sd} {W : Wr} (o : okW n L W) (h8 : n ≤ 8) (hi : i < n) {what : Int32} (hw : what = 0 ∨ what = 1 ∨ what = 2) (hc : canMove S W L what i = true ∨ what = 2) : okW n (moveL L what) (moveW W L what i) := by
  rcases hw with rfl | rfl | rfl
  · have hc : canPut S W L i = true := by
      rcases hc with q | q
      · exact q
      · exact absurd q (by decide)
    have hn := canPut_not hc
    have hl := o.ne h8 hi hn
    obtain ⟨w1, w2, w3, w4⟩ := o
    refine ⟨?_, hl, ?_, ?_⟩
    · show W.2.2.1 + 1 = nI (L + 1)
      rw [w1, nI_1]
    · intro k hk
      show ∃ j, j < n ∧ upd W.1 L (nI i) k = nI j
      by_cases c : k = L
      · subst c; exact ⟨i, hi, upd_self _ _ _⟩
      · rw [upd_ne _ _ c]; exact w3 k (by have : k < L + 1 := hk; omega)
    · intro a b ha hb q
      have ha : a < L + 1 := ha
      have hb : b < L + 1 := hb
      have q : upd W.1 L (nI i) a = upd W.1 L (nI i) b := q
      by_cases ca : a = L
      · by_cases cb : b = L
        · omega
        · subst ca
          rw [upd_self, upd_ne _ _ cb] at q
          exact absurd q.symm (hn b (by omega))
      · by_cases cb : b = L
        · subst cb
          rw [upd_self, upd_ne _ _ ca] at q
          exact absurd q (hn a (by omega))
        · rw [upd_ne _ _ ca, upd_ne _ _ cb] at q
          exact w4 a b (by omega) (by omega) q
  · have hc : canTake S W L i = true := by
      rcases hc with q | q
      · exact q
      · exact absurd q (by decide)
    obtain ⟨p, hp⟩ := canTake_at hc
    obtain ⟨p1, p2, p3⟩ := fstN_some.mp hp
    obtain ⟨w1, w2, w3, w4⟩ := o
    have e : moveW W L 1 i = (shf W.1 p (L - 1), W.2.1, W.2.2.1 - 1, W.2.2.2 + 1) := by
      unfold moveW
      rw [if_neg n10, if_pos rfl, hp]
    rw [e]
    refine ⟨?_, ?_, ?_, ?_⟩
    · show W.2.2.1 - 1 = nI (L - 1)
      rw [w1, show L = (L - 1) + 1 by omega, nI_pred]; rfl
    · show L - 1 ≤ n
      omega
    · intro k hk
      have hk : k < L - 1 := hk
      show ∃ j, j < n ∧ shf W.1 p (L - 1) k = nI j
      unfold shf
      split
      · exact w3 (k + 1) (by omega)
      · exact w3 k (by omega)
    · intro a b ha hb q
      have ha : a < L - 1 := ha
      have hb : b < L - 1 := hb
      have q : shf W.1 p (L - 1) a = shf W.1 p (L - 1) b := q
      unfold shf at q
      split at q <;> split at q
      · have := w4 _ _ (by omega) (by omega) q; omega
      · have := w4 _ _ (by omega) (by omega) q; omega
      · have := w4 _ _ (by omega) (by omega) q; omega
      · have := w4 _ _ (by omega) (by omega) q; omega
  · obtain ⟨w1, w2, w3, w4⟩ := o
    exact ⟨w1, w2, w3, w4⟩
/-- a move that can be made, made by the class -/
theorem q_X1_moveC {h : zH} {d n w L i : Nat} {S : Sd} {W : Wr} (hS : RS h d S) (ok : okS n S) (hW : RW h w W) (okw : okW n L W) (hi : i < n) {what : Int32} (hw : what = 0 ∨ what = 1 ∨ what = 2) (hc : canMove S W L what i = true ∨ what = 2) : ∃ h', f_X1_move d w what (nI i) h = rV h' ∧ RW h' w (moveW W L what i) ∧ Fr h h' w (w + 3) := by
  refine q_X1_move hS ok hW okw hi hw (fun e => ?_) (fun e => ?_)
  · subst e
    rcases hc with q | q
    · have := okw.ne ok.2.1 hi (canPut_not q)
      have := ok.2.1
      omega
    · exact absurd q (by decide)
  · subst e
    rcases hc with q | q
    · exact canTake_at q
    · exact absurd q (by decide)
