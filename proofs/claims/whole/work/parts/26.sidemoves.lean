/-! THE MODEL'S ROW ASIDE: moves -/
section SM2
variable {h : zH} {m n L : Nat} {M : Mo} {sf : Nat → Int32} {S : Sd} {W : Wr}
theorem side_set (hO : MO h m M) (hA : MA h (m + 2) 88 sf) (j : Nat) (x : Int32) : MO (zset h (m + 2) (.inl (0, 88, .inl (upd sf j x)))) m M ∧ MA (zset h (m + 2) (.inl (0, 88, .inl (upd sf j x)))) (m + 2) 88 (upd sf j x) ∧ Fr h (zset h (m + 2) (.inl (0, 88, .inl (upd sf j x)))) (m + 2) (m + 3) :=
  ⟨(zset_ne _ (by omega)).trans hO, zset_at _ _ _, Fr.set _ (by omega) (by omega)⟩
theorem q_X10_goPut (hO : MO h m M) (hA : MA h (m + 2) 88 sf) (rW : RowW sf n L W) (hL : W.2.2.1 = nI L) (h8 : L < 8) {i : Nat} (hi : i < n) (hn : n ≤ 8) : ∃ h' sf', f_X10_goPut m (nI i) h = rV h' ∧ MA h' (m + 2) 88 sf' ∧ Fr h h' (m + 2) (m + 3) ∧ keepF sf sf' ∧ RowW sf' n (L + 1) (moveW W L 0 i) := by
  obtain ⟨r2, r3, r4, r5⟩ := rW
  unfold f_X10_goPut
  rw [zgR_eq hO rfl, zgR_eq hO rfl, zaI_x 3 3 rfl hA (by decide) (by decide), r3, hL, zsI_x (4 + nI L) (4 + L) (nI_add 4 L) hA (by omega) (by decide)]
  obtain ⟨hO1, hA1, f1⟩ := side_set hO hA (4 + L) (nI i)
  generalize zset h (m + 2) (.inl (0, 88, .inl (upd sf (4 + L) (nI i)))) = h1 at hO1 hA1 f1 ⊢
  rw [zgR_eq hO1 rfl, zaI_x 3 3 rfl hA1 (by decide) (by decide), zsI_x 3 3 rfl hA1 (by decide) (by decide)]
  obtain ⟨hO2, hA2, f2⟩ := side_set hO1 hA1 3 (upd sf (4 + L) (nI i) 3 + 1)
  generalize zset h1 (m + 2) (.inl (0, 88, .inl (upd (upd sf (4 + L) (nI i)) 3 (upd sf (4 + L) (nI i) 3 + 1)))) = h2 at hO2 hA2 f2 ⊢
  rw [upd_ne _ _ (by omega), r3, hL] at hA2
  rw [zgR_eq hO2 rfl, zaI_x (36 + nI i) (36 + i) (nI_add 36 i) hA2 (by omega) (by decide), zsI_x (36 + nI i) (36 + i) (nI_add 36 i) hA2 (by omega) (by decide)]
  rw [upd_ne _ _ (show 36 + i ≠ 3 by omega), upd_ne _ _ (show 36 + i ≠ 4 + L by omega), r5 i hi]
  obtain ⟨hO3, hA3, f3⟩ := side_set hO2 hA2 (36 + i) (W.2.1 i + 1)
  generalize zset h2 (m + 2) (.inl (0, 88, .inl (upd (upd (upd sf (4 + L) (nI i)) 3 (nI L + 1)) (36 + i) (W.2.1 i + 1)))) = h3 at hO3 hA3 f3 ⊢
  rw [zgR_eq hO3 rfl, zaI_x 2 2 rfl hA3 (by decide) (by decide), zsI_x 2 2 rfl hA3 (by decide) (by decide)]
  rw [upd_ne _ _ (show 2 ≠ 36 + i by omega), upd_ne _ _ (show 2 ≠ 3 by omega), upd_ne _ _ (show 2 ≠ 4 + L by omega), r2]
  refine ⟨_, _, rfl, zset_at _ _ _, ((f1.tr f2).tr f3).tr (Fr.set _ (by omega) (by omega)), (((keepF.upd _ (by omega)).tr (keepF.upd _ (by omega))).tr (keepF.upd _ (by omega))).tr (keepF.upd _ (by omega)), ?_, ?_, ?_, ?_⟩
  · rw [upd_self]; rfl
  · rw [upd_ne _ _ (show 3 ≠ 2 by omega), upd_ne _ _ (show 3 ≠ 36 + i by omega), upd_self]
    show nI L + 1 = W.2.2.1 + 1
    rw [hL]
  · intro k hk
    rw [upd_ne _ _ (show 4 + k ≠ 2 by omega), upd_ne _ _ (show 4 + k ≠ 36 + i by omega), upd_ne _ _ (show 4 + k ≠ 3 by omega)]
    show _ = upd W.1 L (nI i) k
    by_cases c : k = L
    · subst c; rw [upd_self, upd_self]
    · rw [upd_ne _ _ (by omega), upd_ne _ _ c]; exact r4 k (by omega)
  · intro k hk
    rw [upd_ne _ _ (show 36 + k ≠ 2 by omega)]
    show _ = upd W.2.1 i (W.2.1 i + 1) k
    by_cases c : k = i
    · subst c; rw [upd_self, upd_self]
    · rw [upd_ne _ _ (by omega), upd_ne _ _ c, upd_ne _ _ (show 36 + k ≠ 3 by omega), upd_ne _ _ (show 36 + k ≠ 4 + L by omega)]; exact r5 k hk
theorem q_X10_goMend (hO : MO h m M) (hA : MA h (m + 2) 88 sf) (rW : RowW sf n L W) {i : Nat} (hi : i < n) (hn : n ≤ 8) (hL : L ≤ 8) : ∃ h' sf', f_X10_goMend m (nI i) h = rV h' ∧ MA h' (m + 2) 88 sf' ∧ Fr h h' (m + 2) (m + 3) ∧ keepF sf sf' ∧ RowW sf' n L (moveW W L 2 i) := by
  obtain ⟨r2, r3, r4, r5⟩ := rW
  unfold f_X10_goMend
  rw [zgR_eq hO rfl, zsI_x (36 + nI i) (36 + i) (nI_add 36 i) hA (by omega) (by decide)]
  obtain ⟨hO1, hA1, f1⟩ := side_set hO hA (36 + i) 0
  generalize zset h (m + 2) (.inl (0, 88, .inl (upd sf (36 + i) 0))) = h1 at hO1 hA1 f1 ⊢
  rw [zgR_eq hO1 rfl, zaI_x 2 2 rfl hA1 (by decide) (by decide), zsI_x 2 2 rfl hA1 (by decide) (by decide)]
  rw [upd_ne _ _ (show 2 ≠ 36 + i by omega), r2]
  refine ⟨_, _, rfl, zset_at _ _ _, f1.tr (Fr.set _ (by omega) (by omega)), (keepF.upd _ (by omega)).tr (keepF.upd _ (by omega)), ?_, ?_, ?_, ?_⟩
  · rw [upd_self]; rfl
  · rw [upd_ne _ _ (show 3 ≠ 2 by omega), upd_ne _ _ (show 3 ≠ 36 + i by omega), r3]; rfl
  · intro k hk
    rw [upd_ne _ _ (show 4 + k ≠ 2 by omega), upd_ne _ _ (show 4 + k ≠ 36 + i by omega)]
    exact r4 k hk
  · intro k hk
    rw [upd_ne _ _ (show 36 + k ≠ 2 by omega)]
    show _ = upd W.2.1 i 0 k
    by_cases c : k = i
    · subst c; rw [upd_self, upd_self]
    · rw [upd_ne _ _ (by omega), upd_ne _ _ c]; exact r5 k hk
theorem q_X10_goTake (hO : MO h m M) (hA : MA h (m + 2) 88 sf) (rW : RowW sf n L W) (okw : okW n L W) (hn : n ≤ 8) {i p : Nat} (hp : fstN (fun k => decide (W.1 k = nI i)) L = some p) : ∃ h' sf', f_X10_goTake m (nI i) h = rV h' ∧ MA h' (m + 2) 88 sf' ∧ Fr h h' (m + 2) (m + 3) ∧ keepF sf sf' ∧ RowW sf' n (L - 1) (moveW W L 1 i) := by
  have e1 := q_X10_placeOf hO hA rW okw hn (nI i)
  unfold sPl at e1
  rw [hp] at e1
  obtain ⟨p1, p2, p3⟩ := fstN_some.mp hp
  obtain ⟨r2, r3, r4, r5⟩ := rW
  obtain ⟨w1, w2, w3, w4⟩ := okw
  unfold f_X10_goTake
  rw [zoc_eq hO, zcI_of e1, zlt_eq, nI_1]
  refine zloopE (fun f k g => f_X10_goTake_8 f m (nI k) g) (fun k g => p + 1 ≤ k ∧ MO g m M ∧ MA g (m + 2) 88 (shf sf (4 + p) (3 + k)) ∧ Fr h g (m + 2) (m + 3)) L (fun r => ∃ h' sf', r = rV h' ∧ MA h' (m + 2) 88 sf' ∧ Fr h h' (m + 2) (m + 3) ∧ keepF sf sf' ∧ RowW sf' n (L - 1) (moveW W L 1 i)) ?_ ?_ zF (p + 1) h (by omega) (by show _ < 20000 + (p + 1); omega) ⟨Nat.le_refl _, hO, by rw [show 3 + (p + 1) = 4 + p by omega, shf_0]; exact hA, Fr.rf⟩
  · intro f g ⟨_, hOg, hAg, fg⟩
    show ∃ h' sf', f_X10_goTake_8 (f + 1) m (nI L) g = _ ∧ _
    have s3 : shf sf (4 + p) (3 + L) 3 = nI L := by unfold shf; rw [if_neg (by omega), r3, w1]
    rw [f_X10_goTake_8, zgR_eq hOg rfl, zaI_x 3 3 rfl hAg (by decide) (by decide), s3, if_pos (Int32.le_refl _), zgR_eq hOg rfl, zaI_x 3 3 rfl hAg (by decide) (by decide), s3, zsI_x 3 3 rfl hAg (by decide) (by decide)]
    obtain ⟨hO1, hA1, f1⟩ := side_set hOg hAg 3 (nI L - 1)
    generalize zset g (m + 2) (.inl (0, 88, .inl (upd (shf sf (4 + p) (3 + L)) 3 (nI L - 1)))) = h1 at hO1 hA1 f1 ⊢
    have s2 : shf sf (4 + p) (3 + L) 2 = W.2.2.2 := by unfold shf; rw [if_neg (by omega), r2]
    rw [zgR_eq hO1 rfl, zaI_x 2 2 rfl hA1 (by decide) (by decide), upd_ne _ _ (show 2 ≠ 3 by omega), s2, zsI_x 2 2 rfl hA1 (by decide) (by decide)]
    have em : moveW W L 1 i = (shf W.1 p (L - 1), W.2.1, W.2.2.1 - 1, W.2.2.2 + 1) := by
      unfold moveW
      rw [if_neg n10, if_pos rfl, hp]
    rw [em]
    refine ⟨_, _, rfl, zset_at _ _ _, (fg.tr f1).tr (Fr.set _ (by omega) (by omega)), (keepF.tr (fun k q1 q2 => ?_) (keepF.upd _ (by omega))).tr (keepF.upd _ (by omega)), ?_, ?_, ?_, ?_⟩
    · unfold shf; rw [if_neg (by omega)]
    · rw [upd_self]
    · rw [upd_ne _ _ (show 3 ≠ 2 by omega), upd_self]
      show nI L - 1 = W.2.2.1 - 1
      rw [w1]
    · intro k hk
      rw [upd_ne _ _ (show 4 + k ≠ 2 by omega), upd_ne _ _ (show 4 + k ≠ 3 by omega)]
      show shf sf (4 + p) (3 + L) (4 + k) = shf W.1 p (L - 1) k
      unfold shf
      by_cases c : p ≤ k
      · rw [if_pos (by omega), if_pos (by omega)]; exact r4 (k + 1) (by omega)
      · rw [if_neg (by omega), if_neg (by omega)]; exact r4 k (by omega)
    · intro k hk
      rw [upd_ne _ _ (show 36 + k ≠ 2 by omega), upd_ne _ _ (show 36 + k ≠ 3 by omega)]
      unfold shf
      rw [if_neg (by omega)]
      exact r5 k hk
  · intro f k g hk ⟨hpk, hOg, hAg, fg⟩
    refine ⟨zset g (m + 2) (.inl (0, 88, .inl (shf sf (4 + p) (3 + (k + 1))))), ⟨by omega, (zset_ne _ (by omega)).trans hOg, zset_at _ _ _, fg.tr (Fr.set _ (by omega) (by omega))⟩, ?_⟩
    show f_X10_goTake_8 (f + 1) m (nI k) g = f_X10_goTake_8 f m (nI (k + 1)) _
    have s3 : shf sf (4 + p) (3 + k) 3 = nI L := by unfold shf; rw [if_neg (by omega), r3, w1]
    have e4 : 4 + nI k - 1 = nI (3 + k) := by
      show nI 4 + nI k - 1 = _
      rw [nI_add, show 4 + k = (3 + k) + 1 by omega, nI_pred]
    rw [f_X10_goTake_8, zgR_eq hOg rfl, zaI_x 3 3 rfl hAg (by decide) (by decide), s3, if_neg (nI_ge hk (by omega)), zgR_eq hOg rfl, zgR_eq hOg rfl, zaI_x (4 + nI k) (4 + k) (nI_add 4 k) hAg (by omega) (by decide), zsI_x (4 + nI k - 1) (3 + k) e4 hAg (by omega) (by decide), nI_1, show 4 + k = (3 + k) + 1 by omega, shf_out, shf_step sf (4 + p) (3 + k) (by omega)]
    rfl
/-- a move, if it can be, on the row aside -/
theorem q_X10_goMove (hO : MO h m M) (hA : MA h (m + 2) 88 sf) (rS : RowS sf n S) (rW : RowW sf n L W) (okw : okW n L W) (ok : okS n S) {i : Nat} (hi : i < n) {what : Int32} (hw : what = 0 ∨ what = 1 ∨ what = 2) : ∃ h' sf', f_X10_goMove m what (nI i) h = rB (canMove S W L what i) h' ∧ MA h' (m + 2) 88 sf' ∧ Fr h h' (m + 2) (m + 3) ∧ keepF sf sf' ∧ (canMove S W L what i = true → RowW sf' n (moveL L what) (moveW W L what i)) ∧ (canMove S W L what i = false → sf' = sf) := by
  have h8 := ok.2.1
  have hL8 : L ≤ 8 := Nat.le_trans okw.2.1 h8
  rcases hw with rfl | rfl | rfl
  · have e := q_X10_canPut hO hA rS rW okw ok hi
    unfold f_X10_goMove f_X10_goMove_42 f_X10_goMove_77
    rw [if_pos rfl, zoc_eq hO, zcI_of e]
    rw [canMove_0]
    cases hc : canPut S W L i with
    | false =>
      rw [if_pos (by decide), zrZ_b]
      exact ⟨h, sf, rfl, hA, Fr.rf, keepF.rf, fun q => absurd q (by decide), fun _ => rfl⟩
    | true =>
      have hl := okw.ne h8 hi (canPut_not hc)
      obtain ⟨h', sf', g1, g2, g3, g4, g5⟩ := q_X10_goPut hO hA rW okw.1 (by omega) hi h8
      rw [if_neg (by decide), if_pos rfl, zoc_eq hO, zcV_of g1, zrZ_b]
      exact ⟨h', sf', rfl, g2, g3, g4, fun _ => g5, fun q => absurd q (by decide)⟩
  · have e := q_X10_canTake hO hA rS rW okw ok hi
    unfold f_X10_goMove f_X10_goMove_42 f_X10_goMove_77
    rw [if_neg n10, if_pos rfl, zoc_eq hO, zcI_of e]
    rw [canMove_1]
    cases hc : canTake S W L i with
    | false =>
      rw [if_pos (by decide), zrZ_b]
      exact ⟨h, sf, rfl, hA, Fr.rf, keepF.rf, fun q => absurd q (by decide), fun _ => rfl⟩
    | true =>
      obtain ⟨p, hp⟩ := canTake_at hc
      obtain ⟨h', sf', g1, g2, g3, g4, g5⟩ := q_X10_goTake hO hA rW okw h8 hp
      rw [if_neg (by decide), if_neg n10, if_pos rfl, zoc_eq hO, zcV_of g1, zrZ_b]
      exact ⟨h', sf', rfl, g2, g3, g4, fun _ => g5, fun q => absurd q (by decide)⟩
  · unfold f_X10_goMove f_X10_goMove_42 f_X10_goMove_77
    obtain ⟨r2, r3, r4, r5⟩ := id rW
    rw [if_neg n20, if_neg n21, zgR_eq hO rfl, zaI_x (36 + nI i) (36 + i) (nI_add 36 i) hA (by omega) (by decide), r5 i hi, canMove_2]
    by_cases c : W.2.1 i ≤ 0
    · rw [if_pos c, if_pos rfl, zrZ_0, decide_eq_true c]
      exact ⟨h, sf, rfl, hA, Fr.rf, keepF.rf, fun q => absurd q (by decide), fun _ => rfl⟩
    · obtain ⟨h', sf', g1, g2, g3, g4, g5⟩ := q_X10_goMend hO hA rW hi h8 hL8
      rw [if_neg c, if_neg n10, if_neg n20, if_neg n21, zoc_eq hO, zcV_of g1, zrZ_1, decide_eq_false c]
      exact ⟨h', sf', rfl, g2, g3, g4, fun _ => g5, fun q => absurd q (by decide)⟩
end SM2
