/-! REFUSALS OF THE MODEL; numbers in a range -/
theorem i64_lt (a b : Int32) : a.toInt64 < b.toInt64 ↔ a < b := by
  first
  | exact Int32.toInt64_lt
  | (rw [Int64.lt_iff_toInt_lt, Int32.lt_iff_toInt_lt, Int32.toInt_toInt64, Int32.toInt_toInt64]; done)
  | (simp [Int64.lt_iff_toInt_lt, Int32.lt_iff_toInt_lt]; done)
theorem q_X10_in (x a b : Int32) {A B : Int64} (hA : a.toInt64 = A) (hB : b.toInt64 = B) (h : zH) : f_X10_in x.toInt64 A B h = rB (decide (a ≤ x) && decide (x ≤ b)) h := by
  subst hA; subst hB
  unfold f_X10_in f_X10_in_17 f_X10_in_18
  by_cases c1 : x < a
  · rw [if_pos ((lg_cmp_lt _ _).mpr ((i64_lt _ _).mpr c1)), decide_eq_false (Int32.not_le.mpr c1)]; exact zrZ_0 h
  · rw [if_neg (fun q => c1 ((i64_lt _ _).mp ((lg_cmp_lt _ _).mp q))), decide_eq_true (Int32.not_lt.mp c1)]
    by_cases c2 : b < x
    · rw [if_pos ((lg_cmp_gt _ _).mpr ((i64_lt _ _).mpr c2)), decide_eq_false (Int32.not_le.mpr c2)]; exact zrZ_0 h
    · rw [if_neg (fun q => c2 ((i64_lt _ _).mp ((lg_cmp_gt _ _).mp q))), decide_eq_true (Int32.not_lt.mp c2)]; exact zrZ_1 h
/-- the model with another row of what was refused -/
theorem RM.ref {h : zH} {m : Nat} {T : Tt} (r : RM h m T) : ∃ (M : Mo) (rf : Nat → Int32), MO h m M ∧ MA h (m + 8) 3 rf ∧ rf 0 = tR0 T ∧ rf 1 = tR1 T ∧ rf 2 = tR2 T ∧ ∀ (g : Nat → Int32) (T2 : Tt), tD T2 = tD T → tI0 T2 = tI0 T → tI1 T2 = tI1 T → tK0 T2 = tK0 T → tK1 T2 = tK1 T → tX T2 = tX T → tL T2 = tL T → tA T2 = tA T → tB T2 = tB T → g 0 = tR0 T2 → g 1 = tR1 T2 → g 2 = tR2 T2 → RM (zset h (m + 8) (.inl (0, 3, .inl g))) m T2 := by
  obtain ⟨im, sp, bg, tk, va, nf, sf, bf, jf, jb, ju, xf, rf, yf, of, h0, h1, h2, h3, h4, h5, h6, h7, h8, h9, h10, a, b, c, d, e, i, j, k⟩ := r
  refine ⟨_, rf, h0, h8, i, j, k, fun g T2 t1 t2 t3 t4 t5 t6 t7 t8 t9 g0 g1 g2 => ?_⟩
  have f : Fr h (zset h (m + 8) (.inl (0, 3, .inl g))) (m + 8) (m + 9) := Fr.set _ (by omega) (by omega)
  refine ⟨im, sp, bg, tk, va, nf, sf, bf, jf, jb, ju, xf, g, yf, of, ?_, h1.keep f (by omega), h2.keep f (by omega), h3.keep f (by omega), h4.keep f (by omega), h5.keep f (by omega), h6.keep f (by omega), h7.keep f (by omega), zset_at _ _ _, h9.keep f (by omega), h10.keep f (by omega), ?_⟩
  · rw [t1, t7, t8, t9]; exact h0.keep f (by omega)
  · rw [t1, t2, t3, t4, t5, t6, t7]
    exact ⟨a, b, c, d, e, g0, g1, g2⟩
theorem q_X10_bad {h : zH} {m : Nat} {T : Tt} (r : RM h m T) : ∃ h1, f_X10_bad m h = rI (-102) h1 ∧ RM h1 m (nR0 T) ∧ Fr h h1 m (m + 11) := by
  obtain ⟨M, rf, h0, h8, i, j, k, u⟩ := r.ref
  unfold f_X10_bad
  rw [zgR_eq h0 rfl, zaI_x 0 0 rfl h8 (by decide) (by decide), zsI_x 0 0 rfl h8 (by decide) (by decide)]
  exact ⟨_, rfl, u _ (nR0 T) rfl rfl rfl rfl rfl rfl rfl rfl rfl (by rw [upd_self, i]) (by rw [upd_ne _ _ (by decide), j]) (by rw [upd_ne _ _ (by decide), k]), Fr.set _ (by omega) (by omega)⟩
theorem q_X10_no {h : zH} {m : Nat} {T : Tt} (r : RM h m T) : ∃ h1, f_X10_no m h = rI (-103) h1 ∧ RM h1 m (nR1 T) ∧ Fr h h1 m (m + 11) := by
  obtain ⟨M, rf, h0, h8, i, j, k, u⟩ := r.ref
  unfold f_X10_no
  rw [zgR_eq h0 rfl, zaI_x 1 1 rfl h8 (by decide) (by decide), zsI_x 1 1 rfl h8 (by decide) (by decide)]
  exact ⟨_, rfl, u _ (nR1 T) rfl rfl rfl rfl rfl rfl rfl rfl rfl (by rw [upd_ne _ _ (by decide), i]) (by rw [upd_self, j]) (by rw [upd_ne _ _ (by decide), k]), Fr.set _ (by omega) (by omega)⟩
theorem q_X10_full {h : zH} {m : Nat} {T : Tt} (r : RM h m T) : ∃ h1, f_X10_full m h = rI (-104) h1 ∧ RM h1 m (nR2 T) ∧ Fr h h1 m (m + 11) := by
  obtain ⟨M, rf, h0, h8, i, j, k, u⟩ := r.ref
  unfold f_X10_full
  rw [zgR_eq h0 rfl, zaI_x 2 2 rfl h8 (by decide) (by decide), zsI_x 2 2 rfl h8 (by decide) (by decide)]
  exact ⟨_, rfl, u _ (nR2 T) rfl rfl rfl rfl rfl rfl rfl rfl rfl (by rw [upd_ne _ _ (by decide), i]) (by rw [upd_ne _ _ (by decide), j]) (by rw [upd_self, k]), Fr.set _ (by omega) (by omega)⟩
theorem okT.r0 {T : Tt} (o : okT T) : okT (nR0 T) := o
theorem okT.r1 {T : Tt} (o : okT T) : okT (nR1 T) := o
theorem okT.r2 {T : Tt} (o : okT T) : okT (nR2 T) := o
