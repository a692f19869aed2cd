section
/-! THE LAW: one row of the script after another -/
theorem law_int {fx fm : Nat → zH → zR} (B : Both fx fm) (ty : ∀ x h, Ty isI (fx x h)) {h : zH} {x : Nat} {T : Tt} (rX : RX h x T) (rM : RM h (x + 159) T) (ok : okT T) : ∃ (h2 : zH) (T2 : Tt), RX h2 x T2 ∧ RM h2 (x + 159) T2 ∧ okT T2 ∧ ∀ K K0 : zH → zR, zoc h x 5 (zcI (fx x h) fun a h1 => zoc h1 (x + 159) 6 (zcI (fm (x + 159) h1) fun b h2 => if a = b then K h2 else K0 h2)) = K h2 := by
  obtain ⟨v, h1, h2, T2, e1, e2, r1, r2, o2, rm⟩ := B h x T rX rM ok
  obtain ⟨w, ew, y, ey⟩ := ty x h _ e1
  obtain ⟨M, nf, n0, -⟩ := rm.now
  have hv : v = .int y := by
    have : some v = some w := ew
    cases this
    exact ey
  subst hv
  refine ⟨h2, T2, r1, r2, o2, fun K K0 => ?_⟩
  rw [zoc_eq rX.1, zcI_of e1, zoc_eq n0, zcI_of e2, if_pos rfl]
theorem law_long {fx fm : Nat → zH → zR} (B : Both fx fm) (ty : ∀ x h, Ty isJ (fx x h)) {h : zH} {x : Nat} {T : Tt} (rX : RX h x T) (rM : RM h (x + 159) T) (ok : okT T) : ∃ (h2 : zH) (T2 : Tt), RX h2 x T2 ∧ RM h2 (x + 159) T2 ∧ okT T2 ∧ ∀ K K0 : zH → zR, zoc h x 5 (zcJ (fx x h) fun a h1 => zoc h1 (x + 159) 6 (zcJ (fm (x + 159) h1) fun b h2 => if (lg_cmp a b) = 0 then K h2 else K0 h2)) = K h2 := by
  obtain ⟨v, h1, h2, T2, e1, e2, r1, r2, o2, rm⟩ := B h x T rX rM ok
  obtain ⟨w, ew, y, ey⟩ := ty x h _ e1
  obtain ⟨M, nf, n0, -⟩ := rm.now
  have hv : v = .long y := by
    have : some v = some w := ew
    cases this
    exact ey
  subst hv
  refine ⟨h2, T2, r1, r2, o2, fun K K0 => ?_⟩
  have hc : lg_cmp y y = 0 := by
    unfold lg_cmp
    rw [if_neg (show ¬ y > y from Int64.lt_irrefl), if_pos rfl]
  rw [zoc_eq rX.1, zcJ_of e1, zoc_eq n0, zcJ_of e2, if_pos hc]
theorem zsc_nI {sN i : Nat} {sx : Nat → Int32} {K : Int32 → zR} (hi : i < sN) (hN : sN < 2 ^ 31) : zsc sN sx (nI i) K = K (sx i) := by
  unfold zsc
  rw [if_neg (inF hi hN), nI_clamp (Nat.lt_trans hi hN)]
theorem end_small : ∀ s, s < 5 → ∀ i, i < 5 → nI s - 5 < nI i := by decide +kernel
theorem law_end {sN i : Nat} (hN : sN ≤ 2560) (hi : i ≤ sN) : (Int32.ofNat sN - 5 < nI i) ↔ sN < i + 5 := by
  show (nI sN - 5 < nI i) ↔ _
  by_cases h5 : sN < 5
  · exact ⟨fun _ => by omega, fun _ => end_small sN h5 i (by omega)⟩
  · obtain ⟨s, rfl⟩ : ∃ s, sN = s + 5 := ⟨sN - 5, by omega⟩
    have e : nI (s + 5) - 5 = nI s := by
      rw [← nI_add s 5]
      exact Int32.add_sub_cancel _ _
    rw [e, nI_ltI (by omega) (by omega)]
    omega
set_option maxHeartbeats 8000000 in
theorem law_loop {sN : Nat} {sx : Nat → Int32} (hN : sN ≤ 2560) (x : Nat) : ∀ (n i : Nat) (h : zH) (T : Tt), i ≤ sN → sN < i + 5 * n → RX h x T → RM h (x + 159) T → okT T → ∃ hE : zH, f_L_law_18 sN sx n x (x + 159) (nI i) h = some (some (.int 1), hE) := by
  intro n
  induction n with
  | zero => intro i h T h1 h2; omega
  | succ n ih =>
    intro i h T h1 h2 rX rM ok
    rw [f_L_law_18, zlt_eq]
    by_cases he : sN < i + 5
    · rw [if_pos ((law_end hN h1).mpr he)]
      exact ⟨h, zrZ_1 h⟩
    rw [if_neg (fun c => he ((law_end hN h1).mp c))]
    have nx : ∀ (g : zH) (T2 : Tt), RX g x T2 → RM g (x + 159) T2 → okT T2 → ∃ hE : zH, f_L_law_1012 sN sx (f_L_law_18 sN sx n) x (x + 159) (nI i) g = some (some (.int 1), hE) := fun g T2 a b c => by
      unfold f_L_law_1012
      rw [show nI i + 5 = nI (i + 5) from nI_add i 5]
      exact ih (i + 5) g T2 (by omega) (by omega) a b c
    have z0 : ∀ K : Int32 → zR, zsc sN sx (nI i) K = K (sx i) := fun K => zsc_nI (by omega) (by omega)
    have z1 : ∀ K : Int32 → zR, zsc sN sx (nI i + 1) K = K (sx (i + 1)) := fun K => by rw [show nI i + 1 = nI (i + 1) from nI_add i 1]; exact zsc_nI (by omega) (by omega)
    have z2 : ∀ K : Int32 → zR, zsc sN sx (nI i + 2) K = K (sx (i + 2)) := fun K => by rw [show nI i + 2 = nI (i + 2) from nI_add i 2]; exact zsc_nI (by omega) (by omega)
    have z3 : ∀ K : Int32 → zR, zsc sN sx (nI i + 3) K = K (sx (i + 3)) := fun K => by rw [show nI i + 3 = nI (i + 3) from nI_add i 3]; exact zsc_nI (by omega) (by omega)
    have z4 : ∀ K : Int32 → zR, zsc sN sx (nI i + 4) K = K (sx (i + 4)) := fun K => by rw [show nI i + 4 = nI (i + 4) from nI_add i 4]; exact zsc_nI (by omega) (by omega)
    rw [z0]
    generalize f_L_law_1012 sN sx (f_L_law_18 sN sx n) x (x + 159) (nI i) = KK at nx ⊢
    generalize sx i &&& 63 = w at ⊢
    clear z0 ih
    by_cases c0 : w = 0
    · rw [if_pos c0]
      simp only [z1]
      obtain ⟨h2, T2, r1, r2, r3, e⟩ := law_int (op_doll (sx (i + 1))) (fun x h => ty_doll (sx (i + 1)) x h) rX rM ok
      rw [e]
      exact nx h2 T2 r1 r2 r3
    rw [if_neg c0]
    by_cases c1 : w = 1
    · rw [if_pos c1]
      simp only [z1]
      obtain ⟨h2, T2, r1, r2, r3, e⟩ := law_int (op_child (sx (i + 1))) (fun x h => ty_child (sx (i + 1)) x h) rX rM ok
      rw [e]
      exact nx h2 T2 r1 r2 r3
    rw [if_neg c1]
    by_cases c2 : w = 2
    · rw [if_pos c2]
      simp only [z1, z2, z3]
      obtain ⟨h2, T2, r1, r2, r3, e⟩ := law_int (op_piece (sx (i + 1)) (sx (i + 2)) (sx (i + 3))) (fun x h => ty_piece (sx (i + 1)) (sx (i + 2)) (sx (i + 3)) x h) rX rM ok
      rw [e]
      exact nx h2 T2 r1 r2 r3
    rw [if_neg c2]
    by_cases c3 : w = 3
    · rw [if_pos c3]
      simp only [z1]
      obtain ⟨h2, T2, r1, r2, r3, e⟩ := law_int (op_type (sx (i + 1))) (fun x h => ty_type (sx (i + 1)) x h) rX rM ok
      rw [e]
      exact nx h2 T2 r1 r2 r3
    rw [if_neg c3]
    by_cases c4 : w = 4
    · rw [if_pos c4]
      obtain ⟨h2, T2, r1, r2, r3, e⟩ := law_int (op_clear) (fun x h => ty_clear x h) rX rM ok
      rw [e]
      exact nx h2 T2 r1 r2 r3
    rw [if_neg c4]
    by_cases c5 : w = 5
    · rw [if_pos c5]
      obtain ⟨h2, T2, r1, r2, r3, e⟩ := law_int (op_read) (fun x h => ty_read x h) rX rM ok
      rw [e]
      exact nx h2 T2 r1 r2 r3
    rw [if_neg c5]
    by_cases c6 : w = 6
    · rw [if_pos c6]
      simp only [z1]
      obtain ⟨h2, T2, r1, r2, r3, e⟩ := law_int (op_puts (sx (i + 1))) (fun x h => ty_puts (sx (i + 1)) x h) rX rM ok
      rw [e]
      exact nx h2 T2 r1 r2 r3
    rw [if_neg c6]
    by_cases c7 : w = 7
    · rw [if_pos c7]
      simp only [z1]
      obtain ⟨h2, T2, r1, r2, r3, e⟩ := law_int (op_takes (sx (i + 1))) (fun x h => ty_takes (sx (i + 1)) x h) rX rM ok
      rw [e]
      exact nx h2 T2 r1 r2 r3
    rw [if_neg c7]
    by_cases c8 : w = 8
    · rw [if_pos c8]
      simp only [z1]
      obtain ⟨h2, T2, r1, r2, r3, e⟩ := law_int (op_mends (sx (i + 1))) (fun x h => ty_mends (sx (i + 1)) x h) rX rM ok
      rw [e]
      exact nx h2 T2 r1 r2 r3
    rw [if_neg c8]
    by_cases c9 : w = 9
    · rw [if_pos c9]
      obtain ⟨h2, T2, r1, r2, r3, e⟩ := law_int (op_undo) (fun x h => ty_undo x h) rX rM ok
      rw [e]
      exact nx h2 T2 r1 r2 r3
    rw [if_neg c9]
    by_cases c10 : w = 10
    · rw [if_pos c10]
      simp only [z1, z2]
      obtain ⟨h2, T2, r1, r2, r3, e⟩ := law_int (op_of (sx (i + 1)) (sx (i + 2))) (fun x h => ty_of (sx (i + 1)) (sx (i + 2)) x h) rX rM ok
      rw [e]
      exact nx h2 T2 r1 r2 r3
    rw [if_neg c10]
    by_cases c11 : w = 11
    · rw [if_pos c11]
      simp only [z1]
      obtain ⟨h2, T2, r1, r2, r3, e⟩ := law_int (op_seen (sx (i + 1))) (fun x h => ty_seen (sx (i + 1)) x h) rX rM ok
      rw [e]
      exact nx h2 T2 r1 r2 r3
    rw [if_neg c11]
    by_cases c12 : w = 12
    · rw [if_pos c12]
      obtain ⟨h2, T2, r1, r2, r3, e⟩ := law_int (op_can) (fun x h => ty_can x h) rX rM ok
      rw [e]
      exact nx h2 T2 r1 r2 r3
    rw [if_neg c12]
    by_cases c13 : w = 13
    · rw [if_pos c13]
      obtain ⟨h2, T2, r1, r2, r3, e⟩ := law_int (op_off) (fun x h => ty_off x h) rX rM ok
      rw [e]
      exact nx h2 T2 r1 r2 r3
    rw [if_neg c13]
    by_cases c14 : w = 14
    · rw [if_pos c14]
      simp only [z1]
      obtain ⟨h2, T2, r1, r2, r3, e⟩ := law_int (op_going (sx (i + 1))) (fun x h => ty_going (sx (i + 1)) x h) rX rM ok
      rw [e]
      exact nx h2 T2 r1 r2 r3
    rw [if_neg c14]
    by_cases c15 : w = 15
    · rw [if_pos c15]
      simp only [z1]
      obtain ⟨h2, T2, r1, r2, r3, e⟩ := law_int (op_outfits (sx (i + 1))) (fun x h => ty_outfits (sx (i + 1)) x h) rX rM ok
      rw [e]
      exact nx h2 T2 r1 r2 r3
    rw [if_neg c15]
    by_cases c16 : w = 16
    · rw [if_pos c16]
      simp only [z1]
      obtain ⟨h2, T2, r1, r2, r3, e⟩ := law_int (op_lean (sx (i + 1))) (fun x h => ty_lean (sx (i + 1)) x h) rX rM ok
      rw [e]
      exact nx h2 T2 r1 r2 r3
    rw [if_neg c16]
    by_cases c17 : w = 17
    · rw [if_pos c17]
      obtain ⟨h2, T2, r1, r2, r3, e⟩ := law_int (op_days) (fun x h => ty_days x h) rX rM ok
      rw [e]
      exact nx h2 T2 r1 r2 r3
    rw [if_neg c17]
    by_cases c18 : w = 18
    · rw [if_pos c18]
      obtain ⟨h2, T2, r1, r2, r3, e⟩ := law_int (op_spared) (fun x h => ty_spared x h) rX rM ok
      rw [e]
      exact nx h2 T2 r1 r2 r3
    rw [if_neg c18]
    by_cases c19 : w = 19
    · rw [if_pos c19]
      simp only [z1]
      obtain ⟨h2, T2, r1, r2, r3, e⟩ := law_int (op_few (sx (i + 1))) (fun x h => ty_few (sx (i + 1)) x h) rX rM ok
      rw [e]
      exact nx h2 T2 r1 r2 r3
    rw [if_neg c19]
    by_cases c20 : w = 20
    · rw [if_pos c20]
      simp only [z1, z2, z3]
      obtain ⟨h2, T2, r1, r2, r3, e⟩ := law_int (op_note (sx (i + 1)) (sx (i + 2)) (sx (i + 3))) (fun x h => ty_note (sx (i + 1)) (sx (i + 2)) (sx (i + 3)) x h) rX rM ok
      rw [e]
      exact nx h2 T2 r1 r2 r3
    rw [if_neg c20]
    by_cases c21 : w = 21
    · rw [if_pos c21]
      simp only [z1, z2, z3, z4]
      obtain ⟨h2, T2, r1, r2, r3, e⟩ := law_int (op_mark (sx (i + 1)) (sx (i + 2)) (sx (i + 3)) (sx (i + 4))) (fun x h => ty_mark (sx (i + 1)) (sx (i + 2)) (sx (i + 3)) (sx (i + 4)) x h) rX rM ok
      rw [e]
      exact nx h2 T2 r1 r2 r3
    rw [if_neg c21]
    by_cases c22 : w = 22
    · rw [if_pos c22]
      simp only [z1]
      obtain ⟨h2, T2, r1, r2, r3, e⟩ := law_int (op_forget (sx (i + 1))) (fun x h => ty_forget (sx (i + 1)) x h) rX rM ok
      rw [e]
      exact nx h2 T2 r1 r2 r3
    rw [if_neg c22]
    by_cases c23 : w = 23
    · rw [if_pos c23]
      obtain ⟨h2, T2, r1, r2, r3, e⟩ := law_int (op_is) (fun x h => ty_is x h) rX rM ok
      rw [e]
      exact nx h2 T2 r1 r2 r3
    rw [if_neg c23]
    by_cases c24 : w = 24
    · rw [if_pos c24]
      obtain ⟨h2, T2, r1, r2, r3, e⟩ := law_int (op_look) (fun x h => ty_look x h) rX rM ok
      rw [e]
      exact nx h2 T2 r1 r2 r3
    rw [if_neg c24]
    by_cases c25 : w = 25
    · rw [if_pos c25]
      simp only [z1]
      obtain ⟨h2, T2, r1, r2, r3, e⟩ := law_int (op_kinds (sx (i + 1))) (fun x h => ty_kinds (sx (i + 1)) x h) rX rM ok
      rw [e]
      exact nx h2 T2 r1 r2 r3
    rw [if_neg c25]
    by_cases c26 : w = 26
    · rw [if_pos c26]
      simp only [z1]
      obtain ⟨h2, T2, r1, r2, r3, e⟩ := law_int (op_ask (sx (i + 1))) (fun x h => ty_ask (sx (i + 1)) x h) rX rM ok
      rw [e]
      exact nx h2 T2 r1 r2 r3
    rw [if_neg c26]
    by_cases c27 : w = 27
    · rw [if_pos c27]
      simp only [z1]
      obtain ⟨h2, T2, r1, r2, r3, e⟩ := law_int (op_two (sx (i + 1))) (fun x h => ty_two (sx (i + 1)) x h) rX rM ok
      rw [e]
      exact nx h2 T2 r1 r2 r3
    rw [if_neg c27]
    by_cases c28 : w = 28
    · rw [if_pos c28]
      simp only [z1]
      obtain ⟨h2, T2, r1, r2, r3, e⟩ := law_int (op_luck (sx (i + 1))) (fun x h => ty_luck (sx (i + 1)) x h) rX rM ok
      rw [e]
      exact nx h2 T2 r1 r2 r3
    rw [if_neg c28]
    by_cases c29 : w = 29
    · rw [if_pos c29]
      simp only [z1, z2]
      obtain ⟨h2, T2, r1, r2, r3, e⟩ := law_int (op_evenings (sx (i + 1)) (sx (i + 2))) (fun x h => ty_evenings (sx (i + 1)) (sx (i + 2)) x h) rX rM ok
      rw [e]
      exact nx h2 T2 r1 r2 r3
    rw [if_neg c29]
    by_cases c30 : w = 30
    · rw [if_pos c30]
      simp only [z1]
      obtain ⟨h2, T2, r1, r2, r3, e⟩ := law_long (op_part (sx (i + 1))) (fun x h => ty_part (sx (i + 1)) x h) rX rM ok
      rw [e]
      exact nx h2 T2 r1 r2 r3
    rw [if_neg c30]
    by_cases c31 : w = 31
    · rw [if_pos c31]
      simp only [z1]
      obtain ⟨h2, T2, r1, r2, r3, e⟩ := law_int (op_image (sx (i + 1))) (fun x h => ty_image (sx (i + 1)) x h) rX rM ok
      rw [e]
      exact nx h2 T2 r1 r2 r3
    rw [if_neg c31]
    by_cases c32 : w = 32
    · rw [if_pos c32]
      simp only [z1]
      obtain ⟨h2, T2, r1, r2, r3, e⟩ := law_int (op_from (sx (i + 1))) (fun x h => ty_from (sx (i + 1)) x h) rX rM ok
      rw [e]
      exact nx h2 T2 r1 r2 r3
    rw [if_neg c32]
    by_cases c33 : w = 33
    · rw [if_pos c33]
      simp only [z1]
      obtain ⟨h2, T2, r1, r2, r3, e⟩ := law_int (op_status (sx (i + 1))) (fun x h => ty_status (sx (i + 1)) x h) rX rM ok
      rw [e]
      exact nx h2 T2 r1 r2 r3
    rw [if_neg c33]
    by_cases c34 : w = 34
    · rw [if_pos c34]
      simp only [z1]
      obtain ⟨h2, T2, r1, r2, r3, e⟩ := law_int (op_count (sx (i + 1))) (fun x h => ty_count (sx (i + 1)) x h) rX rM ok
      rw [e]
      exact nx h2 T2 r1 r2 r3
    rw [if_neg c34]
    by_cases c35 : w = 35
    · rw [if_pos c35]
      obtain ⟨h2, T2, r1, r2, r3, e⟩ := law_long (op_digest) (fun x h => ty_digest x h) rX rM ok
      rw [e]
      exact nx h2 T2 r1 r2 r3
    rw [if_neg c35]
    exact nx h T rX rM ok
theorem whole_pure (L : Nat) (xs : Nat → Int32) (sz : Nat) (hL : L ≤ 2560) : ∃ hE : zH, f_L_law L xs (sz, fun _ => none) = some (some (.int 1), hE) := by
  obtain ⟨h, e, r1, r2⟩ := law_start L xs sz
  rw [e]
  exact law_loop hL sz zF 0 h T0 (Nat.zero_le _) (by show L < 0 + 5 * 20000; omega) r1 r2 okT0
end
