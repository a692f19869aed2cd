/-! few: the class -/
/-- what the search may change: the row, and the wears from depth dp on -/
def FS (h g : zH) (x dp : Nat) : Prop := g.1 = h.1 ∧ ∀ a, a ≠ x + 79 → (a < x + 81 + 3 * dp ∨ x + 90 ≤ a) → g.2 a = h.2 a
theorem FS.rf {h : zH} {x dp : Nat} : FS h h x dp := ⟨rfl, fun _ _ _ => rfl⟩
theorem FS.tr {h g k : zH} {x dp : Nat} (a : FS h g x dp) (b : FS g k x dp) : FS h k x dp := ⟨b.1.trans a.1, fun q h1 h2 => (b.2 q h1 h2).trans (a.2 q h1 h2)⟩
theorem FS.up {h g : zH} {x dp : Nat} (a : FS h g x (dp + 1)) : FS h g x dp := ⟨a.1, fun q h1 h2 => a.2 q h1 (by omega)⟩
theorem FS.fr {h g : zH} {x dp lo hi : Nat} (f : Fr h g lo hi) (h1 : (x + 81 + 3 * dp ≤ lo ∧ hi ≤ x + 90) ∨ (x + 79 ≤ lo ∧ hi ≤ x + 80)) : FS h g x dp := ⟨f.1, fun q h2 h3 => f.2 q (by omega)⟩
theorem RW.fs {h g : zH} {x dp w : Nat} {W : Wr} (r : RW h w W) (f : FS h g x dp) (h1 : w + 3 ≤ x + 79 ∨ x + 80 ≤ w) (h2 : w + 3 ≤ x + 81 + 3 * dp) : RW g w W := by
  obtain ⟨a, b, c⟩ := r
  exact ⟨(f.2 w (by omega) (by omega)).trans a, (f.2 (w + 1) (by omega) (by omega)).trans b, (f.2 (w + 2) (by omega) (by omega)).trans c⟩
theorem RS.fs {h g : zH} {x dp : Nat} {S : Sd} (r : RS h (x + 1) S) (f : FS h g x dp) : RS g (x + 1) S := by
  obtain ⟨⟨nw, ps, nt, mk, pc, nc, mc, h1⟩, h2, h3, h4⟩ := r
  exact ⟨⟨nw, ps, nt, mk, pc, nc, mc, (f.2 _ (by omega) (by omega)).trans h1⟩, (f.2 _ (by omega) (by omega)).trans h2, (f.2 _ (by omega) (by omega)).trans h3, (f.2 _ (by omega) (by omega)).trans h4⟩
/-- the search's own things -/
def MSs (h : zH) (x dp : Nat) (rf : Nat → Int32) : Prop := h.2 (x + 78) = some (.inr (1, [.ref (x + 79), .ref (x + 80)])) ∧ MA h (x + 79) 3 rf ∧ (∃ g : Nat → Option Nat, h.2 (x + 80) = some (.inl (3, 3, .inr g)) ∧ ∀ i, i < 3 → g i = some (x + 81 + 3 * i)) ∧ ∀ i, i < 3 → dp ≤ i → ∃ W, RW h (x + 81 + 3 * i) W
theorem MSs.fs {h g : zH} {x dp : Nat} {rf rf' : Nat → Int32} (r : MSs h x dp rf) (f : FS h g x dp) (h1 : MA g (x + 79) 3 rf') (h2 : ∀ i, i < 3 → dp ≤ i → ∃ W, RW g (x + 81 + 3 * i) W) : MSs g x dp rf' := by
  obtain ⟨a, b, ⟨gg, c1, c2⟩, d⟩ := r
  exact ⟨(f.2 _ (by omega) (by omega)).trans a, h1, ⟨gg, (f.2 _ (by omega) (by omega)).trans c1, c2⟩, h2⟩
theorem dig_put {n i : Nat} (hi : i < n) : dig n 1 i 0 = nI i := by
  unfold dig dgt
  rw [show 1 - 1 - 0 = 0 from rfl, Nat.pow_zero, Nat.div_one, Nat.mod_eq_of_lt (show i < 3 * n by omega), Nat.div_eq_of_lt hi, Nat.mod_eq_of_lt hi]
  have : (10 : Int32) * nI 0 = nI 0 := by decide
  rw [this, nI_add, Nat.zero_add]
/-- the last move -/
theorem q_atLast {h : zH} {x dp wa n : Nat} {S : Sd} {W : Wr} {rf : Nat → Int32} (ms : MSs h x dp rf) (hS : RS h (x + 1) S) (ok : okS n S) (hW : RW h wa W) (ow : okW n (wL W) W) (hdp : dp < 3) (h0 : dressed S W (wL W) = false) : ∃ h' rf', f_X4_dressesAtLast (x + 78) (x + 1) wa (nI dp) h = rB (fstN (okRow S n 1 W) ((3 * n) ^ 1)).isSome h' ∧ MSs h' x dp rf' ∧ (∀ j, j < dp → rf' j = rf j) ∧ (∀ c, fstN (okRow S n 1 W) ((3 * n) ^ 1) = some c → ∀ t, t < 1 → rf' (dp + t) = dig n 1 c t) ∧ FS h h' x dp := by
  have h8 := ok.2.1
  have ol := (ow.onN h8).2
  obtain ⟨⟨nw, ps, nt, mk, pc, nc, mc, h1⟩, -⟩ := id hS
  have h1' := h1
  rw [ok.1] at h1'
  have est : fstN (okRow S n 1 W) ((3 * n) ^ 1) = fstN (okRow S n 1 W) n := by
    rw [Nat.pow_one]
    exact fstN_stop (by omega) (fun k k1 k2 => last_put ok ow h0 k2 k1)
  rw [est]
  have body : ∀ f i, i < n → f_X4_dressesAtLast_9 (f + 1) (x + 78) (x + 1) wa (nI dp) (nI (oN W.1 (wL W))) (nI i) h = if okRow S n 1 W i then (zgR h (x + 78) 1 0 fun a6 => zsI h a6 0 (nI dp) (0 + nI i) fun h7 => zrZ 1 h7) else f_X4_dressesAtLast_9 f (x + 78) (x + 1) wa (nI dp) (nI (oN W.1 (wL W))) (nI (i + 1)) h := by
    intro f i hi
    rw [f_X4_dressesAtLast_9, zgI_eq h1' rfl, if_neg (nI_ge hi (by omega)), zoc_eq h1, shi (by omega), nI_or, zcI_of (q_X1_spotsN hS ok (or_lt256 ol (two_lt i (by omega)))), put_code ok ow hi, zoc_eq h1, zcI_of (q_X1_mayMove hS ok hW ow hi (Or.inl rfl))]
    unfold f_X4_dressesAtLast_57
    rw [nI_1]
    by_cases z : cvT S.2.2.1 (oN W.1 (wL W) ||| 2 ^ i) n = 15
    · rw [if_pos ((i15 (cvT_lt _ _ _)).mpr z), decide_eq_true z, Bool.true_and]
      cases canMove S W (wL W) 0 i
      · rw [if_pos (by decide), if_neg (by decide)]
      · rw [if_neg (by decide), if_pos rfl]
    · rw [if_neg (fun e => z ((i15 (cvT_lt _ _ _)).mp e)), decide_eq_false z, Bool.false_and, if_neg (by decide)]
  have z := zloopX (fun f i (_ : Unit) => f_X4_dressesAtLast_9 f (x + 78) (x + 1) wa (nI dp) (nI (oN W.1 (wL W))) (nI i) h) (fun _ => ()) n (okRow S n 1 W) (fun i => zgR h (x + 78) 1 0 fun a6 => zsI h a6 0 (nI dp) (0 + nI i) fun h7 => zrZ 1 h7) (rB false h) (fun f => by
      show f_X4_dressesAtLast_9 (f + 1) (x + 78) (x + 1) wa (nI dp) (nI (oN W.1 (wL W))) (nI n) h = _
      rw [f_X4_dressesAtLast_9, zgI_eq h1' rfl, if_pos (Int32.le_refl _), zrZ_0]) (fun f i hi hq => by rw [body f i hi, hq, if_neg (by decide)]) (fun f i hi hq => by rw [body f i hi, hq, if_pos rfl]) zF 0 (Nat.zero_le _) (zF_gt (by omega)) (fun j hj => absurd hj (Nat.not_lt_zero j))
  have eq : f_X4_dressesAtLast (x + 78) (x + 1) wa (nI dp) h = f_X4_dressesAtLast_9 zF (x + 78) (x + 1) wa (nI dp) (nI (oN W.1 (wL W))) 0 h := by
    unfold f_X4_dressesAtLast
    rw [zoc_eq hW.1, zcI_of (q_X8_onSet hW ow.1 (Nat.le_trans ow.2.1 h8)), (ow.onN h8).1]
  rw [eq, show f_X4_dressesAtLast_9 zF (x + 78) (x + 1) wa (nI dp) (nI (oN W.1 (wL W))) 0 h = _ from z]
  cases q : fstN (okRow S n 1 W) n with
  | none => exact ⟨h, rf, rfl, ms, fun _ _ => rfl, fun c e => (by cases e), FS.rf⟩
  | some i =>
    have hi := (fstN_some.mp q).1
    show ∃ h' rf', (zgR h (x + 78) 1 0 fun a6 => zsI h a6 0 (nI dp) (0 + nI i) fun h7 => zrZ 1 h7) = rB true h' ∧ _
    rw [zgR_eq ms.1 rfl, zsI_x (nI dp) dp rfl ms.2.1 (by omega) (by decide), show (0 : Int32) + nI i = nI i from (nI_add 0 i).trans (by rw [Nat.zero_add])]
    have F : Fr h (zset h (x + 79) (.inl (0, 3, .inl (upd rf dp (nI i))))) (x + 79) (x + 80) := Fr.set _ (by omega) (by omega)
    have fs : FS h (zset h (x + 79) (.inl (0, 3, .inl (upd rf dp (nI i))))) x dp := FS.fr F (by omega)
    refine ⟨_, upd rf dp (nI i), zrZ_1 _, ms.fs fs (zset_at _ _ _) (fun j hj hdj => ?_), fun j hj => upd_ne _ _ (by omega), fun c e t ht => ?_, fs⟩
    · obtain ⟨V, hV⟩ := ms.2.2.2 j hj hdj
      exact ⟨V, hV.keep F (by omega)⟩
    · cases e
      have : t = 0 := by omega
      subst this
      show upd rf dp (nI i) dp = _
      rw [upd_self, dig_put hi]
theorem q_dresses {x n : Nat} {S : Sd} (ok : okS n S) : ∀ (m D dp wa : Nat) (h : zH) (W : Wr) (rf : Nat → Int32), dp + (m + 1) ≤ 3 → m < D → (wa + 3 ≤ x + 79 ∨ x + 80 ≤ wa) → wa + 3 ≤ x + 81 + 3 * dp → MSs h x dp rf → RS h (x + 1) S → RW h wa W → okW n (wL W) W → (∀ c, c < (3 * n) ^ m → okRow S n m W c = false) → ∃ h' rf', f_X4_dresses D (x + 78) (x + 1) wa (nI dp) (nI (dp + (m + 1))) h = rB (fstN (okRow S n (m + 1) W) ((3 * n) ^ (m + 1))).isSome h' ∧ MSs h' x dp rf' ∧ (∀ j, j < dp → rf' j = rf j) ∧ (∀ c, fstN (okRow S n (m + 1) W) ((3 * n) ^ (m + 1)) = some c → ∀ t, t < m + 1 → rf' (dp + t) = dig n (m + 1) c t) ∧ FS h h' x dp := by
  have h8 := ok.2.1
  intro m
  induction m with
  | zero =>
    intro D dp wa h W rf hdp hD w1 w2 ms hS hW ow nosh
    obtain ⟨D, rfl⟩ : ∃ D', D = D' + 1 := ⟨D - 1, by omega⟩
    obtain ⟨h', rf', e1, e2, e3, e4, e5⟩ := q_atLast ms hS ok hW ow (by omega) (nosh 0 (by rw [Nat.pow_zero]; omega))
    refine ⟨h', rf', ?_, e2, e3, e4, e5⟩
    rw [f_X4_dresses]
    unfold f_X4_dresses_body
    rw [if_neg (nI_pos (by omega)), if_neg (nI_ge (show dp < dp + (0 + 1) by omega) (by omega)), if_pos (show nI dp < 3 from nI_lt (b := 3) (by omega) (by decide)), if_pos (show nI dp = nI (dp + (0 + 1)) - 1 by rw [show dp + (0 + 1) = dp + 1 by omega, nI_pred]), zoc_eq ms.1, zcI_of e1, zrZ_b]
  | succ m ih =>
    intro D dp wa h W rf hdp hD w1 w2 ms hS hW ow nosh
    obtain ⟨D, rfl⟩ : ∃ D', D = D' + 1 := ⟨D - 1, by omega⟩
    obtain ⟨gg, c1, c2⟩ := ms.2.2.1
    rw [f_X4_dresses]
    unfold f_X4_dresses_body
    rw [if_neg (nI_pos (by omega)), if_neg (nI_ge (show dp < dp + (m + 1 + 1) by omega) (by omega)), if_pos (show nI dp < 3 from nI_lt (b := 3) (by omega) (by decide)), if_neg (show ¬ nI dp = nI (dp + (m + 1 + 1)) - 1 by
      rw [show dp + (m + 1 + 1) = (dp + m + 1) + 1 by omega, nI_pred]
      intro e
      have := (nI_eq (by omega) (by omega)).mp e
      omega), zgR_eq ms.1 rfl, zaR_eq dp rfl c1 (by omega) (by decide) (c2 dp (by omega))]
    -- the goal, as a word
    let R : zR → zH → Prop := fun z g0 => ∃ h' rf', z = rB (fstN (okRow S n (m + 1 + 1) W) ((3 * n) ^ (m + 1 + 1))).isSome h' ∧ MSs h' x dp rf' ∧ (∀ j, j < dp → rf' j = rf j) ∧ (∀ c, fstN (okRow S n (m + 1 + 1) W) ((3 * n) ^ (m + 1 + 1)) = some c → ∀ t, t < m + 1 + 1 → rf' (dp + t) = dig n (m + 1 + 1) c t) ∧ FS h h' x dp
    -- inner loop
    have inner : ∀ (f what : Nat), what < 3 → (∀ (g : zH) (rg : Nat → Int32), FS h g x dp → MSs g x dp rg → (∀ j, j < dp → rg j = rf j) → (∀ c, c < (what + 1) * n * (3 * n) ^ (m + 1) → okRow S n (m + 1 + 1) W c = false) → R (f_X4_dresses_44 (f_X4_dresses D) f (x + 78) (x + 1) wa (nI dp) (nI (dp + (m + 1 + 1))) (x + 81 + 3 * dp) (nI (what + 1)) g) h) → ∀ (e i fuel : Nat) (g : zH) (rg : Nat → Int32), i + e = n → e < fuel → FS h g x dp → MSs g x dp rg → (∀ j, j < dp → rg j = rf j) → (∀ c, c < (what * n + i) * (3 * n) ^ (m + 1) → okRow S n (m + 1 + 1) W c = false) → R (f_X4_dresses_53 (f_X4_dresses D) (f_X4_dresses_44 (f_X4_dresses D) f) fuel (x + 78) (x + 1) wa (nI dp) (nI (dp + (m + 1 + 1))) (x + 81 + 3 * dp) (nI what) (nI i) g) h := by
      intro f what hwh next e
      induction e with
      | zero =>
        intro i fuel g rg hi hf F mg hr hp
        obtain ⟨fuel, rfl⟩ : ∃ f', fuel = f' + 1 := ⟨fuel - 1, by omega⟩
        have gS := hS.fs F
        obtain ⟨⟨nw, ps, nt, mk, pc, nc, mc, h1⟩, -⟩ := id gS
        rw [ok.1] at h1
        have ei : i = n := by omega
        subst ei
        rw [f_X4_dresses_53, zgI_eq h1 rfl, if_pos (Int32.le_refl _), nI_1]
        exact next g rg F mg hr (by rw [Nat.succ_mul]; exact hp)
      | succ e ihe =>
        intro i fuel g rg hi hf F mg hr hp
        obtain ⟨fuel, rfl⟩ : ∃ f', fuel = f' + 1 := ⟨fuel - 1, by omega⟩
        have gS := hS.fs F
        have gW := hW.fs F w1 w2
        obtain ⟨⟨nw, ps, nt, mk, pc, nc, mc, h1⟩, -⟩ := id gS
        have h1' := h1
        rw [ok.1] at h1'
        have hin : i < n := by omega
        have hn : 0 < n := by omega
        have hd : what * n + i < 3 * n := by
          have : what * n ≤ 2 * n := Nat.mul_le_mul_right n (by omega)
          omega
        have dn_ : (what * n + i) / n = what := by rw [Nat.mul_comm, Nat.mul_add_div hn, Nat.div_eq_of_lt hin, Nat.add_zero]
        have dm_ : (what * n + i) % n = i := by rw [Nat.mul_comm, Nat.mul_add_mod, Nat.mod_eq_of_lt hin]
        have hw : nI what = 0 ∨ nI what = 1 ∨ nI what = 2 := by rw [← dn_]; exact wh3 hd
        have bp : 0 < (3 * n) ^ (m + 1) := Nat.pow_pos (by omega)
        -- the codes that begin with this move
        have split : ∀ r, r < (3 * n) ^ (m + 1) → okRow S n (m + 1 + 1) W ((what * n + i) * (3 * n) ^ (m + 1) + r) = (canMove S W (wL W) (nI what) i && okRow S n (m + 1) (moveW W (wL W) (nI what) i) r) := by
          intro r hr
          rw [okRow_split hn hd hr]
          unfold mvd
          rw [dn_, dm_]
        have block : ∀ c, c < (what * n + (i + 1)) * (3 * n) ^ (m + 1) → ¬ c < (what * n + i) * (3 * n) ^ (m + 1) → ∃ r, r < (3 * n) ^ (m + 1) ∧ c = (what * n + i) * (3 * n) ^ (m + 1) + r := by
          intro c h1 h2
          rw [show what * n + (i + 1) = (what * n + i) + 1 by omega, Nat.succ_mul] at h1
          exact ⟨c - (what * n + i) * (3 * n) ^ (m + 1), by omega, by omega⟩
        have cont : (∀ r, r < (3 * n) ^ (m + 1) → okRow S n (m + 1 + 1) W ((what * n + i) * (3 * n) ^ (m + 1) + r) = false) → ∀ c, c < (what * n + (i + 1)) * (3 * n) ^ (m + 1) → okRow S n (m + 1 + 1) W c = false := by
          intro hb c hc
          by_cases z : c < (what * n + i) * (3 * n) ^ (m + 1)
          · exact hp c z
          · obtain ⟨r, r1, r2⟩ := block c hc z
            rw [r2]; exact hb r r1
        rw [f_X4_dresses_53, zgI_eq h1' rfl, if_neg (nI_ge hin (by omega)), zoc_eq h1, zcI_of (q_X1_mayMove gS ok gW ow hin hw)]
        unfold f_X4_dresses_121
        rw [nI_1 i]
        cases q : canMove S W (wL W) (nI what) i with
        | false =>
          rw [if_pos (by decide)]
          exact ihe (i + 1) fuel g rg (by omega) (by omega) F mg hr (cont (fun r hr => by rw [split r hr, q]; rfl))
        | true =>
          rw [if_neg (by decide)]
          obtain ⟨V0, hV0⟩ := mg.2.2.2 dp (by omega) (Nat.le_refl _)
          obtain ⟨g1, a1, a2, a3⟩ := q_X8_copyFrom hV0 gW (by omega)
          have k1 := cpyW_eq W V0
          have okc : okW n (wL (cpyW W V0)) (cpyW W V0) := by
            have : wL (cpyW W V0) = wL W := rfl
            rw [this]
            obtain ⟨o1, o2, o3, o4⟩ := ow
            have hL : wL W ≤ 8 := Nat.le_trans o2 h8
            exact ⟨o1, o2, fun k hk => by rw [← k1.1 k (by omega)]; exact o3 k hk, fun a b ha hb e => o4 a b ha hb (by rw [k1.1 a (by omega), k1.1 b (by omega)]; exact e)⟩
          have F1 : FS g g1 x dp := FS.fr a3 (by omega)
          have g1S := gS.fs F1
          have cq : canMove S (cpyW W V0) (wL (cpyW W V0)) (nI what) i = true := by rw [show wL (cpyW W V0) = wL W from rfl, canMove_eq ow h8 k1 hin]; exact q
          obtain ⟨g2, b1, b2, b3⟩ := q_X1_moveC g1S ok a2 okc hin hw (Or.inl cq)
          have F2 : FS g1 g2 x dp := FS.fr b3 (by omega)
          have mg2 : MA g2 (x + 79) 3 rg := (mg.2.1.keep a3 (by omega)).keep b3 (by omega)
          have o78 : g2.2 (x + 78) = some (.inr (1, [.ref (x + 79), .ref (x + 80)])) := ((F1.tr F2).2 _ (by omega) (by omega)).trans mg.1
          have F3 : Fr g2 (zset g2 (x + 79) (.inl (0, 3, .inl (upd rg dp (10 * nI what + nI i))))) (x + 79) (x + 80) := Fr.set _ (by omega) (by omega)
          have mv2 := okc.move h8 hin hw (Or.inl cq)
          have ow2 : okW n (wL (moveW (cpyW W V0) (wL (cpyW W V0)) (nI what) i)) (moveW (cpyW W V0) (wL (cpyW W V0)) (nI what) i) := by rw [mv2.wl h8]; exact mv2
          have mvO := ow.move h8 hin hw (Or.inl q)
          have owO : okW n (wL (moveW W (wL W) (nI what) i)) (moveW W (wL W) (nI what) i) := by rw [mvO.wl h8]; exact mvO
          have e12 : ∀ mm c, okRow S n mm (moveW (cpyW W V0) (wL (cpyW W V0)) (nI what) i) c = okRow S n mm (moveW W (wL W) (nI what) i) c := fun mm c => okRow_eq h8 hn mm _ _ c owO (moveW_eq ow h8 k1 _)
          have fsA : FS g (zset g2 (x + 79) (.inl (0, 3, .inl (upd rg dp (10 * nI what + nI i))))) x dp := (F1.tr F2).tr (FS.fr F3 (by omega))
          have ms3 : MSs (zset g2 (x + 79) (.inl (0, 3, .inl (upd rg dp (10 * nI what + nI i))))) x (dp + 1) (upd rg dp (10 * nI what + nI i)) := by
            obtain ⟨m1, m2, ⟨gg3, m3, m4⟩, m5⟩ := mg
            refine ⟨(fsA.2 _ (by omega) (by omega)).trans m1, zset_at _ _ _, ⟨gg3, (fsA.2 _ (by omega) (by omega)).trans m3, m4⟩, fun j hj hdj => ?_⟩
            obtain ⟨V, hV⟩ := m5 j hj (by omega)
            exact ⟨V, ((hV.keep a3 (by omega)).keep b3 (by omega)).keep F3 (by omega)⟩
          obtain ⟨g4, rf4, d1, d2, d3, d4, d5⟩ := ih D (dp + 1) (x + 81 + 3 * dp) (zset g2 (x + 79) (.inl (0, 3, .inl (upd rg dp (10 * nI what + nI i))))) (moveW (cpyW W V0) (wL (cpyW W V0)) (nI what) i) (upd rg dp (10 * nI what + nI i)) (by omega) (by omega) (by omega) (by omega) ms3 (gS.fs fsA) (b2.keep F3 (by omega)) ow2 (fun c hc => by
            rw [e12]
            have := nosh ((what * n + i) * (3 * n) ^ m + c) (by
              have : (what * n + i + 1) * (3 * n) ^ m ≤ (3 * n) * (3 * n) ^ m := Nat.mul_le_mul_right _ (by omega)
              rw [Nat.succ_mul] at this
              rw [Nat.pow_succ, Nat.mul_comm ((3 * n) ^ m)]
              omega)
            rw [okRow_split hn hd hc] at this
            unfold mvd at this
            rw [dn_, dm_, q, Bool.true_and] at this
            exact this)
          rw [show dp + 1 + (m + 1) = dp + (m + 1 + 1) by omega] at d1
          have efst : fstN (okRow S n (m + 1) (moveW (cpyW W V0) (wL (cpyW W V0)) (nI what) i)) ((3 * n) ^ (m + 1)) = fstN (okRow S n (m + 1) (moveW W (wL W) (nI what) i)) ((3 * n) ^ (m + 1)) := fstN_cong (fun c _ => e12 (m + 1) c)
          rw [efst] at d1 d4
          have ms4 : MSs g4 x dp rf4 := by
            obtain ⟨m1, m2, ⟨gg3, m3, m4⟩, m5⟩ := d2
            refine ⟨m1, m2, ⟨gg3, m3, m4⟩, fun j hj hdj => ?_⟩
            by_cases z : j = dp
            · subst z; exact ⟨_, (b2.keep F3 (by omega)).fs d5 (by omega) (by omega)⟩
            · exact m5 j hj (by omega)
          have rf4l : ∀ j, j < dp → rf4 j = rf j := fun j hj => by
            rw [d3 j (by omega), upd_ne _ _ (by omega)]; exact hr j hj
          have rf4d : rf4 dp = 10 * nI what + nI i := by rw [d3 dp (by omega), upd_self]
          have FA : FS h g4 x dp := F.tr (fsA.tr d5.up)
          rw [zoc_eq hV0.1, zcV_of a1, zoc_eq (show g1.2 (x + 1) = some (.inr (0, _)) from (F1.2 _ (by omega) (by omega)).trans h1), zcV_of b1, zgR_eq o78 rfl, zsI_x (nI dp) dp rfl mg2 (by omega) (by decide), zoc_eq ms3.1, nI_1 dp, zcI_of d1]
          cases q2 : fstN (okRow S n (m + 1) (moveW W (wL W) (nI what) i)) ((3 * n) ^ (m + 1)) with
          | none =>
            rw [show b2i (none : Option Nat).isSome = 0 from rfl, if_pos rfl]
            have := fstN_none.mp q2
            exact ihe (i + 1) fuel g4 rf4 (by omega) (by omega) FA ms4 rf4l (cont (fun r hr => by rw [split r hr, q, Bool.true_and]; exact this r hr))
          | some r =>
            obtain ⟨r1, r2, r3⟩ := fstN_some.mp q2
            have full : fstN (okRow S n (m + 1 + 1) W) ((3 * n) ^ (m + 1 + 1)) = some ((what * n + i) * (3 * n) ^ (m + 1) + r) := by
              refine fstN_some.mpr ⟨?_, by rw [split r r1, q, Bool.true_and]; exact r2, fun c hc => ?_⟩
              · have : (what * n + i + 1) * (3 * n) ^ (m + 1) ≤ (3 * n) * (3 * n) ^ (m + 1) := Nat.mul_le_mul_right _ (by omega)
                rw [Nat.succ_mul] at this
                rw [show (3 * n) ^ (m + 1 + 1) = (3 * n) * (3 * n) ^ (m + 1) from Nat.pow_succ']
                omega
              · by_cases z : c < (what * n + i) * (3 * n) ^ (m + 1)
                · exact hp c z
                · have hc2 : c - (what * n + i) * (3 * n) ^ (m + 1) < r := by omega
                  rw [show c = (what * n + i) * (3 * n) ^ (m + 1) + (c - (what * n + i) * (3 * n) ^ (m + 1)) by omega, split _ (by omega), q, Bool.true_and]
                  exact r3 _ hc2
            rw [show b2i (some r : Option Nat).isSome = 1 from rfl, if_neg (by decide), zrZ_1]
            refine ⟨g4, rf4, by rw [full]; rfl, ms4, rf4l, fun c ec t ht => ?_, FA⟩
            rw [full] at ec
            cases ec
            cases t with
            | zero =>
              show rf4 dp = _
              rw [rf4d, dig_top hn hd r1, dn_, dm_]
            | succ t =>
              rw [dig_low hn (by omega), ← d4 r q2 t (by omega), show dp + (t + 1) = dp + 1 + t by omega]
    -- outer loop
    have outer : ∀ (e what fuel : Nat) (g : zH) (rg : Nat → Int32), what + e = 3 → e < fuel → FS h g x dp → MSs g x dp rg → (∀ j, j < dp → rg j = rf j) → (∀ c, c < what * n * (3 * n) ^ (m + 1) → okRow S n (m + 1 + 1) W c = false) → R (f_X4_dresses_44 (f_X4_dresses D) fuel (x + 78) (x + 1) wa (nI dp) (nI (dp + (m + 1 + 1))) (x + 81 + 3 * dp) (nI what) g) h := by
      intro e
      induction e with
      | zero =>
        intro what fuel g rg hwh hf F mg hr hp
        obtain ⟨fuel, rfl⟩ : ∃ f', fuel = f' + 1 := ⟨fuel - 1, by omega⟩
        have ew : what = 3 := by omega
        subst ew
        have nn : fstN (okRow S n (m + 1 + 1) W) ((3 * n) ^ (m + 1 + 1)) = none := fstN_none.mpr (fun c hc => hp c (by rw [show (3 * n) ^ (m + 1 + 1) = (3 * n) * (3 * n) ^ (m + 1) from Nat.pow_succ'] at hc; exact hc))
        rw [f_X4_dresses_44, if_pos (by decide), zrZ_0]
        exact ⟨g, rg, by rw [nn]; rfl, mg, hr, fun c ec => (by rw [nn] at ec; cases ec), F⟩
      | succ e ihe =>
        intro what fuel g rg hwh hf F mg hr hp
        obtain ⟨fuel, rfl⟩ : ∃ f', fuel = f' + 1 := ⟨fuel - 1, by omega⟩
        rw [f_X4_dresses_44, if_neg (show ¬ (2 : Int32) < nI what from nI_nlt (a := 2) (by omega) (by omega))]
        exact inner fuel what (by omega) (fun g rg F mg hr hp => ihe (what + 1) fuel g rg (by omega) (by omega) F mg hr hp) n 0 zF g rg (by omega) (by show n < 20000; omega) F mg hr (by rw [Nat.add_zero]; exact hp)
    exact outer 3 0 zF h rf (by omega) (by show 3 < 20000; omega) FS.rf ms (fun _ _ => rfl) (fun c hc => by rw [Nat.zero_mul, Nat.zero_mul] at hc; omega)
