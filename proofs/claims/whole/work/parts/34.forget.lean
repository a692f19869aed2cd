/-! forget; of2 for refusals -/
theorem op_forget (what : Int32) : Both (fun x => f_X9_forget x what) (fun m => f_X10_forget m what) := by
  refine Both.of2 (fun T o => ?_)
  cases hc : rng 0 1 what with
  | false =>
    refine of2Bad o ?_ ?_
    · intro h x r h1 e1
      show f_X9_forget x what h = _
      unfold f_X9_forget
      rw [zcI_of (q_X9_in _ _ _ h), hc, if_pos (by decide), zoc_eq r.1, zcI_of e1]
      rfl
    · intro h m r h1 e1
      obtain ⟨im, sp, bg, tk, va, h0⟩ := r.mo
      show f_X10_forget m what h = _
      unfold f_X10_forget
      rw [zcI_of (q_X10_inn what 0 1 (A := 0) (B := 1) (by decide) (by decide) h), hc, if_pos (by decide), zoc_eq h0, zcI_of e1]
      rfl
  | true =>
    rcases rng01.mp hc with e | e <;> subst e
    · refine ⟨.int (dNc (tD T)), (((tD T).1, dW (tD T), dPc (tD T), dPv (tD T), 0, dNt (tD T), dMc (tD T), dMk (tD T)), T.2), ⟨⟨o.1.1, o.1.2.1, o.1.2.2.1, ⟨0, by omega, rfl⟩, o.1.2.2.2.2⟩, o.2⟩, ?_, ?_⟩
      · intro h x r
        show ∃ h1, f_X9_forget x 0 h = _ ∧ _
        unfold f_X9_forget f_X9_forget_55
        rw [zcI_of (q_X9_in _ _ _ h), hc, if_neg (by decide), if_pos rfl, zgR_eq r.1 rfl, zgI_eq r.2.1.1 rfl, zgR_eq r.1 rfl, zpV_eq r.2.1.1 (Nat.le_of_ble_eq_true rfl)]
        exact ⟨_, rfl, r.doll (Fr.set _ (by omega) (by omega)) (r.2.1.obj (D2 := ((tD T).1, dW (tD T), dPc (tD T), dPv (tD T), 0, dNt (tD T), dMc (tD T), dMk (tD T))) rfl rfl rfl rfl rfl), Fr.set _ (by omega) (by omega)⟩
      · intro h m r
        obtain ⟨im, ⟨sp, bg, tk, va, nf, sf, bf, n0, a0⟩, u⟩ := r.nw
        obtain ⟨b1, b2, b3, b4⟩ := a0.2.2.1
        show ∃ h1, f_X10_forget m 0 h = _ ∧ _
        unfold f_X10_forget f_X10_forget_26
        rw [zcI_of (q_X10_inn 0 0 1 (A := 0) (B := 1) (by decide) (by decide) h), hc, if_neg (by decide), if_pos rfl, n0.ld 44 44 rfl (by decide), b1, n0.st 44 44 rfl (by decide)]
        obtain ⟨n1, f1⟩ := n0.now (upd nf 44 0)
        refine ⟨_, rfl, u _ _ sp bg tk va _ sf bf f1 n1 (a0.far o.1 (fun j hj => upd_ne _ _ (by omega)) rfl rfl rfl rfl ⟨upd_self _ _ _, fun j hj => absurd hj (Nat.not_lt_zero j), ?_, fun j hj => ?_⟩), f1.wide (by omega) (by omega)⟩
        · rw [upd_ne _ _ (by omega)]; exact b3
        · rw [upd_ne _ _ (by omega)]; exact b4 j hj
    · refine ⟨.int (dMc (tD T)), (((tD T).1, dW (tD T), dPc (tD T), dPv (tD T), dNc (tD T), dNt (tD T), 0, dMk (tD T)), T.2), ⟨⟨o.1.1, o.1.2.1, o.1.2.2.1, o.1.2.2.2.1, ⟨0, by omega, rfl⟩⟩, o.2⟩, ?_, ?_⟩
      · intro h x r
        show ∃ h1, f_X9_forget x 1 h = _ ∧ _
        unfold f_X9_forget f_X9_forget_55
        rw [zcI_of (q_X9_in _ _ _ h), hc, if_neg (by decide), if_neg n10, zgR_eq r.1 rfl, zgI_eq r.2.1.1 rfl, zgR_eq r.1 rfl, zpV_eq r.2.1.1 (Nat.le_of_ble_eq_true rfl)]
        exact ⟨_, rfl, r.doll (Fr.set _ (by omega) (by omega)) (r.2.1.obj (D2 := ((tD T).1, dW (tD T), dPc (tD T), dPv (tD T), dNc (tD T), dNt (tD T), 0, dMk (tD T))) rfl rfl rfl rfl rfl), Fr.set _ (by omega) (by omega)⟩
      · intro h m r
        obtain ⟨im, ⟨sp, bg, tk, va, nf, sf, bf, n0, a0⟩, u⟩ := r.nw
        obtain ⟨b1, b2, b3, b4⟩ := a0.2.2.1
        obtain ⟨c', hc6', ec'⟩ := o.1.2.2.2.1
        have ei' : ix (dNc (tD T)) = c' := by rw [ec', ix_nI (by omega)]
        show ∃ h1, f_X10_forget m 1 h = _ ∧ _
        unfold f_X10_forget f_X10_forget_26
        rw [zcI_of (q_X10_inn 1 0 1 (A := 0) (B := 1) (by decide) (by decide) h), hc, if_neg (by decide), if_neg n10, n0.ld 63 63 rfl (by decide), b3, n0.st 63 63 rfl (by decide)]
        obtain ⟨n1, f1⟩ := n0.now (upd nf 63 0)
        refine ⟨_, rfl, u _ _ sp bg tk va _ sf bf f1 n1 (a0.far o.1 (fun j hj => upd_ne _ _ (by omega)) rfl rfl rfl rfl ⟨?_, fun j hj => ?_, upd_self _ _ _, fun j hj => absurd hj (Nat.not_lt_zero j)⟩), f1.wide (by omega) (by omega)⟩
        · rw [upd_ne _ _ (by omega)]; exact b1
        · have hj' : j < 3 * ix (dNc (tD T)) := hj
          rw [ei'] at hj'
          rw [upd_ne _ _ (by omega)]; exact b2 j hj
/-- a new doll on the class's side -/
theorem q_X8_begin {h : zH} {w : Nat} {W : Wr} (hW : RW h w W) : ∃ h', f_X8_begin w h = rV h' ∧ RW h' w (W.1, filF (fun _ => 0) W.2.1 8, 0, 0) ∧ Fr h h' w (w + 3) := by
  unfold f_X8_begin
  rw [hW.put2]
  have hW1 := hW.cnt 0 W.2.2.2
  have f1 : Fr h (zset h w (.inr (4, [.ref (w + 1), .ref (w + 2), .int 0, .int W.2.2.2]))) w (w + 3) := Fr.set _ (by omega) (by omega)
  generalize zset h w (.inr (4, [.ref (w + 1), .ref (w + 2), .int 0, .int W.2.2.2])) = h1 at hW1 f1 ⊢
  rw [hW1.put3]
  have hW2 := hW1.cnt 0 0
  have f2 := f1.tr (Fr.set (h := h1) (a := w) (lo := w) (hi := w + 3) (.inr (4, [.ref (w + 1), .ref (w + 2), .int 0, .int 0])) (by omega) (by omega))
  try dsimp only at hW2 f2 ⊢
  generalize zset h1 w (.inr (4, [.ref (w + 1), .ref (w + 2), .int 0, .int 0])) = h2 at hW2 f2 ⊢
  refine zloopE (fun n k g => f_X8_begin_12 n w (nI k) g) (fun k g => RW g w (W.1, filF (fun _ => 0) W.2.1 k, 0, 0) ∧ Fr h g w (w + 3)) 8 (fun r => ∃ h', r = rV h' ∧ RW h' w (W.1, filF (fun _ => 0) W.2.1 8, 0, 0) ∧ Fr h h' w (w + 3)) ?_ ?_ zF 0 h2 (by omega) (by show 8 < 20000 + 0; omega) ⟨by rw [filF_0]; exact hW2, f2⟩
  · intro n g ⟨gW, gF⟩
    show ∃ h', f_X8_begin_12 (n + 1) w (nI 8) g = _ ∧ _
    rw [f_X8_begin_12, if_pos (show (8 : Int32) ≤ nI 8 from Int32.le_refl _)]
    exact ⟨g, rfl, gW, gF⟩
  · intro n k g hk ⟨gW, gF⟩
    refine ⟨zset g (w + 2) (.inl (0, 8, .inl (filF (fun _ => 0) W.2.1 (k + 1)))), ⟨gW.wo _, gF.tr (Fr.set _ (by omega) (by omega))⟩, ?_⟩
    show f_X8_begin_12 (n + 1) w (nI k) g = f_X8_begin_12 n w (nI (k + 1)) _
    rw [f_X8_begin_12, if_neg (show ¬ (8 : Int32) ≤ nI k from nI_ge (b := 8) hk (by decide)), zgR_eq gW.1 rfl, zsI_x (nI k) k rfl gW.2.2 hk (by decide), nI_1]
    show f_X8_begin_12 n w (nI (k + 1)) (zset g (w + 2) (.inl (0, 8, .inl (upd (filF (fun _ => 0) W.2.1 k) k ((fun _ => 0) k))))) = _
    rw [filF_s]
theorem RD.wear {h h' : zH} {d : Nat} {D : Dl} {W : Wr} (r : RD h d D) (f : Fr h h' (d + 4) (d + 7)) (hW : RW h' (d + 4) W) : RD h' d (D.1, W, dPc D, dPv D, dNc D, dNt D, dMc D, dMk D) := by
  obtain ⟨h1, h2, h3, h4, h5, h6, h7, h8⟩ := r
  exact ⟨(f.2 _ (by omega)).trans h1, h2.keep f (by omega), h3.keep f (by omega), h4.keep f (by omega), hW, h6.keep f (by omega), h7.keep f (by omega), h8.keep f (by omega)⟩
/-- a doll begun anew -/
abbrev newD (kind : Int32) (D : Dl) : Dl := ((kind, 0, D.1.2.2), ((dW D).1, filF (fun _ => 0) (dW D).2.1 8, 0, 0), 0, dPv D, 0, dNt D, 0, dMk D)
theorem q_X1_begin {h : zH} {d : Nat} {D : Dl} (r : RD h d D) (kind : Int32) : ∃ h', f_X1_begin d kind h = rV h' ∧ RD h' d (newD kind D) ∧ Fr h h' d (d + 34) := by
  obtain ⟨⟨ch, n, S⟩, W, pc, pv, nc, nt, mc, mk⟩ := D
  unfold f_X1_begin
  rw [zpV_eq r.1 (Nat.le_of_ble_eq_true rfl)]
  have r1 := r.obj (D2 := ((kind, n, S), W, pc, pv, nc, nt, mc, mk)) rfl rfl rfl rfl rfl
  have f1 : Fr h (zset h d (rdE d ((kind, n, S), W, pc, pv, nc, nt, mc, mk))) d (d + 34) := Fr.set _ (by omega) (by omega)
  dsimp only [List.set, rdE] at r1 f1 ⊢
  generalize zset h d _ = g1 at r1 f1 ⊢
  rw [zpV_eq r1.1 (Nat.le_of_ble_eq_true rfl)]
  have r2 := r1.obj (D2 := ((kind, 0, S), W, pc, pv, nc, nt, mc, mk)) rfl rfl rfl rfl rfl
  have f2 := f1.tr (Fr.set (h := g1) (a := d) (lo := d) (hi := d + 34) (rdE d ((kind, 0, S), W, pc, pv, nc, nt, mc, mk)) (by omega) (by omega))
  dsimp only [List.set, rdE] at r2 f2 ⊢
  generalize zset g1 d _ = g2 at r2 f2 ⊢
  obtain ⟨g3, e3, w3, fr3⟩ := q_X8_begin r2.2.2.2.2.1
  try dsimp only at w3
  generalize hf : filF (fun _ => 0) W.2.1 8 = f at w3
  have r3 := r2.wear (fr3.wide (by omega) (by omega)) w3
  have f3 := f2.tr (fr3.wide (lo2 := d) (hi2 := d + 34) (by omega) (by omega))
  rw [zgR_eq r2.1 rfl, zoc_eq r2.2.2.2.2.1.1, zcV_of e3, zpV_eq r3.1 (Nat.le_of_ble_eq_true rfl)]
  have r4 := r3.obj (D2 := ((kind, 0, S), (W.1, f, 0, 0), 0, pv, nc, nt, mc, mk)) rfl rfl rfl rfl rfl
  have f4 := f3.tr (Fr.set (h := g3) (a := d) (lo := d) (hi := d + 34) (rdE d ((kind, 0, S), (W.1, f, 0, 0), 0, pv, nc, nt, mc, mk)) (by omega) (by omega))
  dsimp only [List.set, rdE] at r4 f4 ⊢
  generalize zset g3 d _ = g4 at r4 f4 ⊢
  rw [zpV_eq r4.1 (Nat.le_of_ble_eq_true rfl)]
  have r5 := r4.obj (D2 := ((kind, 0, S), (W.1, f, 0, 0), 0, pv, 0, nt, mc, mk)) rfl rfl rfl rfl rfl
  have f5 := f4.tr (Fr.set (h := g4) (a := d) (lo := d) (hi := d + 34) (rdE d ((kind, 0, S), (W.1, f, 0, 0), 0, pv, 0, nt, mc, mk)) (by omega) (by omega))
  dsimp only [List.set, rdE] at r5 f5 ⊢
  generalize zset g4 d _ = g5 at r5 f5 ⊢
  rw [zpV_eq r5.1 (Nat.le_of_ble_eq_true rfl)]
  refine ⟨_, rfl, ?_, f5.tr (Fr.set _ (by omega) (by omega))⟩
  show RD _ d ((kind, 0, S), (W.1, filF (fun _ => 0) W.2.1 8, 0, 0), 0, pv, 0, nt, 0, mk)
  rw [hf]
  exact r5.obj (D2 := ((kind, 0, S), (W.1, f, 0, 0), 0, pv, 0, nt, 0, mk)) rfl rfl rfl rfl rfl
