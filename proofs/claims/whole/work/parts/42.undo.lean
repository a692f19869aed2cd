/-! undo; of -/
def unR (nf0 nf bf : Nat → Int32) (c q : Nat) : Prop := (∀ j, ¬ (2 ≤ j ∧ j < 12) → ¬ (36 ≤ j ∧ j < 44) → nf j = nf0 j) ∧ nf 2 = bf (18 * c) ∧ nf 3 = bf (18 * c + 1) ∧ ∀ k, k < q → nf (4 + k) = bf (18 * c + 2 + k) ∧ nf (36 + k) = bf (18 * c + 10 + k)
theorem q_X10_undo {h : zH} {m c : Nat} {M : Mo} {nf sf bf : Nat → Int32} (r : NW h m M nf sf bf) (hc : M.1 = nI (c + 1)) (h8 : c < 8) : ∃ h' nf', f_X10_undo m h = rI (bf (18 * c)) h' ∧ NW h' m (nI c, M.2) nf' sf bf ∧ unR nf nf' bf c 8 ∧ Fr h h' m (m + 4) := by
  obtain ⟨um, M⟩ := M
  have hc : um = nI (c + 1) := hc
  subst hc
  have e1 : 18 * nI c = nI (18 * c) := by rw [show (18 : Int32) = nI 18 from rfl, pk_mul]
  unfold f_X10_undo
  rw [zgI_eq r.1 rfl, if_neg (show ¬ nI (c + 1) = 0 from fun z => by have := (nI_eq (b := 0) (by omega) (by decide)).mp z; omega), zgI_eq r.1 rfl, nI_pred, r.um]
  obtain ⟨n0, f0⟩ := r.obj (nI c, M)
  try dsimp only at n0 f0 ⊢
  generalize zset h m (moE m (nI c, M)) = g0 at n0 f0 ⊢
  rw [zgI_eq n0.1 rfl, zlt_eq, e1, zgR_eq n0.1 rfl, zgR_eq n0.1 rfl, zaI_x (nI (18 * c)) (18 * c) rfl n0.2.2.2 (by omega) (by decide), zsI_x 2 2 rfl n0.2.1 (by decide) (by decide)]
  obtain ⟨n1, f1⟩ := n0.now (upd nf 2 (bf (18 * c)))
  generalize zset g0 (m + 1) (.inl (0, 88, .inl (upd nf 2 (bf (18 * c))))) = g1 at n1 f1 ⊢
  rw [nI_1, zgR_eq n1.1 rfl, zgR_eq n1.1 rfl, zaI_x (nI (18 * c + 1)) (18 * c + 1) rfl n1.2.2.2 (by omega) (by decide), zsI_x 3 3 rfl n1.2.1 (by decide) (by decide)]
  obtain ⟨n2, f2⟩ := n1.now (upd (upd nf 2 (bf (18 * c))) 3 (bf (18 * c + 1)))
  generalize zset g1 (m + 1) (.inl (0, 88, .inl (upd (upd nf 2 (bf (18 * c))) 3 (bf (18 * c + 1))))) = g2 at n2 f2 ⊢
  refine zloopE (fun f k g => f_X10_undo_58 f m (nI (18 * c)) (nI k) g) (fun k g => ∃ nf', NW g m (nI c, M) nf' sf bf ∧ unR nf nf' bf c k ∧ Fr h g m (m + 4)) 8 (fun r => ∃ h' nf', r = rI (bf (18 * c)) h' ∧ NW h' m (nI c, M) nf' sf bf ∧ unR nf nf' bf c 8 ∧ Fr h h' m (m + 4)) ?_ ?_ zF 0 g2 (by omega) (by show 8 < 20000 + 0; omega) ⟨_, n2, ⟨fun j h1 h2 => by rw [upd_ne _ _ (by omega), upd_ne _ _ (by omega)], by rw [upd_ne _ _ (by omega), upd_self], upd_self _ _ _, fun k hk => absurd hk (Nat.not_lt_zero k)⟩, (f0.tr f1).tr f2⟩
  · intro f g ⟨nf', gN, gR, gF⟩
    show ∃ h' nf'', f_X10_undo_58 (f + 1) m (nI (18 * c)) (nI 8) g = _ ∧ _
    rw [f_X10_undo_58, if_pos (show (8 : Int32) ≤ nI 8 from Int32.le_refl _), gN.ld 2 2 rfl (by decide), gR.2.1]
    exact ⟨g, nf', rfl, gN, gR, gF⟩
  · intro f k g hk ⟨nf', gN, ⟨p1, p2, p3, p4⟩, gF⟩
    have e2 : nI (18 * c) + 2 + nI k = nI (18 * c + 2 + k) := by rw [show nI (18 * c) + 2 = nI (18 * c + 2) from nI_add _ 2, nI_add]
    have e3 : nI (18 * c) + 10 + nI k = nI (18 * c + 10 + k) := by rw [show nI (18 * c) + 10 = nI (18 * c + 10) from nI_add _ 10, nI_add]
    obtain ⟨n3, f3⟩ := gN.now (upd nf' (4 + k) (bf (18 * c + 2 + k)))
    obtain ⟨n4, f4⟩ := n3.now (upd (upd nf' (4 + k) (bf (18 * c + 2 + k))) (36 + k) (bf (18 * c + 10 + k)))
    refine ⟨_, ⟨_, n4, ⟨fun j h1 h2 => ?_, ?_, ?_, fun q hq => ?_⟩, (gF.tr f3).tr f4⟩, ?_⟩
    · rw [upd_ne _ _ (by omega), upd_ne _ _ (by omega)]; exact p1 j h1 h2
    · rw [upd_ne _ _ (by omega), upd_ne _ _ (by omega)]; exact p2
    · rw [upd_ne _ _ (by omega), upd_ne _ _ (by omega)]; exact p3
    · by_cases z : q = k
      · subst z
        rw [upd_ne _ _ (show 4 + q ≠ 36 + q by omega), upd_self, upd_self]
        exact ⟨rfl, rfl⟩
      · rw [upd_ne _ _ (show 4 + q ≠ 36 + k by omega), upd_ne _ _ (show 4 + q ≠ 4 + k by omega), upd_ne _ _ (show 36 + q ≠ 36 + k by omega), upd_ne _ _ (show 36 + q ≠ 4 + k by omega)]
        exact p4 q (by omega)
    · show f_X10_undo_58 (f + 1) m (nI (18 * c)) (nI k) g = f_X10_undo_58 f m (nI (18 * c)) (nI (k + 1)) _
      rw [f_X10_undo_58, if_neg (show ¬ (8 : Int32) ≤ nI k from nI_ge (b := 8) hk (by decide)), zgR_eq gN.1 rfl, zgR_eq gN.1 rfl, zaI_x (nI (18 * c) + 2 + nI k) (18 * c + 2 + k) e2 gN.2.2.2 (by omega) (by decide), zsI_x (4 + nI k) (4 + k) (nI_add 4 k) gN.2.1 (by omega) (by decide), zgR_eq n3.1 rfl, zgR_eq n3.1 rfl, zaI_x (nI (18 * c) + 10 + nI k) (18 * c + 10 + k) e3 n3.2.2.2 (by omega) (by decide), zsI_x (36 + nI k) (36 + k) (nI_add 36 k) n3.2.1 (by omega) (by decide), nI_1]
abbrev unD (D : Dl) (c : Nat) : Dl := (D.1, cpyW (dPv D c) (dW D), nI c, dPv D, dNc D, dNt D, dMc D, dMk D)
theorem op_undo : Both f_X9_undo f_X10_undo := by
  refine Both.of2 (fun T o => ?_)
  obtain ⟨c, hc8, hc, hcp⟩ := o.1.2.2.1
  have n8 : dn (tD T) ≤ 8 := o.1.1.2.1
  cases c with
  | zero =>
    refine ⟨.int (-103), nR1 T, o.r1, ?_, ?_⟩
    · intro h x r
      obtain ⟨h1, e1, r1, f1⟩ := (q_X9_refuse r).2.1
      refine ⟨h1, ?_, r1, f1⟩
      unfold f_X9_undo
      rw [zgR_eq r.1 rfl, zgI_eq r.2.1.1 rfl, hc, if_neg (by decide), zoc_eq r.1, zcI_of e1]
      rfl
    · intro h m r
      obtain ⟨im, sp, bg, tk, va, h0⟩ := r.mo
      obtain ⟨h1, e1, r1, f1⟩ := q_X10_no r
      refine ⟨h1, ?_, r1, f1⟩
      unfold f_X10_undo
      rw [zgI_eq h0 rfl, if_pos (show dPc (tD T) = 0 from hc), zoc_eq h0, zcI_of e1]
      rfl
  | succ c =>
    have ok0 := hcp c (by omega)
    refine ⟨.int (dPv (tD T) c).2.2.2, (unD (tD T) c, T.2), ⟨⟨o.1.1, ok0.eq n8 (cpyW_eq _ _), ⟨c, by omega, rfl, fun k hk => hcp k (by omega)⟩, o.1.2.2.2⟩, o.2⟩, ?_, ?_⟩
    · intro h x r
      obtain ⟨h1, e1, r1, f1⟩ := q_X1_bringBack r.2.1 hc (by omega)
      have rx := r.doll (f1.wide (by omega) (by omega)) r1
      refine ⟨h1, ?_, rx, f1.wide (by omega) (by omega)⟩
      unfold f_X9_undo
      rw [zgR_eq r.1 rfl, zgI_eq r.2.1.1 rfl, hc, if_pos (show (1 : Int32) ≤ nI (c + 1) from nI_le (a := 1) (by omega) (by omega)), zgR_eq r.1 rfl, zoc_eq r.2.1.1, zcV_of e1, zgR_eq rx.1 rfl, zgR_eq rx.2.1.1 rfl, zgI_eq rx.2.1.2.2.2.2.1.1 rfl]
      rfl
    · intro h m r
      obtain ⟨im, ⟨sp, bg, tk, va, nf, sf, bf, n0, a0⟩, u⟩ := r.nw
      obtain ⟨h1, nf1, e1, n1, ⟨p1, p2, p3, p4⟩, f1⟩ := q_X10_undo n0 hc (by omega)
      have ei : ix (dPc (tD T)) = c + 1 := by rw [hc, ix_nI (by omega)]
      obtain ⟨b1, b2, b3, b4⟩ := a0.2.2.2 c (by rw [ei]; omega)
      have l8 := ok0.le n8
      refine ⟨h1, by rw [e1, b1], u h1 (unD (tD T) c) sp bg tk va nf1 sf bf f1 n1 ⟨?_, ?_, ?_, fun k hk => ?_⟩, f1.wide (by omega) (by omega)⟩
      · obtain ⟨s1, s2, s3⟩ := a0.1
        refine ⟨(p1 0 (by omega) (by omega)).trans s1, (p1 1 (by omega) (by omega)).trans s2, fun i hi => ?_⟩
        have hi : i < dn (tD T) := hi
        rw [p1 _ (by omega) (by omega), p1 _ (by omega) (by omega), p1 _ (by omega) (by omega)]
        exact s3 i hi
      · refine RowW.eqW (V := dPv (tD T) c) ⟨p2.trans b1, p3.trans b2, fun j hj => ?_, fun i hi => ?_⟩ n8 l8 (cpyW_eq _ _)
        · exact (p4 j (by omega)).1.trans (b3 j hj)
        · have hi : i < dn (tD T) := hi
          exact (p4 i (by omega)).2.trans (b4 i hi)
      · obtain ⟨d1, d2, d3, d4⟩ := a0.2.2.1
        exact ⟨(p1 44 (by omega) (by omega)).trans d1, fun j hj => (p1 _ (by omega) (by omega)).trans (d2 j hj), (p1 63 (by omega) (by omega)).trans d3, fun j hj => (p1 _ (by omega) (by omega)).trans (d4 j hj)⟩
      · have hk : k < c := by
          have z : k < ix (nI c) := hk
          rw [ix_nI (by omega)] at z; exact z
        exact a0.2.2.2 k (by rw [ei]; omega)
/-- the side row laid out: nothing told of the model changes -/
theorem RM.aside {h : zH} {m : Nat} {T : Tt} (r : RM h m T) (o : okT T) : ∃ h1 M nf sf, f_X10_aside m h = rV h1 ∧ MO h1 m M ∧ MA h1 (m + 1) 88 nf ∧ MA h1 (m + 2) 88 sf ∧ RowS nf (dn (tD T)) (tD T).1 ∧ RowW nf (dn (tD T)) (wL (dW (tD T))) (dW (tD T)) ∧ RowN nf (tD T) ∧ RowS sf (dn (tD T)) (tD T).1 ∧ RowW sf (dn (tD T)) (wL (dW (tD T))) (dW (tD T)) ∧ RM h1 m T ∧ Fr h h1 m (m + 11) := by
  obtain ⟨im, ⟨sp, bg, tk, va, nf, sf, bf, n0, a0⟩, u⟩ := r.nw
  obtain ⟨h1, sf1, e1, n1, q1, f1⟩ := n0.aside
  have row1 := RowD.eq a0 o.1 q1
  exact ⟨h1, _, nf, sf1, e1, n1.1, n1.2.1, n1.2.2.1, a0.1, a0.2.1, a0.2.2.1, row1.1, row1.2.1, u h1 (tD T) sp bg tk va nf sf1 bf f1 n1 a0, f1.wide (by omega) (by omega)⟩
theorem RM.now {h : zH} {m : Nat} {T : Tt} (r : RM h m T) : ∃ M nf, MO h m M ∧ MA h (m + 1) 88 nf ∧ RowS nf (dn (tD T)) (tD T).1 ∧ RowW nf (dn (tD T)) (wL (dW (tD T))) (dW (tD T)) ∧ RowN nf (tD T) := by
  obtain ⟨im, ⟨sp, bg, tk, va, nf, sf, bf, n0, a0⟩, u⟩ := r.nw
  exact ⟨_, nf, n0.1, n0.2.1, a0.1, a0.2.1, a0.2.2.1⟩
/-- a question: nothing told changes -/
theorem Both.ask {fx fm : Nat → zH → zR} (H : ∀ T, okT T → ∃ (A : Value), (∀ (h : zH) (x : Nat), RX h x T → ∃ h1, fx x h = some (some A, h1) ∧ RX h1 x T ∧ Fr h h1 x (x + 159)) ∧ ∀ (h : zH) (m : Nat), RM h m T → ∃ h1, fm m h = some (some A, h1) ∧ RM h1 m T ∧ Fr h h1 m (m + 11)) : Both fx fm := Both.of2 (fun T o => by
  obtain ⟨A, p, q⟩ := H T o
  exact ⟨A, T, o, p, q⟩)
