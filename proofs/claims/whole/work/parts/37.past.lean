/-! WHAT MAY BE UNDONE, on the class's side -/
theorem zcp_eq {h : zH} {a0 a n0 n1 : Nat} {f g : Nat → Int32} {K : zH → zR} (N : Nat) {n : Int32} (hn : n = nI N) (h0 : h.2 a0 = some (.inl (0, n0, .inl f))) (h1 : h.2 a = some (.inl (0, n1, .inl g))) (hN0 : N ≤ n0) (hN1 : N ≤ n1) (hN : N < 2 ^ 31) : zcp h a0 0 a 0 n K = K (zset h a (.inl (0, n1, .inl (va_cpy f g 0 0 N)))) := by
  subst hn
  unfold zcp
  have z0 : (0 : Int32).toNatClampNeg = 0 := by decide
  rw [zgA_eq h0, zgA_eq h1, nI_clamp hN, z0, if_neg]
  intro q
  rcases q with q | q | q | q | q
  · exact absurd q (by decide)
  · exact absurd q (by decide)
  · exact nI_pos hN q
  · omega
  · omega
theorem cpy_in {f g : Nat → Int32} {N k : Nat} (h : k < N) : va_cpy f g 0 0 N k = f k := by
  unfold va_cpy
  rw [if_pos (by omega)]
  congr 1
  omega
def cpyW (V W : Wr) : Wr := (va_cpy V.1 W.1 0 0 8, va_cpy V.2.1 W.2.1 0 0 8, V.2.2.1, V.2.2.2)
def eqW (V W : Wr) : Prop := (∀ k, k < 8 → V.1 k = W.1 k) ∧ (∀ k, k < 8 → V.2.1 k = W.2.1 k) ∧ V.2.2.1 = W.2.2.1 ∧ V.2.2.2 = W.2.2.2
theorem cpyW_eq (V W : Wr) : eqW V (cpyW V W) := ⟨fun _ hk => (cpy_in hk).symm, fun _ hk => (cpy_in hk).symm, rfl, rfl⟩
theorem okV.eq {n : Nat} {V W : Wr} (o : okV n V) (h8 : n ≤ 8) (e : eqW V W) : okV n W := by
  obtain ⟨⟨a, b, c, d⟩, z, v⟩ := o
  obtain ⟨e1, e2, e3, e4⟩ := e
  have hL : wL V ≤ 8 := Nat.le_trans b h8
  have eL : wL W = wL V := by show ix W.2.2.1 = ix V.2.2.1; rw [e3]
  refine ⟨?_, fun i h1 h2 => (e2 i h2).symm.trans (z i h1 h2), ?_⟩
  rotate_left
  · obtain ⟨v, v1, v2, v3⟩ := v
    refine ⟨v, v1, e4.symm.trans v2, fun i hi => ?_⟩
    obtain ⟨a, a1, a2⟩ := v3 i hi
    exact ⟨a, a1, (e2 i hi).symm.trans a2⟩
  rw [eL]
  exact ⟨e3.symm.trans a, b, fun k hk => by rw [← e1 k (by omega)]; exact c k hk, fun j k hj hk q => d j k hj hk (by rw [e1 j (by omega), e1 k (by omega)]; exact q)⟩
theorem RowB.eqW {bf : Nat → Int32} {b n : Nat} {V W : Wr} (r : RowB bf b n V) (h8 : n ≤ 8) (hL : wL V ≤ 8) (e : eqW V W) : RowB bf b n W := by
  obtain ⟨e1, e2, e3, e4⟩ := e
  obtain ⟨a, c, d, g⟩ := r
  have eL : wL W = wL V := by show ix W.2.2.1 = ix V.2.2.1; rw [e3]
  refine ⟨a.trans e4, c.trans e3, fun j hj => ?_, fun i hi => (g i hi).trans (e2 i (by omega))⟩
  rw [eL] at hj
  exact (d j hj).trans (e1 j (by omega))
theorem RowW.eqW {f : Nat → Int32} {n : Nat} {V W : Wr} (r : RowW f n (wL V) V) (h8 : n ≤ 8) (hL : wL V ≤ 8) (e : eqW V W) : RowW f n (wL W) W := by
  obtain ⟨e1, e2, e3, e4⟩ := e
  obtain ⟨a, c, d, g⟩ := r
  have eL : wL W = wL V := by show ix W.2.2.1 = ix V.2.2.1; rw [e3]
  refine ⟨a.trans e4, c.trans e3, fun j hj => ?_, fun i hi => (g i hi).trans (e2 i (by omega))⟩
  rw [eL] at hj
  exact (d j hj).trans (e1 j (by omega))
theorem q_X8_copyFrom {h : zH} {w v : Nat} {W V : Wr} (hW : RW h w W) (hV : RW h v V) (hd : w + 3 ≤ v ∨ v + 3 ≤ w) : ∃ h', f_X8_copyFrom w v h = rV h' ∧ RW h' w (cpyW V W) ∧ Fr h h' w (w + 3) := by
  unfold f_X8_copyFrom
  rw [zgR_eq hV.1 rfl, zgR_eq hW.1 rfl, zcp_eq 8 (n := 8) rfl hV.2.1 hW.2.1 (by omega) (by omega) (by decide)]
  have w1 := hW.on (va_cpy V.1 W.1 0 0 8)
  have f1 : Fr h (zset h (w + 1) (.inl (0, 8, .inl (va_cpy V.1 W.1 0 0 8)))) w (w + 3) := Fr.set _ (by omega) (by omega)
  generalize zset h (w + 1) (.inl (0, 8, .inl (va_cpy V.1 W.1 0 0 8))) = g1 at w1 f1 ⊢
  have v1 := hV.keep f1 (by omega)
  rw [zgR_eq v1.1 rfl, zgR_eq w1.1 rfl, zcp_eq 8 (n := 8) rfl v1.2.2 w1.2.2 (by omega) (by omega) (by decide)]
  have w2 := w1.wo (va_cpy V.2.1 W.2.1 0 0 8)
  have f2 := f1.tr (Fr.set (h := g1) (a := w + 2) (lo := w) (hi := w + 3) (.inl (0, 8, .inl (va_cpy V.2.1 W.2.1 0 0 8))) (by omega) (by omega))
  try dsimp only at w2 f2 ⊢
  generalize zset g1 (w + 2) (.inl (0, 8, .inl (va_cpy V.2.1 W.2.1 0 0 8))) = g2 at w2 f2 ⊢
  have v2 := hV.keep f2 (by omega)
  rw [zgI_eq v2.1 rfl, w2.put2]
  have w3 := w2.cnt V.2.2.1 W.2.2.2
  have f3 := f2.tr (Fr.set (h := g2) (a := w) (lo := w) (hi := w + 3) (.inr (4, [.ref (w + 1), .ref (w + 2), .int V.2.2.1, .int W.2.2.2])) (by omega) (by omega))
  try dsimp only at w3 f3 ⊢
  generalize zset g2 w (.inr (4, [.ref (w + 1), .ref (w + 2), .int V.2.2.1, .int W.2.2.2])) = g3 at w3 f3 ⊢
  have v3 := hV.keep f3 (by omega)
  rw [zgI_eq v3.1 rfl, w3.put3]
  exact ⟨_, rfl, w3.cnt V.2.2.1 V.2.2.2, f3.tr (Fr.set _ (by omega) (by omega))⟩
/-- one of the past changed -/
theorem RP.put {h : zH} {d : Nat} {pv : Nat → Wr} {pg : Nat → Option Nat} {sg : Nat → Nat} {k : Nat} {W : Wr} {h' : zH} (h1 : h.2 (d + 7) = some (.inl (3, 8, .inr pg))) (h2 : ∀ k, k < 8 → sg k < 8 ∧ pg k = some (d + 10 + 3 * sg k) ∧ RW h (d + 10 + 3 * sg k) (pv k)) (h3 : ∀ j k, j < 8 → k < 8 → sg j = sg k → j = k) (hk : k < 8) (f : Fr h h' (d + 10 + 3 * sg k) (d + 10 + 3 * sg k + 3)) (hW : RW h' (d + 10 + 3 * sg k) W) : RP h' d (va_up pv k W) := by
  refine ⟨pg, sg, (f.2 _ (by omega)).trans h1, fun j hj => ?_, h3⟩
  obtain ⟨a, b, c⟩ := h2 j hj
  refine ⟨a, b, ?_⟩
  by_cases q : j = k
  · subst q
    show RW h' _ (va_up pv j W j)
    rw [show va_up pv j W j = W by simp [va_up]]
    exact hW
  · rw [show va_up pv k W j = pv j by simp [va_up, q]]
    have : sg j ≠ sg k := fun e => q (h3 j k hj hk e)
    exact c.keep f (by omega)
theorem RD.past {h h' : zH} {d lo hi : Nat} {D : Dl} {pv : Nat → Wr} (r : RD h d D) (f : Fr h h' lo hi) (hd : (d + 10 ≤ lo ∧ hi ≤ d + 34) ∨ (d + 7 ≤ lo ∧ hi ≤ d + 8)) (hP : RP h' d pv) : RD h' d (D.1, dW D, dPc D, pv, dNc D, dNt D, dMc D, dMk D) := by
  obtain ⟨h1, h2, h3, h4, h5, h6, h7, h8⟩ := r
  exact ⟨(f.2 _ (by omega)).trans h1, h2.keep f (by omega), h3.keep f (by omega), h4.keep f (by omega), h5.keep f (by omega), hP, h7.keep f (by omega), h8.keep f (by omega)⟩
theorem q_X1_keepPast_58 {h : zH} {d c : Nat} {D : Dl} (r : RD h d D) (hc : dPc D = nI c) (h8 : c < 8) : ∃ h', f_X1_keepPast_58 d h = rV h' ∧ RD h' d (D.1, dW D, nI (c + 1), va_up (dPv D) c (cpyW (dW D) (dPv D c)), dNc D, dNt D, dMc D, dMk D) ∧ Fr h h' d (d + 34) := by
  obtain ⟨S, W, pc, pv, nc, nt, mc, mk⟩ := D
  have hc : pc = nI c := hc
  subst hc
  obtain ⟨pg, sg, p1, p2, p3⟩ := r.2.2.2.2.2.1
  obtain ⟨s1, s2, s3⟩ := p2 c h8
  obtain ⟨g1, e1, w1, f1⟩ := q_X8_copyFrom s3 r.2.2.2.2.1 (by omega)
  have rp := RP.put p1 p2 p3 h8 f1 w1
  have r1 : RD g1 d (S, W, nI c, va_up pv c (cpyW W (pv c)), nc, nt, mc, mk) := r.past f1 (by omega) rp
  unfold f_X1_keepPast_58
  rw [zgR_eq r.1 rfl, zgI_eq r.1 rfl, zaR_eq c rfl p1 h8 (by decide) s2, zgR_eq r.1 rfl, zoc_eq s3.1, zcV_of e1, zgI_eq r1.1 rfl, nI_1, zpV_eq r1.1 (Nat.le_of_ble_eq_true rfl)]
  exact ⟨_, rfl, r1.obj (D2 := (S, W, nI (c + 1), va_up pv c (cpyW W (pv c)), nc, nt, mc, mk)) rfl rfl rfl rfl rfl, (f1.wide (by omega) (by omega)).tr (Fr.set _ (by omega) (by omega))⟩
