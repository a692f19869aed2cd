/-! THE PAST: when there are eight already; undo; a move for good, on the class's side -/
def shP {α : Type} (g : Nat → α) (q : Nat) : Nat → α := fun k => if k < q then g (k + 1) else g k
theorem shP_s {α : Type} (g : Nat → α) (q : Nat) : va_up (shP g q) q (g (q + 1)) = shP g (q + 1) := by
  funext k
  unfold va_up shP
  by_cases c : k = q
  · subst c; simp
  · by_cases c2 : k < q
    · simp [c, c2, show k < q + 1 by omega]
    · simp [c, c2, show ¬ k < q + 1 by omega]
theorem shP_0 {α : Type} (g : Nat → α) : shP g 0 = g := by
  funext k
  unfold shP
  rw [if_neg (by omega)]
theorem shP_ge {α : Type} (g : Nat → α) {q k : Nat} (h : q ≤ k) : shP g q k = g k := by
  unfold shP
  rw [if_neg (by omega)]
theorem shP_lt {α : Type} (g : Nat → α) {q k : Nat} (h : k < q) : shP g q k = g (k + 1) := by
  unfold shP
  rw [if_pos h]
def rot {α : Type} (g : Nat → α) : Nat → α := va_up (shP g 7) 7 (g 0)
theorem rot_lt {α : Type} (g : Nat → α) {k : Nat} (h : k < 7) : rot g k = g (k + 1) := by
  unfold rot va_up
  rw [if_neg (by omega), shP_lt g h]
theorem rot_7 {α : Type} (g : Nat → α) : rot g 7 = g 0 := by
  unfold rot va_up
  rw [if_pos rfl]
theorem q_X1_keepPast {h : zH} {d c : Nat} {D : Dl} (r : RD h d D) (hc : dPc D = nI c) (h8 : c ≤ 8) : ∃ h', f_X1_keepPast d h = rV h' ∧ RD h' d (D.1, dW D, (if c < 8 then nI (c + 1) else nI 8), (if c < 8 then va_up (dPv D) c (cpyW (dW D) (dPv D c)) else va_up (rot (dPv D)) 7 (cpyW (dW D) (rot (dPv D) 7))), dNc D, dNt D, dMc D, dMk D) ∧ Fr h h' d (d + 34) := by
  unfold f_X1_keepPast
  by_cases q : c < 8
  · rw [zgI_eq r.1 rfl, if_pos (show dPc D < 8 by rw [hc]; exact nI_lt (b := 8) q (by decide))]
    simp only [if_pos q]
    exact q_X1_keepPast_58 r hc q
  · have e8 : c = 8 := by omega
    rw [zgI_eq r.1 rfl, if_neg (show ¬ dPc D < 8 by rw [hc]; exact nI_nlt (b := 8) (by omega) (by omega))]
    simp only [if_neg q]
    obtain ⟨S, W, pc, pv, nc, nt, mc, mk⟩ := D
    obtain ⟨pg, sg, p1, p2, p3⟩ := r.2.2.2.2.2.1
    rw [zgR_eq r.1 rfl, zaR_eq (i := 0) 0 rfl p1 (by decide) (by decide) (p2 0 (by decide)).2.1]
    refine zloopE (fun f k g => f_X1_keepPast_18 f d (d + 10 + 3 * sg 0) (nI k) g) (fun k g => 1 ≤ k ∧ RDo g d (S, W, pc, pv, nc, nt, mc, mk) ∧ g.2 (d + 7) = some (.inl (3, 8, .inr (shP pg (k - 1)))) ∧ Fr h g (d + 7) (d + 8)) 8 (fun r => ∃ h', r = rV h' ∧ RD h' d (S, W, nI 8, va_up (rot pv) 7 (cpyW W (rot pv 7)), nc, nt, mc, mk) ∧ Fr h h' d (d + 34)) ?_ ?_ zF 1 h (by omega) (by show 8 < 20000 + 1; omega) ⟨Nat.le_refl _, r.1, by rw [show 1 - 1 = 0 from rfl, shP_0]; exact p1, Fr.rf⟩
    · intro f g ⟨_, gO, gP, gF⟩
      have w0 := (p2 0 (by decide)).2.2.keep gF (by omega)
      show ∃ h', f_X1_keepPast_18 (f + 1) d (d + 10 + 3 * sg 0) (nI 8) g = _ ∧ _
      rw [f_X1_keepPast_18, if_pos (show (8 : Int32) ≤ nI 8 from Int32.le_refl _), zgR_eq gO rfl, zsR_eq (i := 7) 7 rfl gP (by decide) (by decide) w0.1]
      have F2 := gF.tr (Fr.set (h := g) (a := d + 7) (lo := d + 7) (hi := d + 8) (.inl (3, 8, .inr (va_up (shP pg (8 - 1)) 7 (some (d + 10 + 3 * sg 0))))) (by omega) (by omega))
      have k2 : (zset g (d + 7) (.inl (3, 8, .inr (va_up (shP pg (8 - 1)) 7 (some (d + 10 + 3 * sg 0)))))).2 (d + 7) = _ := zset_at _ _ _
      generalize zset g (d + 7) (.inl (3, 8, .inr (va_up (shP pg (8 - 1)) 7 (some (d + 10 + 3 * sg 0))))) = g2 at F2 k2 ⊢
      have rp : RP g2 d (rot pv) := by
        refine ⟨_, fun k => if k < 7 then sg (k + 1) else sg 0, k2, fun k hk => ?_, fun j k hj hk e => ?_⟩
        · by_cases z : k < 7
          · obtain ⟨a, b, c⟩ := p2 (k + 1) (by omega)
            simp only [if_pos z]
            refine ⟨a, ?_, by rw [rot_lt _ z]; exact c.keep F2 (by omega)⟩
            unfold va_up
            rw [if_neg (by omega), shP_lt pg (show k < 8 - 1 by omega)]; exact b
          · obtain ⟨a, b, c⟩ := p2 0 (by omega)
            have : k = 7 := by omega
            subst this
            simp only [if_neg z]
            refine ⟨a, ?_, by rw [rot_7]; exact c.keep F2 (by omega)⟩
            unfold va_up
            rw [if_pos rfl]
        · simp only [] at e
          by_cases z1 : j < 7
          · by_cases z2 : k < 7
            · rw [if_pos z1, if_pos z2] at e
              have := p3 _ _ (by omega) (by omega) e; omega
            · rw [if_pos z1, if_neg z2] at e
              have := p3 _ _ (by omega) (by omega) e; omega
          · by_cases z2 : k < 7
            · rw [if_neg z1, if_pos z2] at e
              have := p3 _ _ (by omega) (by omega) e; omega
            · omega
      have r2 : RD g2 d (S, W, pc, rot pv, nc, nt, mc, mk) := r.past F2 (by omega) rp
      rw [zpV_eq r2.1 (Nat.le_of_ble_eq_true rfl)]
      have r3 := r2.obj (D2 := (S, W, nI 7, rot pv, nc, nt, mc, mk)) rfl rfl rfl rfl rfl
      have F3 := (F2.wide (lo2 := d) (hi2 := d + 34) (by omega) (by omega)).tr (Fr.set (h := g2) (a := d) (lo := d) (hi := d + 34) (rdE d (S, W, nI 7, rot pv, nc, nt, mc, mk)) (by omega) (by omega))
      obtain ⟨g4, e4, r4, f4⟩ := q_X1_keepPast_58 r3 rfl (by decide)
      exact ⟨g4, e4, r4, F3.tr f4⟩
    · intro f k g hk ⟨hk1, gO, gP, gF⟩
      obtain ⟨a, b, c⟩ := p2 k (by omega)
      have w0 := c.keep gF (by omega)
      refine ⟨zset g (d + 7) (.inl (3, 8, .inr (shP pg k))), ⟨by omega, (zset_ne _ (by omega)).trans gO, by rw [show k + 1 - 1 = k by omega]; exact zset_at _ _ _, gF.tr (Fr.set _ (by omega) (by omega))⟩, ?_⟩
      show f_X1_keepPast_18 (f + 1) d (d + 10 + 3 * sg 0) (nI k) g = f_X1_keepPast_18 f d (d + 10 + 3 * sg 0) (nI (k + 1)) _
      have e1 : nI k - 1 = nI (k - 1) := by rw [show k = (k - 1) + 1 by omega, nI_pred]; rfl
      rw [f_X1_keepPast_18, if_neg (show ¬ (8 : Int32) ≤ nI k from nI_ge (b := 8) hk (by decide)), zgR_eq gO rfl, zgR_eq gO rfl, zaR_eq k rfl gP hk (by decide) (by rw [shP_ge pg (by omega)]; exact b), zsR_eq (k - 1) e1 gP (by omega) (by decide) w0.1, nI_1, ← b]
      have := shP_s pg (k - 1)
      rw [show k - 1 + 1 = k by omega] at this
      rw [this]
theorem q_X1_bringBack {h : zH} {d c : Nat} {D : Dl} (r : RD h d D) (hc : dPc D = nI (c + 1)) (h8 : c < 8) : ∃ h', f_X1_bringBack d h = rV h' ∧ RD h' d (D.1, cpyW (dPv D c) (dW D), nI c, dPv D, dNc D, dNt D, dMc D, dMk D) ∧ Fr h h' d (d + 34) := by
  obtain ⟨S, W, pc, pv, nc, nt, mc, mk⟩ := D
  have hc : pc = nI (c + 1) := hc
  subst hc
  unfold f_X1_bringBack f_X1_bringBack_33
  rw [zgI_eq r.1 rfl, if_neg (show ¬ nI (c + 1) ≤ 0 from nI_nle (by omega) (by omega)), zgI_eq r.1 rfl, nI_pred, zpV_eq r.1 (Nat.le_of_ble_eq_true rfl)]
  have r1 := r.obj (D2 := (S, W, nI c, pv, nc, nt, mc, mk)) rfl rfl rfl rfl rfl
  have f1 : Fr h (zset h d (rdE d (S, W, nI c, pv, nc, nt, mc, mk))) d (d + 34) := Fr.set _ (by omega) (by omega)
  dsimp only [List.set, rdE] at r1 f1 ⊢
  generalize zset h d _ = g1 at r1 f1 ⊢
  obtain ⟨pg, sg, p1, p2, p3⟩ := r1.2.2.2.2.2.1
  obtain ⟨s1, s2, s3⟩ := p2 c h8
  obtain ⟨g2, e2, w2, f2⟩ := q_X8_copyFrom r1.2.2.2.2.1 s3 (by omega)
  rw [zgR_eq r1.1 rfl, zgR_eq r1.1 rfl, zgI_eq r1.1 rfl, zaR_eq c rfl p1 h8 (by decide) s2, zoc_eq r1.2.2.2.2.1.1, zcV_of e2]
  exact ⟨g2, rfl, r1.wear (f2.wide (by omega) (by omega)) w2, f1.tr (f2.wide (by omega) (by omega))⟩
/-- what the past is behind a move -/
abbrev pcN (c : Nat) : Int32 := if c < 8 then nI (c + 1) else nI 8
abbrev pvN (pv : Nat → Wr) (c : Nat) (W : Wr) : Nat → Wr := if c < 8 then va_up pv c (cpyW W (pv c)) else va_up (rot pv) 7 (cpyW W (rot pv 7))
theorem q_X1_moveForGood {h : zH} {d c i : Nat} {D : Dl} (r : RD h d D) (o : okD D) (hc : dPc D = nI c) (h8 : c ≤ 8) (hi : i < dn D) {what : Int32} (hw : what = 0 ∨ what = 1 ∨ what = 2) (hm : canMove D.1 (dW D) (wL (dW D)) what i = true) : ∃ h', f_X1_moveForGood d what (nI i) h = rV h' ∧ RD h' d (D.1, moveW (dW D) (wL (dW D)) what i, pcN c, pvN (dPv D) c (dW D), dNc D, dNt D, dMc D, dMk D) ∧ Fr h h' d (d + 34) := by
  obtain ⟨g1, e1, r1, f1⟩ := q_X1_keepPast r hc h8
  obtain ⟨g2, e2, w2, f2⟩ := q_X1_moveC r1.RS o.1 r1.2.2.2.2.1 o.2.1.1 hi hw (Or.inl hm)
  unfold f_X1_moveForGood
  rw [zoc_eq r.1, zcV_of e1, zgR_eq r1.1 rfl, zoc_eq r1.1, zcV_of e2]
  exact ⟨g2, rfl, r1.wear (f2.wide (by omega) (by omega)) w2, f1.tr (f2.wide (by omega) (by omega))⟩
