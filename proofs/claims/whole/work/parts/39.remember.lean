/-! THE MODEL REMEMBERS -/
theorem NW.bst {h : zH} {m : Nat} {M : Mo} {nf sf bf : Nat → Int32} (r : NW h m M nf sf bf) (i : Int32) (j : Nat) (hi : i = nI j) (hj : j < 144) (x : Int32) {K : zH → zR} : zsI h (m + 3) 0 i x K = K (zset h (m + 3) (.inl (0, 144, .inl (upd bf j x)))) := zsI_x i j hi r.2.2.2 hj (by decide)
/-- a row of the past written: what it says -/
def remR (bf0 bf nf : Nat → Int32) (c q : Nat) : Prop := (∀ j, j < 18 * c → bf j = bf0 j) ∧ bf (18 * c) = nf 2 ∧ bf (18 * c + 1) = nf 3 ∧ ∀ k, k < q → bf (18 * c + 2 + k) = nf (4 + k) ∧ bf (18 * c + 10 + k) = nf (36 + k)
theorem q_X10_remember_48 {h : zH} {m c : Nat} {M : Mo} {nf sf bf : Nat → Int32} (r : NW h m M nf sf bf) (hc : M.1 = nI c) (h8 : c < 8) : ∃ h' bf', f_X10_remember_48 m h = rV h' ∧ NW h' m (nI (c + 1), M.2) nf sf bf' ∧ remR bf bf' nf c 8 ∧ Fr h h' m (m + 4) := by
  obtain ⟨um, M⟩ := M
  have hc : um = nI c := hc
  subst hc
  have e1 : 18 * nI c = nI (18 * c) := by rw [show (18 : Int32) = nI 18 from rfl, pk_mul]
  unfold f_X10_remember_48
  rw [zgI_eq r.1 rfl, zlt_eq, e1, zgR_eq r.1 rfl, r.ld 2 2 rfl (by decide), r.bst (nI (18 * c)) (18 * c) rfl (by omega)]
  obtain ⟨n1, f1⟩ := r.bef (upd bf (18 * c) (nf 2))
  generalize zset h (m + 3) (.inl (0, 144, .inl (upd bf (18 * c) (nf 2)))) = g1 at n1 f1 ⊢
  rw [zgR_eq n1.1 rfl, n1.ld 3 3 rfl (by decide), nI_1, n1.bst (nI (18 * c + 1)) (18 * c + 1) rfl (by omega)]
  obtain ⟨n2, f2⟩ := n1.bef (upd (upd bf (18 * c) (nf 2)) (18 * c + 1) (nf 3))
  generalize zset g1 (m + 3) (.inl (0, 144, .inl (upd (upd bf (18 * c) (nf 2)) (18 * c + 1) (nf 3)))) = g2 at n2 f2 ⊢
  refine zloopE (fun f k g => f_X10_remember_84 f m (nI (18 * c)) (nI k) g) (fun k g => ∃ bf', NW g m (nI c, M) nf sf bf' ∧ remR bf bf' nf c k ∧ Fr h g m (m + 4)) 8 (fun r => ∃ h' bf', r = rV h' ∧ NW h' m (nI (c + 1), M) nf sf bf' ∧ remR bf bf' nf c 8 ∧ Fr h h' m (m + 4)) ?_ ?_ zF 0 g2 (by omega) (by show 8 < 20000 + 0; omega) ⟨_, n2, ⟨fun j hj => by rw [upd_ne _ _ (by omega), upd_ne _ _ (by omega)], by rw [upd_ne _ _ (by omega), upd_self], upd_self _ _ _, fun k hk => absurd hk (Nat.not_lt_zero k)⟩, f1.tr f2⟩
  · intro f g ⟨bf', gN, gR, gF⟩
    show ∃ h' bf', f_X10_remember_84 (f + 1) m (nI (18 * c)) (nI 8) g = _ ∧ _
    rw [f_X10_remember_84, if_pos (show (8 : Int32) ≤ nI 8 from Int32.le_refl _), zgI_eq gN.1 rfl, nI_1, gN.um]
    obtain ⟨n3, f3⟩ := gN.obj (nI (c + 1), M)
    exact ⟨_, bf', rfl, n3, gR, gF.tr f3⟩
  · intro f k g hk ⟨bf', gN, ⟨p1, p2, p3, p4⟩, gF⟩
    have e2 : nI (18 * c) + 2 + nI k = nI (18 * c + 2 + k) := by rw [show nI (18 * c) + 2 = nI (18 * c + 2) from nI_add _ 2, nI_add]
    have e3 : nI (18 * c) + 10 + nI k = nI (18 * c + 10 + k) := by rw [show nI (18 * c) + 10 = nI (18 * c + 10) from nI_add _ 10, nI_add]
    obtain ⟨n3, f3⟩ := gN.bef (upd bf' (18 * c + 2 + k) (nf (4 + k)))
    obtain ⟨n4, f4⟩ := n3.bef (upd (upd bf' (18 * c + 2 + k) (nf (4 + k))) (18 * c + 10 + k) (nf (36 + k)))
    refine ⟨_, ⟨_, n4, ⟨fun j hj => ?_, ?_, ?_, fun q hq => ?_⟩, (gF.tr f3).tr f4⟩, ?_⟩
    · rw [upd_ne _ _ (by omega), upd_ne _ _ (by omega)]; exact p1 j hj
    · rw [upd_ne _ _ (by omega), upd_ne _ _ (by omega)]; exact p2
    · rw [upd_ne _ _ (by omega), upd_ne _ _ (by omega)]; exact p3
    · by_cases z : q = k
      · subst z
        rw [upd_ne _ _ (show 18 * c + 2 + q ≠ 18 * c + 10 + q by omega), upd_self, upd_self]
        exact ⟨rfl, rfl⟩
      · rw [upd_ne _ _ (show 18 * c + 2 + q ≠ 18 * c + 10 + k by omega), upd_ne _ _ (show 18 * c + 2 + q ≠ 18 * c + 2 + k by omega), upd_ne _ _ (show 18 * c + 10 + q ≠ 18 * c + 10 + k by omega), upd_ne _ _ (show 18 * c + 10 + q ≠ 18 * c + 2 + k by omega)]
        exact p4 q (by omega)
    · show f_X10_remember_84 (f + 1) m (nI (18 * c)) (nI k) g = f_X10_remember_84 f m (nI (18 * c)) (nI (k + 1)) _
      rw [f_X10_remember_84, if_neg (show ¬ (8 : Int32) ≤ nI k from nI_ge (b := 8) hk (by decide)), zgR_eq gN.1 rfl, gN.ld (4 + nI k) (4 + k) (nI_add 4 k) (by omega), gN.bst (nI (18 * c) + 2 + nI k) (18 * c + 2 + k) e2 (by omega), zgR_eq n3.1 rfl, n3.ld (36 + nI k) (36 + k) (nI_add 36 k) (by omega), n3.bst (nI (18 * c) + 10 + nI k) (18 * c + 10 + k) e3 (by omega), nI_1]
theorem q_X10_remember {h : zH} {m c : Nat} {M : Mo} {nf sf bf : Nat → Int32} (r : NW h m M nf sf bf) (hc : M.1 = nI c) (h8 : c ≤ 8) : ∃ h' bf', f_X10_remember m h = rV h' ∧ NW h' m (pcN c, M.2) nf sf bf' ∧ (if c < 8 then remR bf bf' nf c 8 else remR (fun j => bf (18 + j)) bf' nf 7 8) ∧ Fr h h' m (m + 4) := by
  unfold f_X10_remember
  by_cases q : c < 8
  · rw [zgI_eq r.1 rfl, hc, if_neg (show ¬ nI c = 8 from fun z => by have := (nI_eq (b := 8) (by omega) (by decide)).mp z; omega)]
    simp only [if_pos q, pcN]
    exact q_X10_remember_48 r hc q
  · have e8 : c = 8 := by omega
    subst e8
    obtain ⟨um, M⟩ := M
    have hc : um = nI 8 := hc
    subst hc
    rw [zgI_eq r.1 rfl, if_pos (show nI 8 = 8 from rfl)]
    simp only [if_neg q, pcN]
    refine zloopE (fun f k g => f_X10_remember_11 f m (nI k) g) (fun k g => NW g m (nI 8, M) nf sf (fun j => if j < k then bf (18 + j) else bf j) ∧ Fr h g m (m + 4)) 126 (fun r => ∃ h' bf', r = rV h' ∧ NW h' m (nI 8, M) nf sf bf' ∧ remR (fun j => bf (18 + j)) bf' nf 7 8 ∧ Fr h h' m (m + 4)) ?_ ?_ zF 0 h (by omega) (by show 126 < 20000 + 0; omega) ⟨by simpa using r, Fr.rf⟩
    · intro f g ⟨gN, gF⟩
      show ∃ h' bf', f_X10_remember_11 (f + 1) m (nI 126) g = _ ∧ _
      rw [f_X10_remember_11, if_pos (show (126 : Int32) ≤ nI 126 from Int32.le_refl _), zgI_eq gN.1 rfl, show nI 8 - 1 = nI 7 from nI_pred 7, gN.um]
      obtain ⟨n1, f1⟩ := gN.obj (nI 7, M)
      obtain ⟨g2, bf2, e2, n2, p2, f2⟩ := q_X10_remember_48 n1 rfl (by decide)
      obtain ⟨q1, q2⟩ := p2
      exact ⟨g2, bf2, e2, n2, ⟨fun j hj => by rw [q1 j hj]; show (if j < 126 then bf (18 + j) else bf j) = bf (18 + j); rw [if_pos (by omega)], q2⟩, (gF.tr f1).tr f2⟩
    · intro f k g hk ⟨gN, gF⟩
      obtain ⟨n1, f1⟩ := gN.bef (fun j => if j < k + 1 then bf (18 + j) else bf j)
      refine ⟨_, ⟨n1, gF.tr f1⟩, ?_⟩
      show f_X10_remember_11 (f + 1) m (nI k) g = f_X10_remember_11 f m (nI (k + 1)) _
      rw [f_X10_remember_11, if_neg (show ¬ (126 : Int32) ≤ nI k from nI_ge (b := 126) hk (by decide)), zgR_eq gN.1 rfl, zgR_eq gN.1 rfl, zaI_x (18 + nI k) (18 + k) (nI_add 18 k) gN.2.2.2 (by omega) (by decide), gN.bst (nI k) k rfl (by omega), nI_1]
      have e : upd (fun j => if j < k then bf (18 + j) else bf j) k (if 18 + k < k then bf (18 + (18 + k)) else bf (18 + k)) = fun j => if j < k + 1 then bf (18 + j) else bf j := by
        funext j
        rw [if_neg (by omega)]
        unfold upd
        by_cases z : j = k
        · subst z; simp
        · by_cases z2 : j < k
          · simp [z, z2, show j < k + 1 by omega]
          · simp [z, z2, show ¬ j < k + 1 by omega]
      rw [e]
