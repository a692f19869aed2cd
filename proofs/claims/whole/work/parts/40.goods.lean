/-! puts, takes, mends: moves for good -/
theorem okV.move {n i : Nat} {S : Sd} {W : Wr} (o : okV n W) (h8 : n ≤ 8) (hi : i < n) {what : Int32} (hw : what = 0 ∨ what = 1 ∨ what = 2) (hc : canMove S W (wL W) what i = true) {v : Nat} (hv : W.2.2.2 = nI v) (hv9 : v < 9999) : okV n (moveW W (wL W) what i) ∧ wL (moveW W (wL W) what i) = moveL (wL W) what := by
  have a := o.1.move h8 hi hw (Or.inl hc)
  have e : wL (moveW W (wL W) what i) = moveL (wL W) what := by
    show ix _ = _
    rw [a.1, ix_nI (by have := a.2.1; omega)]
  refine ⟨⟨by rw [e]; exact a, ?_, v + 1, by omega, ?_, ?_⟩, e⟩
  · intro j hj hj8
    rcases hw with rfl | rfl | rfl
    · show upd W.2.1 i _ j = 0
      rw [upd_ne _ _ (by omega)]; exact o.2.1 j hj hj8
    · obtain ⟨p, hp⟩ := canTake_at hc
      unfold moveW
      rw [if_neg n10, if_pos rfl, hp]
      exact o.2.1 j hj hj8
    · show upd W.2.1 i 0 j = 0
      rw [upd_ne _ _ (by omega)]; exact o.2.1 j hj hj8
  · rcases hw with rfl | rfl | rfl
    · show W.2.2.2 + 1 = _
      rw [hv, nI_1]
    · obtain ⟨p, hp⟩ := canTake_at hc
      unfold moveW
      rw [if_neg n10, if_pos rfl, hp]
      show W.2.2.2 + 1 = _
      rw [hv, nI_1]
    · show W.2.2.2 + 1 = _
      rw [hv, nI_1]
  · obtain ⟨v', hv9', hv', hw'⟩ := o.2.2
    have ev : v' = v := (nI_eq (by omega) (by omega)).mp (hv'.symm.trans hv)
    subst ev
    intro j hj
    obtain ⟨a1, a2, a3⟩ := hw' j hj
    rcases hw with rfl | rfl | rfl
    · show ∃ a, a ≤ v' + 1 ∧ upd W.2.1 i (W.2.1 i + 1) j = nI a
      by_cases z : j = i
      · subst z; exact ⟨a1 + 1, by omega, by rw [upd_self, a3, nI_1]⟩
      · exact ⟨a1, by omega, by rw [upd_ne _ _ z]; exact a3⟩
    · obtain ⟨p, hp⟩ := canTake_at hc
      unfold moveW
      rw [if_neg n10, if_pos rfl, hp]
      exact ⟨a1, by omega, a3⟩
    · show ∃ a, a ≤ v' + 1 ∧ upd W.2.1 i 0 j = nI a
      by_cases z : j = i
      · subst z; exact ⟨0, by omega, upd_self _ _ _⟩
      · exact ⟨a1, by omega, by rw [upd_ne _ _ z]; exact a3⟩
abbrev mvD (D : Dl) (c : Nat) (what : Int32) (i : Nat) : Dl := (D.1, moveW (dW D) (wL (dW D)) what i, pcN c, pvN (dPv D) c (dW D), dNc D, dNt D, dMc D, dMk D)
theorem okV.le {n : Nat} {W : Wr} (o : okV n W) (h8 : n ≤ 8) : wL W ≤ 8 := Nat.le_trans o.1.2.1 h8
theorem okD.mv {D : Dl} {c i v : Nat} {what : Int32} (o : okD D) (hc : dPc D = nI c) (h8 : c ≤ 8) (hi : i < dn D) (hw : what = 0 ∨ what = 1 ∨ what = 2) (hm : canMove D.1 (dW D) (wL (dW D)) what i = true) (hv : (dW D).2.2.2 = nI v) (hv9 : v < 9999) : okD (mvD D c what i) := by
  obtain ⟨o1, o2, ⟨c', q1, q2, q3⟩, o4, o5⟩ := o
  have ec : c' = c := by
    have : nI c' = nI c := q2.symm.trans hc
    exact (nI_eq (by omega) (by omega)).mp this
  subst ec
  refine ⟨o1, (o2.move o1.2.1 hi hw hm hv hv9).1, ?_, o4, o5⟩
  by_cases q : c' < 8
  · refine ⟨c' + 1, by omega, if_pos q, fun k hk => ?_⟩
    show okV (dn D) (pvN (dPv D) c' (dW D) k)
    unfold pvN
    rw [if_pos q]
    unfold va_up
    by_cases z : k = c'
    · rw [if_pos z]; exact o2.eq o1.2.1 (cpyW_eq _ _)
    · rw [if_neg z]; exact q3 k (by omega)
  · refine ⟨8, by omega, if_neg q, fun k hk => ?_⟩
    show okV (dn D) (pvN (dPv D) c' (dW D) k)
    unfold pvN
    rw [if_neg q]
    by_cases z : k = 7
    · unfold va_up
      rw [if_pos z]; exact o2.eq o1.2.1 (cpyW_eq _ _)
    · rw [show va_up (rot (dPv D)) 7 (cpyW (dW D) (rot (dPv D) 7)) k = rot (dPv D) k from if_neg z, rot_lt _ (by omega)]
      exact q3 (k + 1) (by omega)
theorem RowB.sh {bf bf2 : Nat → Int32} {b b2 n : Nat} {W : Wr} (r : RowB bf b n W) (h8 : n ≤ 8) (hL : wL W ≤ 8) (hk : ∀ j, j < 18 → bf2 (b2 + j) = bf (b + j)) : RowB bf2 b2 n W := by
  obtain ⟨a1, a2, a3, a4⟩ := r
  refine ⟨(hk 0 (by omega)).trans a1, (hk 1 (by omega)).trans a2, fun j hj => ?_, fun i hi => ?_⟩
  · rw [Nat.add_assoc, hk _ (by omega), ← Nat.add_assoc]; exact a3 j hj
  · rw [Nat.add_assoc, hk _ (by omega), ← Nat.add_assoc]; exact a4 i hi
theorem remR.row {bf0 bf nf : Nat → Int32} {c n : Nat} {W : Wr} (r : remR bf0 bf nf c 8) (w : RowW nf n (wL W) W) (h8 : n ≤ 8) (hL : wL W ≤ 8) : RowB bf (18 * c) n W := by
  obtain ⟨-, a1, a2, a3⟩ := r
  obtain ⟨w1, w2, w3, w4⟩ := w
  exact ⟨a1.trans w1, a2.trans w2, fun j hj => (a3 j (by omega)).1.trans (w3 j hj), fun i hi => (a3 i (by omega)).2.trans (w4 i hi)⟩
theorem RowD.mvB {bf bf' nf : Nat → Int32} {D : Dl} {c i : Nat} {what : Int32} (o : okD D) (r : RowD nf bf D) (hc : dPc D = nI c) (h8 : c ≤ 8) (rm : if c < 8 then remR bf bf' nf c 8 else remR (fun j => bf (18 + j)) bf' nf 7 8) : ∀ k, k < ix (dPc (mvD D c what i)) → RowB bf' (18 * k) (dn D) (pvN (dPv D) c (dW D) k) := by
  obtain ⟨o1, o2, ⟨c', q1, q2, q3⟩, o4, o5⟩ := o
  have ec : c' = c := by
    have : nI c' = nI c := q2.symm.trans hc
    exact (nI_eq (by omega) (by omega)).mp this
  subst ec
  have ei : ix (dPc D) = c' := by rw [q2, ix_nI (by omega)]
  obtain ⟨r1, r2, r3, r4⟩ := r
  rw [ei] at r4
  have n8 := o1.2.1
  have l8 := o2.le n8
  intro k hk
  by_cases q : c' < 8
  · rw [if_pos q] at rm
    have hk : k < c' + 1 := by
      have z : k < ix (pcN c') := hk
      unfold pcN at z
      rw [if_pos q, ix_nI (by omega)] at z; exact z
    unfold pvN
    rw [if_pos q]
    by_cases z : k = c'
    · rw [show va_up (dPv D) c' (cpyW (dW D) (dPv D c')) k = cpyW (dW D) (dPv D c') from if_pos z]
      subst z
      exact (rm.row r2 n8 l8).eqW n8 l8 (cpyW_eq _ _)
    · rw [show va_up (dPv D) c' (cpyW (dW D) (dPv D c')) k = dPv D k from if_neg z]
      exact (r4 k (by omega)).sh n8 ((q3 k (by omega)).le n8) (fun j hj => rm.1 _ (by omega))
  · rw [if_neg q] at rm
    have hk : k < 8 := by
      have z : k < ix (pcN c') := hk
      unfold pcN at z
      rw [if_neg q, ix_nI (by omega)] at z; exact z
    unfold pvN
    rw [if_neg q]
    by_cases z : k = 7
    · rw [show va_up (rot (dPv D)) 7 (cpyW (dW D) (rot (dPv D) 7)) k = cpyW (dW D) (rot (dPv D) 7) from if_pos z]
      subst z
      exact (rm.row r2 n8 l8).eqW n8 l8 (cpyW_eq _ _)
    · rw [show va_up (rot (dPv D)) 7 (cpyW (dW D) (rot (dPv D) 7)) k = rot (dPv D) k from if_neg z, rot_lt _ (by omega)]
      refine (r4 (k + 1) (by omega)).sh n8 ((q3 (k + 1) (by omega)).le n8) (fun j hj => ?_)
      have := rm.1 (18 * k + j) (by omega)
      rw [this]
      show bf (18 + (18 * k + j)) = _
      rw [show 18 + (18 * k + j) = 18 * (k + 1) + j by omega]
theorem q_X9_whyNoMove {h : zH} {x : Nat} {T : Tt} (r : RX h x T) (o : okT T) {what : Int32} (hw : what = 0 ∨ what = 1 ∨ what = 2) (a : Int32) : (sHas (tD T).1.2.1 a = false → f_X9_whyNoMove x what a h = rI (-102) h) ∧ ∀ i, i < dn (tD T) → a = nI i → f_X9_whyNoMove x what a h = rI (if (9999 : Int32) ≤ (dW (tD T)).2.2.2 ∨ canMove (tD T).1 (dW (tD T)) (wL (dW (tD T))) what i = false then -103 else 0) h := by
  unfold f_X9_whyNoMove f_X9_whyNoMove_49
  obtain ⟨en, hn⟩ := o.1.n
  constructor
  · intro e
    rw [zgR_eq r.1 rfl, zoc_eq r.2.1.1, zcI_of (q_X1_has r.2.1.RS a), e, if_pos (by decide)]
    rfl
  · intro i hi e
    subst e
    have eh : sHas (tD T).1.2.1 (nI i) = true := by rw [en]; exact (sHas_nI (by omega)).mpr ⟨i, hi, rfl⟩
    rw [zgR_eq r.1 rfl, zoc_eq r.2.1.1, zcI_of (q_X1_has r.2.1.RS _), eh, if_neg (by decide), zgR_eq r.1 rfl, zgR_eq r.2.1.1 rfl, zgI_eq r.2.1.2.2.2.2.1.1 rfl]
    by_cases c : (9999 : Int32) ≤ (dW (tD T)).2.2.2
    · rw [if_pos c, if_pos (Or.inl c)]; rfl
    · rw [if_neg c, zgR_eq r.1 rfl, zgR_eq r.1 rfl, zgR_eq r.2.1.1 rfl, zoc_eq r.2.1.1, zcI_of (q_X1_mayMove r.2.1.RS o.1.1 r.2.1.2.2.2.2.1 o.1.2.1.1 hi hw)]
      cases z : canMove (tD T).1 (dW (tD T)) (wL (dW (tD T))) what i with
      | false => rw [if_pos (by decide), if_pos (Or.inr rfl)]; rfl
      | true =>
        rw [if_neg (by decide), if_neg (by rintro (q | q); exact c q; exact absurd q (by decide))]; rfl
