/-! few: both sides -/
theorem FS.toFr {h g : zH} {x : Nat} (f : FS h g x 0) : Fr h g (x + 79) (x + 90) := ⟨f.1, fun a ha => f.2 a (by omega) (by omega)⟩
theorem RX.ms {h h' : zH} {x : Nat} {T : Tt} {rf : Nat → Int32} (r : RX h x T) (fs : FS h h' x 0) (ms : MSs h' x 0 rf) : RX h' x T := by
  have f := fs.toFr
  obtain ⟨a, b, c, d, ⟨g, e1, e2⟩, ⟨g2, f1, f2⟩, ⟨g3, i1, i2⟩, ⟨⟨D, s1⟩, ⟨W0, s2⟩, ⟨y, a1, b1, c1, d1, e3, s3⟩, ⟨g4, c2, s4, s5⟩, s6, ⟨k, s7⟩, ⟨gg, s8, s9⟩, s10⟩⟩ := r
  obtain ⟨m1, m2, m3, m4⟩ := ms
  exact ⟨(f.2 _ (by omega)).trans a, b.keep f (by omega), c.keep f (by omega), d.keep f (by omega), ⟨g, (f.2 _ (by omega)).trans e1, e2⟩, ⟨g2, (f.2 _ (by omega)).trans f1, f2⟩, ⟨g3, (f.2 _ (by omega)).trans i1, i2⟩, ⟨D, s1.keep f (by omega)⟩, ⟨W0, s2.keep f (by omega)⟩, ⟨y, a1, b1, c1, d1, e3, (f.2 _ (by omega)).trans s3⟩, ⟨g4, c2, (f.2 _ (by omega)).trans s4, s5.keep f (by omega)⟩, m1, ⟨rf, m2⟩, m3, fun i hi => m4 i hi (Nat.zero_le _)⟩
def fewI (T : Tt) : Int32 := match fstN (fewP T) 4 with
  | some i => nI i
  | none => -101
theorem q_fewest_15 {h : zH} {x : Nat} {T : Tt} (r : RX h x T) (o : okT T) : ∀ (e j fuel : Nat) (g : zH) (rg : Nat → Int32), 1 ≤ j → j + e = 4 → e < fuel → (∀ i, i < j → fewP T i = false) → FS h g x 0 → MSs g x 0 rg → ∃ h' rf', f_X4_fewest_15 fuel (x + 78) (x + 1) (nI j) g = rI (fewI T) h' ∧ FS h h' x 0 ∧ MSs h' x 0 rf' ∧ ∀ i c, fstN (fewP T) 4 = some i → fstN (okRow (tD T).1 (dn (tD T)) i (dW (tD T))) ((3 * dn (tD T)) ^ i) = some c → ∀ t, t < i → rf' t = dig (dn (tD T)) i c t := by
  have ow := o.1.2.1.1
  intro e
  induction e with
  | zero =>
    intro j fuel g rg hj1 hj hf hp F ms
    obtain ⟨fuel, rfl⟩ : ∃ f', fuel = f' + 1 := ⟨fuel - 1, by omega⟩
    have ej : j = 4 := by omega
    subst ej
    have nn := fstN_none.mpr hp
    refine ⟨g, rg, ?_, F, ms, fun i c e1 => by rw [nn] at e1; cases e1⟩
    unfold fewI
    rw [nn, f_X4_fewest_15, if_pos (by decide)]; rfl
  | succ e ih =>
    intro j fuel g rg hj1 hj hf hp F ms
    obtain ⟨fuel, rfl⟩ : ∃ f', fuel = f' + 1 := ⟨fuel - 1, by omega⟩
    obtain ⟨m, rfl⟩ : ∃ m, j = m + 1 := ⟨j - 1, by omega⟩
    have rg_ := r.ms F ms
    have nosh : ∀ c, c < (3 * dn (tD T)) ^ m → okRow (tD T).1 (dn (tD T)) m (dW (tD T)) c = false := by
      have := hp m (by omega)
      unfold fewP at this
      cases q : fstN (okRow (tD T).1 (dn (tD T)) m (dW (tD T))) ((3 * dn (tD T)) ^ m) with
      | some c => rw [q] at this; cases this
      | none => exact fstN_none.mp q
    obtain ⟨g1, rf1, d1, d2, d3, d4, d5⟩ := q_dresses (x := x) o.1.1 m 5 0 (x + 1 + 4) g (dW (tD T)) rg (by omega) (by omega) (by omega) (by omega) ms rg_.2.1.RS rg_.2.1.2.2.2.2.1 ow nosh
    rw [Nat.zero_add] at d1
    rw [f_X4_fewest_15, if_neg (show ¬ (3 : Int32) < nI (m + 1) from nI_nlt (a := 3) (by omega) (by omega)), zgR_eq rg_.2.1.1 rfl, zoc_eq ms.1, zcI_of (show f_X4_dresses 5 (x + 78) (x + 1) (x + 1 + 4) 0 (nI (m + 1)) g = _ from d1)]
    cases q : fstN (okRow (tD T).1 (dn (tD T)) (m + 1) (dW (tD T))) ((3 * dn (tD T)) ^ (m + 1)) with
    | none =>
      rw [show b2i (none : Option Nat).isSome = 0 from rfl, if_pos rfl, nI_1]
      exact ih (m + 1 + 1) fuel g1 rf1 (by omega) (by omega) (by omega) (fun i hi => by
        by_cases z : i = m + 1
        · rw [z]; unfold fewP; rw [q]; rfl
        · exact hp i (by omega)) (F.tr d5) d2
    | some c =>
      have full : fstN (fewP T) 4 = some (m + 1) := fstN_some.mpr ⟨by omega, by unfold fewP; rw [q]; rfl, hp⟩
      rw [show b2i (some c : Option Nat).isSome = 1 from rfl, if_neg (by decide)]
      refine ⟨g1, rf1, ?_, F.tr d5, d2, fun i c' e1 e2 t ht => ?_⟩
      · unfold fewI
        rw [full]; rfl
      · rw [full] at e1
        cases e1
        have := d4 c' e2 t ht
        rw [Nat.zero_add] at this
        exact this
theorem fewP_0 (T : Tt) : fewP T 0 = dressed (tD T).1 (dW (tD T)) (wL (dW (tD T))) := by
  unfold fewP
  rw [Nat.pow_zero]
  cases q : dressed (tD T).1 (dW (tD T)) (wL (dW (tD T))) with
  | true => rw [fstN_some.mpr (show 0 < 1 ∧ okRow (tD T).1 (dn (tD T)) 0 (dW (tD T)) 0 = true ∧ _ from ⟨by omega, q, fun j hj => absurd hj (Nat.not_lt_zero j)⟩)]; rfl
  | false => rw [fstN_none.mpr (fun k _ => (show okRow (tD T).1 (dn (tD T)) 0 (dW (tD T)) k = false from q))]; rfl
theorem q_fewest {h : zH} {x : Nat} {T : Tt} (r : RX h x T) (o : okT T) : ∃ h' rf', f_X4_fewest (x + 78) (x + 1) h = rI (fewI T) h' ∧ FS h h' x 0 ∧ MSs h' x 0 rf' ∧ ∀ i c, fstN (fewP T) 4 = some i → fstN (okRow (tD T).1 (dn (tD T)) i (dW (tD T))) ((3 * dn (tD T)) ^ i) = some c → ∀ t, t < i → rf' t = dig (dn (tD T)) i c t := by
  obtain ⟨a, b, c, d, e_, f_, g_, ⟨s1, s2, s3, s4, s6, ⟨k, s7⟩, s8, s10⟩⟩ := id r
  have ms : MSs h x 0 k := ⟨s6, s7, s8, fun i hi _ => s10 i hi⟩
  unfold f_X4_fewest
  rw [zgR_eq b.1 rfl, zoc_eq b.1, zcI_of (q_X1_isDressedC b.RS o.1.1 b.2.2.2.2.1 o.1.2.1.1), ← fewP_0 T]
  cases q : fewP T 0 with
  | true =>
    have full : fstN (fewP T) 4 = some 0 := fstN_some.mpr ⟨by omega, q, fun j hj => absurd hj (Nat.not_lt_zero j)⟩
    rw [if_neg (by decide)]
    refine ⟨h, k, ?_, FS.rf, ms, fun i c e1 _ t ht => ?_⟩
    · unfold fewI
      rw [full]; rfl
    · rw [full] at e1
      cases e1
      exact absurd ht (Nat.not_lt_zero t)
  | false =>
    rw [if_pos (by decide)]
    exact q_fewest_15 r o 3 1 zF h k (Nat.le_refl _) (by omega) (by show 3 < 20000; omega) (fun i hi => by
      have : i = 0 := by omega
      rw [this]; exact q) FS.rf ms
theorem op_few (v : Int32) : Both (fun x => f_X9_few x v) (fun m => f_X10_few m v) := by
  refine Both.of2 (fun T o => ?_)
  by_cases hv : -1 ≤ v
  · refine ⟨.int (fewA T v), T, o, ?_, ?_⟩
    · intro h x r
      obtain ⟨h1, rf1, e1, F1, m1, d1⟩ := q_fewest r o
      have r1 := r.ms F1 m1
      obtain ⟨x0, x1, x2, x3, x4, x5, x6, ⟨sd, sw, sr, sx, s6, srest⟩⟩ := id r
      refine ⟨h1, ?_, r1, F1.toFr.wide (by omega) (by omega)⟩
      show f_X9_few x v h = _
      unfold f_X9_few f_X9_few_59
      rw [if_pos hv, zgR_eq r.1 rfl, zgR_eq r.1 rfl, zoc_eq s6, zcI_of e1]
      unfold fewI fewA
      cases q : fstN (fewP T) 4 with
      | none => rw [if_pos rfl]; rfl
      | some i =>
        have hi := fstN_some.mp q
        have hp := hi.2.1
        unfold fewP at hp
        cases q2 : fstN (okRow (tD T).1 (dn (tD T)) i (dW (tD T))) ((3 * dn (tD T)) ^ i) with
        | none => rw [q2] at hp; cases hp
        | some c =>
          show (if nI i = -101 then _ else _) = rI (match fstN (okRow (tD T).1 (dn (tD T)) i (dW (tD T))) ((3 * dn (tD T)) ^ i) with
            | some code => ansM (dn (tD T)) i code v
            | none => -6) h1
          rw [q2, if_neg (m101 (by omega))]
          show _ = rI (ansM (dn (tD T)) i c v) h1
          unfold ansM
          by_cases z : v = -1
          · rw [if_pos z, if_neg (show ¬ 0 ≤ v by rw [z]; decide)]; rfl
          · have h0 := neg1 hv z
            obtain ⟨k, hk, ek⟩ := nI_of (Int32.not_lt.mpr h0)
            subst ek
            rw [if_neg z, if_pos h0]
            by_cases y : nI i ≤ nI k
            · rw [if_pos y, if_pos y]; rfl
            · have hki : k < i := by
                rcases Nat.lt_or_ge k i with w | w
                · exact w
                · exact absurd (nI_le w hk) y
              rw [if_neg y, if_neg y, zgR_eq r1.1 rfl, zgR_eq m1.1 rfl, zaI_nI m1.2.1 (by omega) (by decide), d1 i c q q2 k hki, ix_nI hk]; rfl
    · intro h m r
      obtain ⟨g', r', f', e'⟩ := q_few_14 (m := m) (v := v) o 4 0 zF h (by omega) (by show 4 < 20000; omega) (fun k hk => absurd hk (Nat.not_lt_zero k)) r
      refine ⟨g', ?_, r', f'⟩
      show f_X10_few m v h = _
      unfold f_X10_few
      rw [if_pos hv]
      exact e'
  · refine of2Bad o ?_ ?_
    · intro h x r h1 e1
      show f_X9_few x v h = _
      unfold f_X9_few
      rw [if_neg hv, zoc_eq r.1, zcI_of e1]
      rfl
    · intro h m r h1 e1
      obtain ⟨M, nf, n0, n1, n2, n3, n4⟩ := r.now
      show f_X10_few m v h = _
      unfold f_X10_few
      rw [if_neg hv, zoc_eq n0, zcI_of e1]
      rfl
