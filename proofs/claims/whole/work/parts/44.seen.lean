/-! seen -/
def seenF (S : Sd) (on : Nat → Int32) (p : Nat) : Nat → Int32
  | 0 => -101
  | k + 1 => if hb (sCov (S.2.2.1 (ix (on k)))) p then on k else seenF S on p k
theorem addm1 (x : Int32) : x + (-1) = x - 1 := by
  first
  | exact (Int32.sub_eq_add_neg x 1).symm
  | (rw [Int32.sub_eq_add_neg]; done)
  | (rw [sub_eq_add_neg]; done)
theorem hb_iff (s : Int32) (p : Nat) : ((s >>> (nI p &&& 31)) &&& 1) = 1 ↔ hb s p = true := by
  unfold hb
  rw [beq_iff_eq]
theorem q_X9_seen_31 {h : zH} {x p : Nat} {T : Tt} (r : RX h x T) (o : okT T) : ∀ (k f : Nat), k ≤ wL (dW (tD T)) → k < f → f_X9_seen_31 f x (nI p) (x + 1 + 4) (nI k - 1) h = rI (seenF (tD T).1 (dW (tD T)).1 p k) h
  | 0, 0, _, hf => absurd hf (by omega)
  | 0, f + 1, _, _ => by
    rw [f_X9_seen_31, if_pos (by decide)]; rfl
  | k + 1, 0, _, hf => absurd hf (by omega)
  | k + 1, f + 1, hk, hf => by
    have n8 : dn (tD T) ≤ 8 := o.1.1.2.1
    have l8 := o.1.2.1.le n8
    obtain ⟨j1, j2⟩ := o.1.2.1.1.ixx n8 (k := k) (by omega)
    rw [nI_pred, f_X9_seen_31, if_neg (nI_pos (by omega)), zgR_eq r.1 rfl, zgR_eq r.2.1.2.2.2.2.1.1 rfl, zaI_x (nI k) k rfl r.2.1.2.2.2.2.1.2.1 (by omega) (by decide), zoc_eq r.2.1.1, j2, zcI_of (q_X1_spotsOf r.2.1.RS o.1.1 j1), addm1, q_X9_seen_31 r o k f (by omega) (by omega)]
    show _ = rI (if hb (sCov ((tD T).1.2.2.1 (ix ((dW (tD T)).1 k)))) p then (dW (tD T)).1 k else seenF (tD T).1 (dW (tD T)).1 p k) h
    cases q : hb (sCov ((tD T).1.2.2.1 (ix ((dW (tD T)).1 k)))) p with
    | true =>
      rw [if_pos ((hb_iff _ _).mpr q), zgR_eq r.2.1.2.2.2.2.1.1 rfl, zaI_x (nI k) k rfl r.2.1.2.2.2.2.1.2.1 (by omega) (by decide)]
      rfl
    | false =>
      rw [if_neg (fun z => by rw [(hb_iff _ _).mp z] at q; exact absurd q (by decide))]
      rfl
theorem op_seen (a : Int32) : Both (fun x => f_X9_seen x a) (fun m => f_X10_seen m a) := by
  refine Both.of2 (fun T o => ?_)
  obtain ⟨en, hn⟩ := o.1.n
  cases hh : rng 0 3 a with
  | false =>
    refine of2Bad o ?_ ?_
    · intro h x r h1 e1
      show f_X9_seen x a h = _
      unfold f_X9_seen
      rw [zcI_of (q_X9_in _ _ _ h), hh, if_pos (by decide), zoc_eq r.1, zcI_of e1]
      rfl
    · intro h m r h1 e1
      obtain ⟨M, nf, n0, n1, n2, n3, n4⟩ := r.now
      show f_X10_seen m a h = _
      unfold f_X10_seen
      rw [zcI_of (q_X10_inn a 0 3 (A := 0) (B := 3) (by decide) (by decide) h), hh, if_pos (by decide), zoc_eq n0, zcI_of e1]
      rfl
  | true =>
    obtain ⟨p, hp, ea⟩ := (rng_0 (b := 3) (x := a) (n := 3) rfl (by decide)).mp hh
    subst ea
    have ow := o.1.2.1.1
    have l8 := o.1.2.1.le hn
    refine ⟨.int (seenF (tD T).1 (dW (tD T)).1 p (wL (dW (tD T)))), T, o, ?_, ?_⟩
    · intro h x r
      refine ⟨h, ?_, r, Fr.rf⟩
      show f_X9_seen x (nI p) h = _
      unfold f_X9_seen
      rw [zcI_of (q_X9_in _ _ _ h), hh, if_neg (by decide), zgR_eq r.1 rfl, zgR_eq r.2.1.1 rfl, zgI_eq r.2.1.2.2.2.2.1.1 rfl, zlt_eq, ow.1]
      exact q_X9_seen_31 r o _ _ (Nat.le_refl _) (by show wL (dW (tD T)) < 20000; omega)
    · intro h m r
      obtain ⟨M, nf, n0, n1, n2, n3, n4⟩ := r.now
      refine ⟨h, ?_, r, Fr.rf⟩
      show f_X10_seen m (nI p) h = _
      unfold f_X10_seen
      rw [zcI_of (q_X10_inn (nI p) 0 3 (A := 0) (B := 3) (by decide) (by decide) h), hh, if_neg (by decide)]
      refine zloop (fun f k (z : Int32) => f_X10_seen_22 f m (nI p) z (nI k) h) (fun k => seenF (tD T).1 (dW (tD T)).1 p k) (wL (dW (tD T))) _ ?_ ?_ zF 0 (by omega) (by show wL (dW (tD T)) < 20000 + 0; omega)
      · intro f
        rw [f_X10_seen_22, zgR_eq n0 rfl, zaI_x 3 3 rfl n1 (by decide) (by decide), n3.2.1, ow.1, if_pos (Int32.le_refl _)]; rfl
      · intro f k hk
        obtain ⟨j1, j2⟩ := ow.ixx hn hk
        have e12 : 12 + (dW (tD T)).1 k = nI (12 + ix ((dW (tD T)).1 k)) := by rw [j2, ix_nI (by omega)]; exact nI_add 12 _
        rw [f_X10_seen_22, zgR_eq n0 rfl, zaI_x 3 3 rfl n1 (by decide) (by decide), n3.2.1, ow.1, if_neg (nI_ge hk (by omega)), zgR_eq n0 rfl, zaI_x (4 + nI k) (4 + k) (nI_add 4 k) n1 (by omega) (by decide), n3.2.2.1 k hk, zgR_eq n0 rfl, zaI_x (12 + (dW (tD T)).1 k) (12 + ix ((dW (tD T)).1 k)) e12 n1 (by omega) (by decide), (n2.2.2 _ j1).1, zcI_of (q_X10_covers _ h), zcI_of (q_X10_has _ p h)]
        unfold f_X10_seen_68
        rw [nI_1]
        show _ = f_X10_seen_22 f m (nI p) (if hb (sCov ((tD T).1.2.2.1 (ix ((dW (tD T)).1 k)))) p then (dW (tD T)).1 k else seenF (tD T).1 (dW (tD T)).1 p k) (nI (k + 1)) h
        cases hb (sCov ((tD T).1.2.2.1 (ix ((dW (tD T)).1 k)))) p
        · rw [if_pos (by decide)]; rfl
        · rw [if_neg (by decide)]; rfl
