/-! is, kinds -/
def fitK (nt : Nat → Int32) (k q : Nat) : Bool := decide (sGo (nI k) (nt (3 * q)) (nt (3 * q + 1)) = decide (nt (3 * q + 2) = 1))
def fitN (D : Dl) (k : Nat) : Bool := allN (fitK (dNt D) k) (ix (dNc D))
theorem kOk_nI {k : Nat} (h : k < 6) : kOk (nI k) := ⟨k, h, rfl⟩
theorem b2i_eq {a b : Bool} : b2i a = b2i b ↔ a = b := by cases a <;> cases b <;> decide
theorem q_X3_fitsNotes {h : zH} {d k : Nat} {D : Dl} (r : RD h d D) (o : okD D) (hk : k < 6) : f_X3_fitsNotes d (nI k) h = rB (fitN D k) h := by
  obtain ⟨c, hc, ec⟩ := o.2.2.2.1
  have ei : ix (dNc D) = c := by rw [ec, ix_nI (by omega)]
  unfold fitN
  rw [ei]
  have x3 : ∀ q, nI q * 3 = nI (3 * q) := fun q => by rw [show (3 : Int32) = nI 3 from rfl, pk_mul, Nat.mul_comm]
  have x2 : ∀ q, nI (3 * q) + 2 = nI (3 * q + 2) := fun q => nI_add _ 2
  have body : ∀ n q, q < c → f_X3_fitsNotes_2 (n + 1) d (nI k) (nI q) h = if fitK (dNt D) k q then f_X3_fitsNotes_2 n d (nI k) (nI (q + 1)) h else rB false h := by
    intro n q hq
    rw [f_X3_fitsNotes_2, zgI_eq r.1 rfl, ec, if_neg (nI_ge hq (by omega)), zlt_eq, x3, zgR_eq r.1 rfl, x2, zaI_nI r.2.2.2.2.2.2.1 (by omega) (by decide)]
    have key : ∀ w : Bool, f_X3_fitsNotes_31 (f_X3_fitsNotes_2 n) d (nI k) (nI q) (nI (3 * q)) (b2i w) h = if decide (sGo (nI k) (dNt D (3 * q)) (dNt D (3 * q + 1)) = w) then f_X3_fitsNotes_2 n d (nI k) (nI (q + 1)) h else rB false h := by
      intro w
      unfold f_X3_fitsNotes_31
      rw [zgR_eq r.1 rfl, zaI_nI r.2.2.2.2.2.2.1 (by omega) (by decide), zgR_eq r.1 rfl, nI_1, zaI_nI r.2.2.2.2.2.2.1 (by omega) (by decide), zcI_of (q_X6_allows (kOk_nI hk) _ _ h), nI_1, zrZ_0]
      by_cases z : sGo (nI k) (dNt D (3 * q)) (dNt D (3 * q + 1)) = w
      · rw [if_pos (b2i_eq.mpr z), if_pos (decide_eq_true z)]
      · rw [if_neg (fun y => z (b2i_eq.mp y)), if_neg (by simpa using z)]
    unfold fitK
    by_cases z : dNt D (3 * q + 2) = 1
    · rw [if_pos z, decide_eq_true z]; exact key true
    · rw [if_neg z, decide_eq_false z]; exact key false
  refine (zloopA (fun n q (_ : Unit) => f_X3_fitsNotes_2 n d (nI k) (nI q) h) (fun _ => ()) c (fitK (dNt D) k) (rB true h) (rB false h) ?_ ?_ ?_ zF (by show c < 20000; omega)).trans ?_
  · intro n
    rw [f_X3_fitsNotes_2, zgI_eq r.1 rfl, ec, if_pos (Int32.le_refl _), zrZ_1]
  · intro n q hq hp
    rw [body n q hq, hp, if_pos rfl]
  · intro n q hq hp
    rw [body n q hq, hp, if_neg (by decide)]
  · cases allN (fitK (dNt D) k) c <;> rfl
theorem q_X3_childKinds {h : zH} {d : Nat} {D : Dl} (r : RD h d D) (o : okD D) : f_X3_childKinds d h = rI (mkI (fitN D) 6) h := by
  refine zloop (fun n k s => f_X3_childKinds_4 n d s (nI k) h) (mkI (fitN D)) 6 _ ?_ ?_ zF 0 (Nat.zero_le _) (zF_gt (by omega))
  · intro n
    rw [f_X3_childKinds_4, if_pos (show (6 : Int32) ≤ nI 6 from Int32.le_refl _)]; rfl
  · intro n k hk
    rw [f_X3_childKinds_4, if_neg (show ¬ (6 : Int32) ≤ nI k from nI_ge (b := 6) hk (by decide)), zcI_of (q_X3_fitsNotes r o hk)]
    unfold f_X3_childKinds_24
    rw [mkI, nI_1, zlt_eq]
    cases fitN D k
    · rw [if_pos (by decide)]; rfl
    · rw [if_neg (by decide)]; rfl
theorem orIf2 {α : Type} (F : Int32 → α) (b : Bool) (a s : Int32) : (if b2i b = 0 then F (a ||| 0) else F (a ||| s)) = F (if b then a ||| s else a) := orIf F b a s
theorem q_X10_is {h : zH} {m : Nat} {T : Tt} (r : RM h m T) (o : okT T) : f_X10_is m h = rI (mkI (fitN (tD T)) 6) h := by
  obtain ⟨M, nf, n0, n1, n2, n3, b1, b2, b3, b4⟩ := r.now
  obtain ⟨c, hc, ec⟩ := o.1.2.2.2.1
  have ei : ix (dNc (tD T)) = c := by rw [ec, ix_nI (by omega)]
  rw [ei] at b2
  have x3 : ∀ q, 45 + 3 * nI q = nI (45 + 3 * q) := fun q => by rw [show (3 : Int32) = nI 3 from rfl, pk_mul]; exact nI_add 45 _
  have x2 : ∀ q, nI (45 + 3 * q) + 2 = nI (45 + 3 * q + 2) := fun q => nI_add _ 2
  refine zloop (fun n k s => f_X10_is_4 n m s (nI k) h) (mkI (fitN (tD T))) 6 _ ?_ ?_ zF 0 (Nat.zero_le _) (zF_gt (by omega))
  · intro n
    rw [f_X10_is_4, if_pos (show (6 : Int32) ≤ nI 6 from Int32.le_refl _)]; rfl
  · intro n k hk
    show f_X10_is_4 (n + 1) m (mkI (fitN (tD T)) k) (nI k) h = f_X10_is_4 n m (mkI (fitN (tD T)) (k + 1)) (nI (k + 1)) h
    rw [f_X10_is_4, if_neg (show ¬ (6 : Int32) ≤ nI k from nI_ge (b := 6) hk (by decide))]
    refine zloop (fun f q s => f_X10_is_15 (f_X10_is_4 n) f m (mkI (fitN (tD T)) k) (nI k) s (nI q) h) (fun q => b2i (allN (fitK (dNt (tD T)) k) q)) c _ ?_ ?_ zF 0 (Nat.zero_le _) (zF_gt (by omega))
    · intro f
      rw [f_X10_is_15, zgR_eq n0 rfl, zaI_x 44 44 rfl n1 (by decide) (by decide), b1, ec, if_pos (Int32.le_refl _)]
      unfold f_X10_is_105
      rw [zlt_eq, zlt_eq, nI_1, mkI]
      unfold fitN
      rw [ei]
      exact orIf (fun z => f_X10_is_4 n m z (nI (k + 1)) h) _ _ _
    · intro f q hq
      show f_X10_is_15 (f_X10_is_4 n) (f + 1) m (mkI (fitN (tD T)) k) (nI k) (b2i (allN (fitK (dNt (tD T)) k) q)) (nI q) h = f_X10_is_15 (f_X10_is_4 n) f m (mkI (fitN (tD T)) k) (nI k) (b2i (allN (fitK (dNt (tD T)) k) (q + 1))) (nI (q + 1)) h
      rw [f_X10_is_15, zgR_eq n0 rfl, zaI_x 44 44 rfl n1 (by decide) (by decide), b1, ec, if_neg (nI_ge hq (by omega)), zlt_eq, x3, allN]
      cases allN (fitK (dNt (tD T)) k) q with
      | false =>
        rw [if_pos (by decide)]
        unfold f_X10_is_85 f_X10_is_86
        rw [nI_1]; rfl
      | true =>
        rw [if_neg (by decide), zgR_eq n0 rfl, zaI_x (nI (45 + 3 * q)) (45 + 3 * q) rfl n1 (by omega) (by decide), b2 _ (by omega), zgR_eq n0 rfl, nI_1, zaI_x (nI (45 + 3 * q + 1)) (45 + (3 * q + 1)) rfl n1 (by omega) (by decide), b2 _ (by omega), zcI_of (q_X10_goes (kOk_nI hk) _ _ h), zgR_eq n0 rfl, x2, zaI_x (nI (45 + 3 * q + 2)) (45 + (3 * q + 2)) rfl n1 (by omega) (by decide), b2 _ (by omega)]
        have key : ∀ w : Bool, f_X10_is_78 (f_X10_is_15 (f_X10_is_4 n) f) m (mkI (fitN (tD T)) k) (nI k) (nI q) (b2i w) (b2i (sGo (nI k) (dNt (tD T) (3 * q)) (dNt (tD T) (3 * q + 1)))) h = f_X10_is_15 (f_X10_is_4 n) f m (mkI (fitN (tD T)) k) (nI k) (b2i (decide (sGo (nI k) (dNt (tD T) (3 * q)) (dNt (tD T) (3 * q + 1)) = w))) (nI (q + 1)) h := by
          intro w
          unfold f_X10_is_78 f_X10_is_85 f_X10_is_86
          rw [nI_1]
          by_cases z : sGo (nI k) (dNt (tD T) (3 * q)) (dNt (tD T) (3 * q + 1)) = w
          · rw [if_pos (b2i_eq.mpr z), decide_eq_true z]; rfl
          · rw [if_neg (fun y => z (b2i_eq.mp y)), decide_eq_false z]; rfl
        rw [Bool.true_and]
        unfold fitK
        by_cases z : dNt (tD T) (3 * q + 2) = 1
        · rw [if_pos z, decide_eq_true z]; exact key true
        · rw [if_neg z, decide_eq_false z]; exact key false
theorem op_is : Both f_X9_is f_X10_is := by
  refine Both.ask (fun T o => ⟨.int (mkI (fitN (tD T)) 6), ?_, ?_⟩)
  · intro h x r
    refine ⟨h, ?_, r, Fr.rf⟩
    unfold f_X9_is
    rw [zgR_eq r.1 rfl, zcI_of (q_X3_childKinds r.2.1 o.1)]; rfl
  · intro h m r
    exact ⟨h, q_X10_is r o, r, Fr.rf⟩
/-! kinds -/
def fitM (mk : Nat → Int32) (i k q : Nat) : Bool := !decide (mk (4 * q) = nI i) || decide (sHol (nI k) (mk (4 * q + 1)) (mk (4 * q + 2)) = mk (4 * q + 3))
def fitP (D : Dl) (i k : Nat) : Bool := allN (fitM (dMk D) i k) (ix (dMc D))
theorem q_X3_fitsMarks {h : zH} {d i k : Nat} {D : Dl} (r : RD h d D) (o : okD D) (hk : k < 6) : f_X3_fitsMarks d (nI i) (nI k) h = rB (fitP D i k) h := by
  obtain ⟨c, hc, ec⟩ := o.2.2.2.2
  have ei : ix (dMc D) = c := by rw [ec, ix_nI (by omega)]
  unfold fitP
  rw [ei]
  have x4 : ∀ q, nI q * 4 = nI (4 * q) := fun q => by rw [show (4 : Int32) = nI 4 from rfl, pk_mul, Nat.mul_comm]
  have x2 : ∀ q, nI (4 * q) + 2 = nI (4 * q + 2) := fun q => nI_add _ 2
  have x3 : ∀ q, nI (4 * q) + 3 = nI (4 * q + 3) := fun q => nI_add _ 3
  have body : ∀ n q, q < c → f_X3_fitsMarks_2 (n + 1) d (nI i) (nI k) (nI q) h = if fitM (dMk D) i k q then f_X3_fitsMarks_2 n d (nI i) (nI k) (nI (q + 1)) h else rB false h := by
    intro n q hq
    rw [f_X3_fitsMarks_2, zgI_eq r.1 rfl, ec, if_neg (nI_ge hq (by omega)), zlt_eq, x4, zgR_eq r.1 rfl, zaI_nI r.2.2.2.2.2.2.2 (by omega) (by decide)]
    unfold fitM f_X3_fitsMarks_62
    by_cases z : dMk D (4 * q) = nI i
    · rw [if_pos z, decide_eq_true z, zgR_eq r.1 rfl, nI_1, zaI_nI r.2.2.2.2.2.2.2 (by omega) (by decide), zgR_eq r.1 rfl, x2, zaI_nI r.2.2.2.2.2.2.2 (by omega) (by decide), zcI_of (q_X0_holds (kOk_nI hk) _ _ h), zgR_eq r.1 rfl, x3, zaI_nI r.2.2.2.2.2.2.2 (by omega) (by decide), nI_1, zrZ_0]
      by_cases y : sHol (nI k) (dMk D (4 * q + 1)) (dMk D (4 * q + 2)) = dMk D (4 * q + 3)
      · rw [if_pos y, decide_eq_true y]; rfl
      · rw [if_neg y, decide_eq_false y]; rfl
    · rw [if_neg z, decide_eq_false z, nI_1]; rfl
  refine (zloopA (fun n q (_ : Unit) => f_X3_fitsMarks_2 n d (nI i) (nI k) (nI q) h) (fun _ => ()) c (fitM (dMk D) i k) (rB true h) (rB false h) ?_ ?_ ?_ zF (by show c < 20000; omega)).trans ?_
  · intro n
    rw [f_X3_fitsMarks_2, zgI_eq r.1 rfl, ec, if_pos (Int32.le_refl _), zrZ_1]
  · intro n q hq hp
    rw [body n q hq, hp, if_pos rfl]
  · intro n q hq hp
    rw [body n q hq, hp, if_neg (by decide)]
  · cases allN (fitM (dMk D) i k) c <;> rfl
theorem q_X3_clothKinds {h : zH} {d i : Nat} {D : Dl} (r : RD h d D) (o : okD D) : f_X3_clothKinds d (nI i) h = rI (mkI (fitP D i) 6) h := by
  refine zloop (fun n k s => f_X3_clothKinds_4 n d (nI i) s (nI k) h) (mkI (fitP D i)) 6 _ ?_ ?_ zF 0 (Nat.zero_le _) (zF_gt (by omega))
  · intro n
    rw [f_X3_clothKinds_4, if_pos (show (6 : Int32) ≤ nI 6 from Int32.le_refl _)]; rfl
  · intro n k hk
    rw [f_X3_clothKinds_4, if_neg (show ¬ (6 : Int32) ≤ nI k from nI_ge (b := 6) hk (by decide)), zcI_of (q_X3_fitsMarks r o hk)]
    unfold f_X3_clothKinds_25
    rw [mkI, nI_1, zlt_eq]
    cases fitP D i k
    · rw [if_pos (by decide)]; rfl
    · rw [if_neg (by decide)]; rfl
theorem q_X10_kindSet {h : zH} {m i : Nat} {T : Tt} (r : RM h m T) (o : okT T) : f_X10_kindSet m (nI i) h = rI (mkI (fitP (tD T) i) 6) h := by
  obtain ⟨M, nf, n0, n1, n2, n3, b1, b2, b3, b4⟩ := r.now
  obtain ⟨c, hc, ec⟩ := o.1.2.2.2.2
  have ei : ix (dMc (tD T)) = c := by rw [ec, ix_nI (by omega)]
  rw [ei] at b4
  have x4 : ∀ q, 64 + 4 * nI q = nI (64 + 4 * q) := fun q => by rw [show (4 : Int32) = nI 4 from rfl, pk_mul]; exact nI_add 64 _
  have x2 : ∀ q, nI (64 + 4 * q) + 2 = nI (64 + 4 * q + 2) := fun q => nI_add _ 2
  have x3 : ∀ q, nI (64 + 4 * q) + 3 = nI (64 + 4 * q + 3) := fun q => nI_add _ 3
  refine zloop (fun n k s => f_X10_kindSet_4 n m (nI i) s (nI k) h) (mkI (fitP (tD T) i)) 6 _ ?_ ?_ zF 0 (Nat.zero_le _) (zF_gt (by omega))
  · intro n
    rw [f_X10_kindSet_4, if_pos (show (6 : Int32) ≤ nI 6 from Int32.le_refl _)]; rfl
  · intro n k hk
    show f_X10_kindSet_4 (n + 1) m (nI i) (mkI (fitP (tD T) i) k) (nI k) h = f_X10_kindSet_4 n m (nI i) (mkI (fitP (tD T) i) (k + 1)) (nI (k + 1)) h
    rw [f_X10_kindSet_4, if_neg (show ¬ (6 : Int32) ≤ nI k from nI_ge (b := 6) hk (by decide))]
    refine zloop (fun f q s => f_X10_kindSet_16 (f_X10_kindSet_4 n) f m (nI i) (mkI (fitP (tD T) i) k) (nI k) s (nI q) h) (fun q => b2i (allN (fitM (dMk (tD T)) i k) q)) c _ ?_ ?_ zF 0 (Nat.zero_le _) (zF_gt (by omega))
    · intro f
      rw [f_X10_kindSet_16, zgR_eq n0 rfl, zaI_x 63 63 rfl n1 (by decide) (by decide), b3, ec, if_pos (Int32.le_refl _)]
      unfold f_X10_kindSet_113
      rw [zlt_eq, zlt_eq, nI_1, mkI]
      unfold fitP
      rw [ei]
      exact orIf (fun z => f_X10_kindSet_4 n m (nI i) z (nI (k + 1)) h) _ _ _
    · intro f q hq
      show f_X10_kindSet_16 (f_X10_kindSet_4 n) (f + 1) m (nI i) (mkI (fitP (tD T) i) k) (nI k) (b2i (allN (fitM (dMk (tD T)) i k) q)) (nI q) h = f_X10_kindSet_16 (f_X10_kindSet_4 n) f m (nI i) (mkI (fitP (tD T) i) k) (nI k) (b2i (allN (fitM (dMk (tD T)) i k) (q + 1))) (nI (q + 1)) h
      rw [f_X10_kindSet_16, zgR_eq n0 rfl, zaI_x 63 63 rfl n1 (by decide) (by decide), b3, ec, if_neg (nI_ge hq (by omega)), zlt_eq, x4, allN]
      cases allN (fitM (dMk (tD T)) i k) q with
      | false =>
        rw [if_pos (by decide)]
        unfold f_X10_kindSet_91 f_X10_kindSet_92
        rw [nI_1]; rfl
      | true =>
        rw [if_neg (by decide), zgR_eq n0 rfl, zaI_x (nI (64 + 4 * q)) (64 + 4 * q) rfl n1 (by omega) (by decide), b4 _ (by omega), Bool.true_and]
        unfold fitM f_X10_kindSet_87 f_X10_kindSet_91 f_X10_kindSet_92
        by_cases z : dMk (tD T) (4 * q) = nI i
        · rw [if_pos z, decide_eq_true z, zgR_eq n0 rfl, nI_1, zaI_x (nI (64 + 4 * q + 1)) (64 + (4 * q + 1)) rfl n1 (by omega) (by decide), b4 _ (by omega), zgR_eq n0 rfl, x2, zaI_x (nI (64 + 4 * q + 2)) (64 + (4 * q + 2)) rfl n1 (by omega) (by decide), b4 _ (by omega), zcI_of (q_X10_holds _ _ _ h), zgR_eq n0 rfl, x3, zaI_x (nI (64 + 4 * q + 3)) (64 + (4 * q + 3)) rfl n1 (by omega) (by decide), b4 _ (by omega), nI_1]
          by_cases y : sHol (nI k) (dMk (tD T) (4 * q + 1)) (dMk (tD T) (4 * q + 2)) = dMk (tD T) (4 * q + 3)
          · rw [if_pos y, decide_eq_true y]; rfl
          · rw [if_neg y, decide_eq_false y]; rfl
        · rw [if_neg z, decide_eq_false z, nI_1]; rfl
theorem op_kinds (a : Int32) : Both (fun x => f_X9_kinds x a) (fun m => f_X10_kinds m a) := by
  refine Both.of2 (fun T o => ?_)
  obtain ⟨en, hn⟩ := o.1.n
  cases hh : sHas (tD T).1.2.1 a with
  | false =>
    refine of2Bad o ?_ ?_
    · intro h x r h1 e1
      show f_X9_kinds x a h = _
      unfold f_X9_kinds
      rw [zgR_eq r.1 rfl, zoc_eq r.2.1.1, zcI_of (q_X1_has r.2.1.RS a), hh, if_pos (by decide), zoc_eq r.1, zcI_of e1]
      rfl
    · intro h m r h1 e1
      obtain ⟨M, nf, n0, n1, n2, n3, n4⟩ := r.now
      show f_X10_kinds m a h = _
      unfold f_X10_kinds f_X10_kinds_20
      rw [zoc_eq n0, zcI_of (q_X10_isPiece n0 n1 (n2.1.trans en) hn a), ← en, hh, if_pos (by decide), zoc_eq n0, zcI_of e1]
      rfl
  | true =>
    obtain ⟨i, hi, ea⟩ := (sHas_nI (n := dn (tD T)) (x := a) (by omega)).mp (by rw [← en]; exact hh)
    subst ea
    refine ⟨.int (mkI (fitP (tD T) i) 6), T, o, ?_, ?_⟩
    · intro h x r
      refine ⟨h, ?_, r, Fr.rf⟩
      show f_X9_kinds x (nI i) h = _
      unfold f_X9_kinds
      rw [zgR_eq r.1 rfl, zoc_eq r.2.1.1, zcI_of (q_X1_has r.2.1.RS _), hh, if_neg (by decide), zgR_eq r.1 rfl, zcI_of (q_X3_clothKinds r.2.1 o.1)]
      rfl
    · intro h m r
      obtain ⟨M, nf, n0, n1, n2, n3, n4⟩ := r.now
      refine ⟨h, ?_, r, Fr.rf⟩
      show f_X10_kinds m (nI i) h = _
      unfold f_X10_kinds f_X10_kinds_20
      rw [zoc_eq n0, zcI_of (q_X10_isPiece n0 n1 (n2.1.trans en) hn _), ← en, hh, if_neg (by decide), zoc_eq n0, zcI_of (q_X10_kindSet r o)]
      rfl
