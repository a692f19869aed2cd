/-! count, digest -/
def sumW (f : Nat → Int32) : Nat → Int32
  | 0 => 0
  | k + 1 => sumW f k + f k
theorem i32add0 (x : Int32) : x + 0 = x := by
  first
  | exact Int32.add_zero x
  | simp
theorem sumW_z {f : Nat → Int32} {n : Nat} : ∀ k, (∀ i, n ≤ i → i < n + k → f i = 0) → sumW f (n + k) = sumW f n
  | 0, _ => rfl
  | k + 1, h => by
    show sumW f (n + k) + f (n + k) = _
    rw [h (n + k) (by omega) (by omega), i32add0]
    exact sumW_z k (fun i h1 h2 => h i h1 (by omega))
def cntV (T : Tt) (j : Nat) : Int32 := match j with
  | 0 => (tD T).1.2.1
  | 1 => (dW (tD T)).2.2.1
  | 2 => (dW (tD T)).2.2.2
  | 3 => sCd (tD T).1 (dW (tD T)).1 (wL (dW (tD T)))
  | 4 => b2i (dressed (tD T).1 (dW (tD T)) (wL (dW (tD T))))
  | 5 => sumW (dW (tD T)).2.1 (dn (tD T))
  | 6 => (tD T).1.1
  | 7 => dNc (tD T)
  | 8 => dMc (tD T)
  | 9 => dPc (tD T)
  | _ => nI (tL T)
theorem q_X8_wornTogether {h : zH} {w : Nat} {W : Wr} (hW : RW h w W) : f_X8_wornTogether w h = rI (sumW W.2.1 8) h := by
  refine zloop (fun f k s => f_X8_wornTogether_4 f w s (nI k) h) (sumW W.2.1) 8 _ ?_ ?_ zF 0 (Nat.zero_le _) (zF_gt (by omega))
  · intro f
    rw [f_X8_wornTogether_4, if_pos (show (8 : Int32) ≤ nI 8 from Int32.le_refl _)]; rfl
  · intro f k hk
    rw [f_X8_wornTogether_4, if_neg (show ¬ (8 : Int32) ≤ nI k from nI_ge (b := 8) hk (by decide)), zgR_eq hW.1 rfl, zaI_nI hW.2.2 hk (by decide), zlt_eq, nI_1]; rfl
theorem eleven {P : Nat → Prop} (h0 : P 0) (h1 : P 1) (h2 : P 2) (h3 : P 3) (h4 : P 4) (h5 : P 5) (h6 : P 6) (h7 : P 7) (h8 : P 8) (h9 : P 9) (h10 : P 10) : ∀ j, j ≤ 10 → P j := by
  intro j hj
  match j, hj with
  | 0, _ => exact h0
  | 1, _ => exact h1
  | 2, _ => exact h2
  | 3, _ => exact h3
  | 4, _ => exact h4
  | 5, _ => exact h5
  | 6, _ => exact h6
  | 7, _ => exact h7
  | 8, _ => exact h8
  | 9, _ => exact h9
  | 10, _ => exact h10
theorem q_X9_countOf {h : zH} {x : Nat} {T : Tt} (r : RX h x T) (o : okT T) : ∀ j, j ≤ 10 → f_X9_countOf x (nI j) h = rI (cntV T j) h := by
  have n8 : dn (tD T) ≤ 8 := o.1.1.2.1
  have rd := r.2.1
  have rw_ := rd.2.2.2.2.1
  have ow := o.1.2.1.1
  have l8 := o.1.2.1.le n8
  refine eleven ?_ ?_ ?_ ?_ ?_ ?_ ?_ ?_ ?_ ?_ ?_ <;> unfold f_X9_countOf
  · rw [if_pos (show nI 0 = 0 from rfl), zgR_eq r.1 rfl, zgI_eq rd.1 rfl]; rfl
  · rw [if_neg (by decide), if_pos (show nI 1 = 1 from rfl), zgR_eq r.1 rfl, zgR_eq rd.1 rfl, zgI_eq rw_.1 rfl]; rfl
  · rw [if_neg (by decide), if_neg (by decide), if_pos (show nI 2 = 2 from rfl), zgR_eq r.1 rfl, zgR_eq rd.1 rfl, zgI_eq rw_.1 rfl]; rfl
  · rw [if_neg (by decide), if_neg (by decide), if_neg (by decide), if_pos (show nI 3 = 3 from rfl), zgR_eq r.1 rfl, zgR_eq r.1 rfl, zgR_eq rd.1 rfl, zoc_eq rw_.1, zcI_of (q_X8_onSet rw_ ow.1 l8), zoc_eq rd.1, zcI_of (q_X1_spotsOfSet rd.RS o.1.1 _), cover_eq o.1.1 ow]; rfl
  · rw [if_neg (by decide), if_neg (by decide), if_neg (by decide), if_neg (by decide), if_pos (show nI 4 = 4 from rfl), zgR_eq r.1 rfl, zgR_eq r.1 rfl, zgR_eq rd.1 rfl, zoc_eq rd.1, zcI_of (q_X1_isDressedC rd.RS o.1.1 rw_ ow)]
    show _ = rI (b2i (dressed (tD T).1 (dW (tD T)) (wL (dW (tD T))))) h
    cases dressed (tD T).1 (dW (tD T)) (wL (dW (tD T)))
    · rw [if_pos (by decide)]; rfl
    · rw [if_neg (by decide)]; rfl
  · rw [if_neg (by decide), if_neg (by decide), if_neg (by decide), if_neg (by decide), if_neg (by decide), if_pos (show nI 5 = 5 from rfl), zgR_eq r.1 rfl, zgR_eq rd.1 rfl, zoc_eq rw_.1, zcI_of (q_X8_wornTogether rw_)]
    have z := sumW_z (f := (dW (tD T)).2.1) (n := dn (tD T)) (8 - dn (tD T)) (fun i h1 h2 => o.1.2.1.2.1 i h1 (by omega))
    rw [show dn (tD T) + (8 - dn (tD T)) = 8 by omega] at z
    rw [z]; rfl
  · rw [if_neg (by decide), if_neg (by decide), if_neg (by decide), if_neg (by decide), if_neg (by decide), if_neg (by decide), if_pos (show nI 6 = 6 from rfl), zgR_eq r.1 rfl, zgI_eq rd.1 rfl]; rfl
  · rw [if_neg (by decide), if_neg (by decide), if_neg (by decide), if_neg (by decide), if_neg (by decide), if_neg (by decide), if_neg (by decide), if_pos (show nI 7 = 7 from rfl), zgR_eq r.1 rfl, zgI_eq rd.1 rfl]; rfl
  · rw [if_neg (by decide), if_neg (by decide), if_neg (by decide), if_neg (by decide), if_neg (by decide), if_neg (by decide), if_neg (by decide), if_neg (by decide), if_pos (show nI 8 = 8 from rfl), zgR_eq r.1 rfl, zgI_eq rd.1 rfl]; rfl
  · rw [if_neg (by decide), if_neg (by decide), if_neg (by decide), if_neg (by decide), if_neg (by decide), if_neg (by decide), if_neg (by decide), if_neg (by decide), if_neg (by decide), if_pos (show nI 9 = 9 from rfl), zgR_eq r.1 rfl, zgI_eq rd.1 rfl]; rfl
  · rw [if_neg (by decide), if_neg (by decide), if_neg (by decide), if_neg (by decide), if_neg (by decide), if_neg (by decide), if_neg (by decide), if_neg (by decide), if_neg (by decide), if_neg (by decide), zgI_eq r.1 rfl]; rfl
theorem q_X10_wornAll {h : zH} {m n L : Nat} {M : Mo} {nf : Nat → Int32} {S : Sd} {W : Wr} (hO : MO h m M) (hN : MA h (m + 1) 88 nf) (s : RowS nf n S) (w : RowW nf n L W) (ok : okS n S) : f_X10_wornAll m h = rI (sumW W.2.1 n) h := by
  have h8 := ok.2.1
  refine zloop (fun f k s => f_X10_wornAll_4 f m s (nI k) h) (sumW W.2.1) n _ ?_ ?_ zF 0 (Nat.zero_le _) (zF_gt (by omega))
  · intro f
    rw [f_X10_wornAll_4, zgR_eq hO rfl, zaI_x 0 0 rfl hN (by decide) (by decide), s.1, ok.1, if_pos (Int32.le_refl _)]; rfl
  · intro f k hk
    rw [f_X10_wornAll_4, zgR_eq hO rfl, zaI_x 0 0 rfl hN (by decide) (by decide), s.1, ok.1, if_neg (nI_ge hk (by omega)), zgR_eq hO rfl, zaI_x (36 + nI k) (36 + k) (nI_add 36 k) hN (by omega) (by decide), w.2.2.2 k hk, zlt_eq, nI_1]; rfl
theorem q_X10_countOf {h : zH} {m : Nat} {T : Tt} (r : RM h m T) (o : okT T) {j : Nat} (hj : j ≤ 10) : ∃ h1, f_X10_countOf m (nI j) h = rI (cntV T j) h1 ∧ RM h1 m T ∧ Fr h h1 m (m + 11) := by
  obtain ⟨M0, nf0, m0, m1, m2, m3, m4⟩ := r.now
  obtain ⟨h1, M, nf, sf, e1, n0, n1, n2, s1, w1, nn, s2, w2, r1, f1⟩ := r.aside o
  refine ⟨h1, ?_, r1, f1⟩
  obtain ⟨im, sp, bg, tk, va, n3⟩ := r1.mo
  have ow := o.1.2.1.1
  refine eleven (P := fun j => f_X10_countOf m (nI j) h = rI (cntV T j) h1) ?_ ?_ ?_ ?_ ?_ ?_ ?_ ?_ ?_ ?_ ?_ j hj <;> unfold f_X10_countOf <;> rw [zoc_eq m0, zcV_of e1]
  · rw [if_pos (show nI 0 = 0 from rfl), zgR_eq n0 rfl, zaI_x 0 0 rfl n1 (by decide) (by decide), s1.1]; rfl
  · rw [if_neg (by decide), if_pos (show nI 1 = 1 from rfl), zgR_eq n0 rfl, zaI_x 3 3 rfl n1 (by decide) (by decide), w1.2.1]; rfl
  · rw [if_neg (by decide), if_neg (by decide), if_pos (show nI 2 = 2 from rfl), zgR_eq n0 rfl, zaI_x 2 2 rfl n1 (by decide) (by decide), w1.1]; rfl
  · rw [if_neg (by decide), if_neg (by decide), if_neg (by decide), if_pos (show nI 3 = 3 from rfl), zoc_eq n0, zcI_of (q_X10_covered n0 n2 s2 w2 ow o.1.1)]; rfl
  · rw [if_neg (by decide), if_neg (by decide), if_neg (by decide), if_neg (by decide), if_pos (show nI 4 = 4 from rfl), zoc_eq n0, zcI_of (q_X10_covered n0 n2 s2 w2 ow o.1.1)]
    show _ = rI (b2i (dressed (tD T).1 (dW (tD T)) (wL (dW (tD T))))) h1
    unfold dressed
    by_cases q : sCd (tD T).1 (dW (tD T)).1 (wL (dW (tD T))) = 15
    · rw [if_pos q, decide_eq_true q]; rfl
    · rw [if_neg q, decide_eq_false q]; rfl
  · rw [if_neg (by decide), if_neg (by decide), if_neg (by decide), if_neg (by decide), if_neg (by decide), if_pos (show nI 5 = 5 from rfl), zoc_eq n0, zcI_of (q_X10_wornAll n0 n1 s1 w1 o.1.1)]; rfl
  · rw [if_neg (by decide), if_neg (by decide), if_neg (by decide), if_neg (by decide), if_neg (by decide), if_neg (by decide), if_pos (show nI 6 = 6 from rfl), zgR_eq n0 rfl, zaI_x 1 1 rfl n1 (by decide) (by decide), s1.2.1]; rfl
  · rw [if_neg (by decide), if_neg (by decide), if_neg (by decide), if_neg (by decide), if_neg (by decide), if_neg (by decide), if_neg (by decide), if_pos (show nI 7 = 7 from rfl), zgR_eq n0 rfl, zaI_x 44 44 rfl n1 (by decide) (by decide), nn.1]; rfl
  · rw [if_neg (by decide), if_neg (by decide), if_neg (by decide), if_neg (by decide), if_neg (by decide), if_neg (by decide), if_neg (by decide), if_neg (by decide), if_pos (show nI 8 = 8 from rfl), zgR_eq n0 rfl, zaI_x 63 63 rfl n1 (by decide) (by decide), nn.2.2.1]; rfl
  · rw [if_neg (by decide), if_neg (by decide), if_neg (by decide), if_neg (by decide), if_neg (by decide), if_neg (by decide), if_neg (by decide), if_neg (by decide), if_neg (by decide), if_pos (show nI 9 = 9 from rfl), zgI_eq n3 rfl]; rfl
  · rw [if_neg (by decide), if_neg (by decide), if_neg (by decide), if_neg (by decide), if_neg (by decide), if_neg (by decide), if_neg (by decide), if_neg (by decide), if_neg (by decide), if_neg (by decide), zgI_eq n3 rfl]; rfl
theorem op_count (a : Int32) : Both (fun x => f_X9_count x a) (fun m => f_X10_count m a) := by
  refine Both.of2 (fun T o => ?_)
  cases hh : rng 0 10 a with
  | false =>
    refine of2Bad o ?_ ?_
    · intro h x r h1 e1
      show f_X9_count x a h = _
      unfold f_X9_count
      rw [zcI_of (q_X9_in _ _ _ h), hh, if_pos (by decide), zoc_eq r.1, zcI_of e1]
      rfl
    · intro h m r h1 e1
      obtain ⟨M, nf, n0, n1, n2, n3, n4⟩ := r.now
      show f_X10_count m a h = _
      unfold f_X10_count
      rw [zcI_of (q_X10_inn a 0 10 (A := 0) (B := 10) (by decide) (by decide) h), hh, if_pos (by decide), zoc_eq n0, zcI_of e1]
      rfl
  | true =>
    obtain ⟨p, hp, ea⟩ := (rng_0 (b := 10) (x := a) (n := 10) rfl (by decide)).mp hh
    subst ea
    refine ⟨.int (cntV T p), T, o, ?_, ?_⟩
    · intro h x r
      refine ⟨h, ?_, r, Fr.rf⟩
      show f_X9_count x (nI p) h = _
      unfold f_X9_count
      rw [zcI_of (q_X9_in _ _ _ h), hh, if_neg (by decide), zoc_eq r.1, zcI_of (q_X9_countOf r o p hp)]
      rfl
    · intro h m r
      obtain ⟨M, nf, n0, n1, n2, n3, n4⟩ := r.now
      obtain ⟨h1, e1, r1, f1⟩ := q_X10_countOf r o hp
      refine ⟨h1, ?_, r1, f1⟩
      show f_X10_count m (nI p) h = _
      unfold f_X10_count
      rw [zcI_of (q_X10_inn (nI p) 0 10 (A := 0) (B := 10) (by decide) (by decide) h), hh, if_neg (by decide), zoc_eq n0, zcI_of e1]
      rfl
/-! digest -/
def dgN (f : Nat → Int32) (a : Int64) : Nat → Int64
  | 0 => a
  | k + 1 => 31 * dgN f a k + (f k).toInt64
def dgP (S : Sd) (w : Nat → Int32) (a : Int64) : Nat → Int64
  | 0 => a
  | k + 1 => 31 * (31 * (31 * (31 * dgP S w a k + (S.2.2.1 k).toInt64) + (S.2.2.2.1 k).toInt64) + (S.2.2.2.2 k).toInt64) + (w k).toInt64
def dgD (D : Dl) (a : Int64) : Int64 := dgN (dMk D) (dgN (dNt D) (dgN (dW D).1 (dgP D.1 (dW D).2.1 a (dn D)) (wL (dW D))) (3 * ix (dNc D))) (4 * ix (dMc D))
abbrev rJ (x : Int64) (h : zH) : zR := some (some (.long x), h)
theorem q_X1_digestOn {h : zH} {d : Nat} {D : Dl} (r : RD h d D) (o : okD D) (a : Int64) : f_X1_digestOn d a h = rJ (dgD D a) h := by
  obtain ⟨en, hn⟩ := o.n
  have ow := o.2.1.1
  have l8 := o.2.1.le hn
  obtain ⟨c1, hc1, ec1⟩ := o.2.2.2.1
  obtain ⟨c2, hc2, ec2⟩ := o.2.2.2.2
  have i1 : ix (dNc D) = c1 := by rw [ec1, ix_nI (by omega)]
  have i2 : ix (dMc D) = c2 := by rw [ec2, ix_nI (by omega)]
  have x3 : nI c1 * 3 = nI (3 * c1) := by rw [show (3 : Int32) = nI 3 from rfl, pk_mul, Nat.mul_comm]
  have x4 : nI c2 * 4 = nI (4 * c2) := by rw [show (4 : Int32) = nI 4 from rfl, pk_mul, Nat.mul_comm]
  unfold f_X1_digestOn dgD
  rw [i1, i2]
  refine zloop (fun f k s => f_X1_digestOn_5 f d s (nI k) h) (dgP D.1 (dW D).2.1 a) (dn D) _ ?_ ?_ zF 0 (Nat.zero_le _) (zF_gt (by omega))
  · intro f
    show f_X1_digestOn_5 (f + 1) d (dgP D.1 (dW D).2.1 a (dn D)) (nI (dn D)) h = _
    rw [f_X1_digestOn_5, zgI_eq r.1 rfl, en, if_pos (Int32.le_refl _)]
    generalize dgP D.1 (dW D).2.1 a (dn D) = a1
    refine zloop (fun f k s => f_X1_digestOn_86 f d s (nI k) h) (dgN (dW D).1 a1) (wL (dW D)) _ ?_ ?_ zF 0 (Nat.zero_le _) (zF_gt (by omega))
    · intro f
      show f_X1_digestOn_86 (f + 1) d (dgN (dW D).1 a1 (wL (dW D))) (nI (wL (dW D))) h = _
      rw [f_X1_digestOn_86, zgR_eq r.1 rfl, zgI_eq r.2.2.2.2.1.1 rfl, ow.1, if_pos (Int32.le_refl _)]
      generalize dgN (dW D).1 a1 (wL (dW D)) = a2
      refine zloop (fun f k s => f_X1_digestOn_125 f d s (nI k) h) (dgN (dNt D) a2) (3 * c1) _ ?_ ?_ zF 0 (Nat.zero_le _) (zF_gt (by omega))
      · intro f
        show f_X1_digestOn_125 (f + 1) d (dgN (dNt D) a2 (3 * c1)) (nI (3 * c1)) h = _
        rw [f_X1_digestOn_125, zgI_eq r.1 rfl, ec1, x3, if_pos (Int32.le_refl _)]
        generalize dgN (dNt D) a2 (3 * c1) = a3
        refine zloop (fun f k s => f_X1_digestOn_160 f d s (nI k) h) (dgN (dMk D) a3) (4 * c2) _ ?_ ?_ zF 0 (Nat.zero_le _) (zF_gt (by omega))
        · intro f
          show f_X1_digestOn_160 (f + 1) d (dgN (dMk D) a3 (4 * c2)) (nI (4 * c2)) h = _
          rw [f_X1_digestOn_160, zgI_eq r.1 rfl, ec2, x4, if_pos (Int32.le_refl _)]
          rfl
        · intro f k hk
          show f_X1_digestOn_160 (f + 1) d _ (nI k) h = f_X1_digestOn_160 f d _ (nI (k + 1)) h
          rw [f_X1_digestOn_160, zgI_eq r.1 rfl, ec2, x4, if_neg (nI_ge hk (by omega)), zgR_eq r.1 rfl, zaI_nI r.2.2.2.2.2.2.2 (by omega) (by decide), zlt_eq, nI_1]
          rfl
      · intro f k hk
        show f_X1_digestOn_125 (f + 1) d _ (nI k) h = f_X1_digestOn_125 f d _ (nI (k + 1)) h
        rw [f_X1_digestOn_125, zgI_eq r.1 rfl, ec1, x3, if_neg (nI_ge hk (by omega)), zgR_eq r.1 rfl, zaI_nI r.2.2.2.2.2.2.1 (by omega) (by decide), zlt_eq, nI_1]
        rfl
    · intro f k hk
      show f_X1_digestOn_86 (f + 1) d _ (nI k) h = f_X1_digestOn_86 f d _ (nI (k + 1)) h
      rw [f_X1_digestOn_86, zgR_eq r.1 rfl, zgI_eq r.2.2.2.2.1.1 rfl, ow.1, if_neg (nI_ge hk (by omega)), zgR_eq r.1 rfl, zgR_eq r.2.2.2.2.1.1 rfl, zaI_nI r.2.2.2.2.1.2.1 (by omega) (by decide), zlt_eq, nI_1]
      rfl
  · intro f k hk
    show f_X1_digestOn_5 (f + 1) d _ (nI k) h = f_X1_digestOn_5 f d _ (nI (k + 1)) h
    rw [f_X1_digestOn_5, zgI_eq r.1 rfl, en, if_neg (nI_ge hk (by omega)), zgR_eq r.1 rfl, zaI_nI r.2.1 (by omega) (by decide), zlt_eq, zgR_eq r.1 rfl, zaI_nI r.2.2.1 (by omega) (by decide), zlt_eq, zgR_eq r.1 rfl, zaI_nI r.2.2.2.1 (by omega) (by decide), zlt_eq, zgR_eq r.1 rfl, zgR_eq r.2.2.2.2.1.1 rfl, zaI_nI r.2.2.2.2.1.2.2 (by omega) (by decide), zlt_eq, nI_1]
    rfl
theorem dgN_cong {f g : Nat → Int32} (a : Int64) : ∀ {k : Nat}, (∀ j, j < k → f j = g j) → dgN f a k = dgN g a k
  | 0, _ => rfl
  | k + 1, h => by rw [dgN, dgN, dgN_cong a (fun j hj => h j (by omega)), h k (by omega)]
theorem q_X10_digest_33 {h : zH} {m : Nat} {T : Tt} (r : RM h m T) (o : okT T) (a : Int64) : f_X10_digest_33 zF m a 0 h = rJ (31 * (31 * dgD (tD T) a + tA T) + tB T) h := by
  obtain ⟨en, hn⟩ := o.1.n
  have ow := o.1.2.1.1
  have l8 := o.1.2.1.le hn
  obtain ⟨M, nf, n0, n1, n2, n3, b1, b2, b3, b4⟩ := r.now
  obtain ⟨im, sp, bg, tk, va, n5⟩ := r.mo
  obtain ⟨c1, hc1, ec1⟩ := o.1.2.2.2.1
  obtain ⟨c2, hc2, ec2⟩ := o.1.2.2.2.2
  have i1 : ix (dNc (tD T)) = c1 := by rw [ec1, ix_nI (by omega)]
  have i2 : ix (dMc (tD T)) = c2 := by rw [ec2, ix_nI (by omega)]
  have x3 : 3 * nI c1 = nI (3 * c1) := by rw [show (3 : Int32) = nI 3 from rfl, pk_mul]
  have x4 : 4 * nI c2 = nI (4 * c2) := by rw [show (4 : Int32) = nI 4 from rfl, pk_mul]
  rw [i1] at b2
  rw [i2] at b4
  unfold dgD
  rw [i1, i2]
  refine zloop (fun f k s => f_X10_digest_33 f m s (nI k) h) (dgP (tD T).1 (dW (tD T)).2.1 a) (dn (tD T)) _ ?_ ?_ zF 0 (Nat.zero_le _) (zF_gt (by omega))
  · intro f
    show f_X10_digest_33 (f + 1) m (dgP (tD T).1 (dW (tD T)).2.1 a (dn (tD T))) (nI (dn (tD T))) h = _
    rw [f_X10_digest_33, zgR_eq n0 rfl, zaI_x 0 0 rfl n1 (by decide) (by decide), n2.1, en, if_pos (Int32.le_refl _)]
    generalize dgP (tD T).1 (dW (tD T)).2.1 a (dn (tD T)) = a1
    refine zloop (fun f k s => f_X10_digest_119 f m s (nI k) h) (dgN (dW (tD T)).1 a1) (wL (dW (tD T))) _ ?_ ?_ zF 0 (Nat.zero_le _) (zF_gt (by omega))
    · intro f
      show f_X10_digest_119 (f + 1) m (dgN (dW (tD T)).1 a1 (wL (dW (tD T)))) (nI (wL (dW (tD T)))) h = _
      rw [f_X10_digest_119, zgR_eq n0 rfl, zaI_x 3 3 rfl n1 (by decide) (by decide), n3.2.1, ow.1, if_pos (Int32.le_refl _)]
      generalize dgN (dW (tD T)).1 a1 (wL (dW (tD T))) = a2
      refine zloop (fun f k s => f_X10_digest_153 f m s (nI k) h) (dgN (dNt (tD T)) a2) (3 * c1) _ ?_ ?_ zF 0 (Nat.zero_le _) (zF_gt (by omega))
      · intro f
        show f_X10_digest_153 (f + 1) m (dgN (dNt (tD T)) a2 (3 * c1)) (nI (3 * c1)) h = _
        rw [f_X10_digest_153, zgR_eq n0 rfl, zaI_x 44 44 rfl n1 (by decide) (by decide), b1, ec1, x3, if_pos (Int32.le_refl _)]
        generalize dgN (dNt (tD T)) a2 (3 * c1) = a3
        refine zloop (fun f k s => f_X10_digest_191 f m s (nI k) h) (dgN (dMk (tD T)) a3) (4 * c2) _ ?_ ?_ zF 0 (Nat.zero_le _) (zF_gt (by omega))
        · intro f
          show f_X10_digest_191 (f + 1) m (dgN (dMk (tD T)) a3 (4 * c2)) (nI (4 * c2)) h = _
          rw [f_X10_digest_191, zgR_eq n0 rfl, zaI_x 63 63 rfl n1 (by decide) (by decide), b3, ec2, x4, if_pos (Int32.le_refl _), zgJ_eq n5 rfl, zgJ_eq n5 rfl]
          rfl
        · intro f k hk
          show f_X10_digest_191 (f + 1) m _ (nI k) h = f_X10_digest_191 f m _ (nI (k + 1)) h
          rw [f_X10_digest_191, zgR_eq n0 rfl, zaI_x 63 63 rfl n1 (by decide) (by decide), b3, ec2, x4, if_neg (nI_ge hk (by omega)), zgR_eq n0 rfl, zaI_x (64 + nI k) (64 + k) (nI_add 64 k) n1 (by omega) (by decide), b4 k hk, zlt_eq, nI_1]
          rfl
      · intro f k hk
        show f_X10_digest_153 (f + 1) m _ (nI k) h = f_X10_digest_153 f m _ (nI (k + 1)) h
        rw [f_X10_digest_153, zgR_eq n0 rfl, zaI_x 44 44 rfl n1 (by decide) (by decide), b1, ec1, x3, if_neg (nI_ge hk (by omega)), zgR_eq n0 rfl, zaI_x (45 + nI k) (45 + k) (nI_add 45 k) n1 (by omega) (by decide), b2 k hk, zlt_eq, nI_1]
        rfl
    · intro f k hk
      show f_X10_digest_119 (f + 1) m _ (nI k) h = f_X10_digest_119 f m _ (nI (k + 1)) h
      rw [f_X10_digest_119, zgR_eq n0 rfl, zaI_x 3 3 rfl n1 (by decide) (by decide), n3.2.1, ow.1, if_neg (nI_ge hk (by omega)), zgR_eq n0 rfl, zaI_x (4 + nI k) (4 + k) (nI_add 4 k) n1 (by omega) (by decide), n3.2.2.1 k hk, zlt_eq, nI_1]
      rfl
  · intro f k hk
    show f_X10_digest_33 (f + 1) m _ (nI k) h = f_X10_digest_33 f m _ (nI (k + 1)) h
    obtain ⟨t1, t2, t3⟩ := n2.2.2 k hk
    rw [f_X10_digest_33, zgR_eq n0 rfl, zaI_x 0 0 rfl n1 (by decide) (by decide), n2.1, en, if_neg (nI_ge hk (by omega)), zgR_eq n0 rfl, zaI_x (12 + nI k) (12 + k) (nI_add 12 k) n1 (by omega) (by decide), t1, zlt_eq, zgR_eq n0 rfl, zaI_x (20 + nI k) (20 + k) (nI_add 20 k) n1 (by omega) (by decide), t2, zlt_eq, zgR_eq n0 rfl, zaI_x (28 + nI k) (28 + k) (nI_add 28 k) n1 (by omega) (by decide), t3, zlt_eq, zgR_eq n0 rfl, zaI_x (36 + nI k) (36 + k) (nI_add 36 k) n1 (by omega) (by decide), n3.2.2.2 k hk, zlt_eq, nI_1]
    rfl
theorem op_digest : Both f_X9_digest f_X10_digest := by
  refine Both.ask (fun T o => ?_)
  refine ⟨.long (31 * (31 * dgD (tD T) (dgN (cntV T) 1867 11) + tA T) + tB T), ?_, ?_⟩
  · intro h x r
    refine ⟨h, ?_, r, Fr.rf⟩
    refine zloop (fun f k s => f_X9_digest_6 f x s (nI k) h) (dgN (cntV T) 1867) 11 _ ?_ ?_ zF 0 (Nat.zero_le _) (zF_gt (by omega))
    · intro f
      show f_X9_digest_6 (f + 1) x (dgN (cntV T) 1867 11) (nI 11) h = _
      rw [f_X9_digest_6, if_pos (by decide), zgR_eq r.1 rfl, zoc_eq r.2.1.1, zcJ_of (q_X1_digestOn r.2.1 o.1 _), zgJ_eq r.1 rfl, zlt_eq, zgJ_eq r.1 rfl]
      rfl
    · intro f k hk
      show f_X9_digest_6 (f + 1) x _ (nI k) h = f_X9_digest_6 f x _ (nI (k + 1)) h
      rw [f_X9_digest_6, if_neg (show ¬ (10 : Int32) < nI k from nI_nlt (a := 10) (by omega) (by omega)), zoc_eq r.1, zcI_of (q_X9_countOf r o k (by omega)), zlt_eq, nI_1]
      rfl
  · intro h m r
    refine zloopE (fun f k (s : Int64 × zH) => f_X10_digest_6 f m s.1 (nI k) s.2) (fun k s => s.1 = dgN (cntV T) 1867 k ∧ RM s.2 m T ∧ Fr h s.2 m (m + 11)) 11 (fun z => ∃ h1, z = some (some (.long (31 * (31 * dgD (tD T) (dgN (cntV T) 1867 11) + tA T) + tB T)), h1) ∧ RM h1 m T ∧ Fr h h1 m (m + 11)) ?_ ?_ zF 0 (1867, h) (Nat.zero_le _) (zF_gt (by omega)) ⟨rfl, r, Fr.rf⟩
    · intro f s ⟨e1, r1, f1⟩
      show ∃ h1, f_X10_digest_6 (f + 1) m s.1 (nI 11) s.2 = _ ∧ _
      rw [f_X10_digest_6, if_pos (show (11 : Int32) ≤ nI 11 from Int32.le_refl _), q_X10_digest_33 r1 o, e1]
      exact ⟨s.2, rfl, r1, f1⟩
    · intro f k s hk ⟨e1, r1, f1⟩
      obtain ⟨h2, e2, r2, f2⟩ := q_X10_countOf r1 o (j := k) (by omega)
      obtain ⟨M, nf, n0, -⟩ := r1.now
      refine ⟨(dgN (cntV T) 1867 (k + 1), h2), ⟨rfl, r2, f1.tr f2⟩, ?_⟩
      show f_X10_digest_6 (f + 1) m s.1 (nI k) s.2 = f_X10_digest_6 f m (dgN (cntV T) 1867 (k + 1)) (nI (k + 1)) h2
      rw [f_X10_digest_6, if_neg (show ¬ (11 : Int32) ≤ nI k from nI_ge (b := 11) hk (by decide)), zoc_eq n0, zcI_of e2, zlt_eq, nI_1, e1]
      rfl
