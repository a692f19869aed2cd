/-! luck: the fraction -/
abbrev frT (T : Tt) (u d : Int64) : Tt := (tD T, tI0 T, tI1 T, tK0 T, tK1 T, tX T, tL T, u, d, tR0 T, tR1 T, tR2 T)
theorem RX.fr1 {h : zH} {x : Nat} {T : Tt} (r : RX h x T) (u : Int64) {K : zH → zR} : ∃ h1, zpV h x 5 10 (.long u) K = K h1 ∧ RX h1 x (frT T u (tB T)) ∧ Fr h h1 x (x + 159) :=
  ⟨_, zpV_eq r.1 (Nat.le_of_ble_eq_true rfl), r.obj (T2 := frT T u (tB T)) ⟨rfl, rfl, rfl, rfl, rfl, rfl, Nat.le_refl _⟩, Fr.set _ (by omega) (by omega)⟩
theorem RX.fr2 {h : zH} {x : Nat} {T : Tt} (r : RX h x T) (d : Int64) {K : zH → zR} : ∃ h1, zpV h x 5 11 (.long d) K = K h1 ∧ RX h1 x (frT T (tA T) d) ∧ Fr h h1 x (x + 159) :=
  ⟨_, zpV_eq r.1 (Nat.le_of_ble_eq_true rfl), r.obj (T2 := frT T (tA T) d) ⟨rfl, rfl, rfl, rfl, rfl, rfl, Nat.le_refl _⟩, Fr.set _ (by omega) (by omega)⟩
theorem q_X9_setFraction_12 {x g a : Nat} (ha : 0 < a) (ha2 : a ≤ 256) (hg : g ≤ 256) : ∀ (e fuel : Nat) (h : zH) (T : Tt), RX h x T → Nat.gcd g a + e ≤ a → Nat.gcd g a + e < fuel → ∃ h', f_X9_setFraction_12 fuel x (nI g) (nI a) (nI (Nat.gcd g a + e)) h = rV h' ∧ RX h' x (frT T (lN (g / Nat.gcd g a)) (lN (a / Nat.gcd g a))) ∧ Fr h h' x (x + 159) := by
  have gp : 0 < Nat.gcd g a := Nat.gcd_pos_of_pos_right g ha
  have gle : Nat.gcd g a ≤ a := Nat.gcd_le_right g ha
  intro e
  induction e with
  | zero =>
    intro fuel h T r h1 h2
    obtain ⟨fuel, rfl⟩ : ∃ f', fuel = f' + 1 := ⟨fuel - 1, by omega⟩
    have m1 : g % Nat.gcd g a = 0 := Nat.mod_eq_zero_of_dvd (Nat.gcd_dvd_left g a)
    have m2 : a % Nat.gcd g a = 0 := Nat.mod_eq_zero_of_dvd (Nat.gcd_dvd_right g a)
    show ∃ h', f_X9_setFraction_12 (fuel + 1) x (nI g) (nI a) (nI (Nat.gcd g a)) h = rV h' ∧ _
    rw [f_X9_setFraction_12, if_neg (show ¬ nI (Nat.gcd g a) < 1 from nI_nlt (b := 1) (by omega) (by omega)), zdv_of (nI_ne0 gp (by omega)), pk_rem (by omega) gp (by omega), m1, if_pos (show nI 0 = 0 from rfl), zdv_of (nI_ne0 gp (by omega)), pk_rem (by omega) gp (by omega), m2, if_pos (show nI 0 = 0 from rfl), zdv_of (nI_ne0 gp (by omega)), pk_div (by omega) gp (by omega), nI_l (by have := Nat.div_le_self g (Nat.gcd g a); omega)]
    obtain ⟨k1, e1, r1, f1⟩ := r.fr1 (lN (g / Nat.gcd g a)) (K := fun h1 => zdv (nI (Nat.gcd g a)) (zpV h1 x 5 11 (.long ((nI a / nI (Nat.gcd g a) : Int32).toInt64)) fun h2 => zrV h2))
    rw [e1, zdv_of (nI_ne0 gp (by omega)), pk_div (by omega) gp (by omega), nI_l (by have := Nat.div_le_self a (Nat.gcd g a); omega)]
    obtain ⟨k2, e2, r2, f2⟩ := r1.fr2 (lN (a / Nat.gcd g a)) (K := fun h2 => zrV h2)
    rw [e2]
    exact ⟨k2, rfl, r2, f1.tr f2⟩
  | succ e ih =>
    intro fuel h T r h1 h2
    obtain ⟨fuel, rfl⟩ : ∃ f', fuel = f' + 1 := ⟨fuel - 1, by omega⟩
    have dp : 0 < Nat.gcd g a + (e + 1) := by omega
    obtain ⟨h', e', r', f'⟩ := ih fuel h T r (by omega) (by omega)
    refine ⟨h', ?_, r', f'⟩
    rw [f_X9_setFraction_12, if_neg (show ¬ nI (Nat.gcd g a + (e + 1)) < 1 from nI_nlt (b := 1) (by omega) (by omega)), zdv_of (nI_ne0 dp (by omega)), pk_rem (by omega) dp (by omega)]
    unfold f_X9_setFraction_46
    have em : nI (Nat.gcd g a + (e + 1)) + (-1) = nI (Nat.gcd g a + e) := by
      rw [show Nat.gcd g a + (e + 1) = (Nat.gcd g a + e) + 1 by omega]; exact pk_m1 _
    rw [em, e']
    have l1 := Nat.mod_lt g dp
    have l2 := Nat.mod_lt a dp
    by_cases z1 : g % (Nat.gcd g a + (e + 1)) = 0
    · rw [if_pos ((nI_0iff (by omega)).mpr z1), zdv_of (nI_ne0 dp (by omega)), pk_rem (by omega) dp (by omega)]
      have z2 : ¬ a % (Nat.gcd g a + (e + 1)) = 0 := fun z2 => by
        have d := Nat.dvd_gcd (Nat.dvd_of_mod_eq_zero z1) (Nat.dvd_of_mod_eq_zero z2)
        have := Nat.le_of_dvd gp d
        omega
      rw [if_neg (fun z => z2 ((nI_0iff (by omega)).mp z))]
    · rw [if_neg (fun z => z1 ((nI_0iff (by omega)).mp z))]
theorem q_X9_setFraction {h : zH} {x g a : Nat} {T : Tt} (r : RX h x T) (ha : 0 < a) (ha2 : a ≤ 256) (hg : g ≤ 256) : ∃ h', f_X9_setFraction x (nI g) (nI a) h = rV h' ∧ RX h' x (frT T (lN (g / Nat.gcd g a)) (lN (a / Nat.gcd g a))) ∧ Fr h h' x (x + 159) := by
  have gle : Nat.gcd g a ≤ a := Nat.gcd_le_right g ha
  unfold f_X9_setFraction
  obtain ⟨k1, e1, r1, f1⟩ := r.fr1 0 (K := fun h1 => zpV h1 x 5 11 (.long 1) fun h2 => f_X9_setFraction_12 zF x (nI g) (nI a) (nI a) h2)
  obtain ⟨k2, e2, r2, f2⟩ := r1.fr2 1 (K := fun h2 => f_X9_setFraction_12 zF x (nI g) (nI a) (nI a) h2)
  obtain ⟨k3, e3, r3, f3⟩ := q_X9_setFraction_12 (x := x) ha ha2 hg (a - Nat.gcd g a) zF k2 _ r2 (by omega) (by show _ < 20000; omega)
  rw [show Nat.gcd g a + (a - Nat.gcd g a) = a by omega] at e3
  rw [e1, e2, e3]
  exact ⟨k3, rfl, r3, (f1.tr f2).tr f3⟩
section FRA
variable {m : Nat} {nf sf bf jf jb ju xf rf yf of : Nat → Int32}
theorem q_X10_fraction_6 {u d : Nat} (hd : 0 < d) (hu : u < 5000) (hd2 : d < 5000) : ∀ (fuel v w : Nat) (h : zH) (M : Mo), w < fuel → v < 5000 → w < 5000 → Nat.gcd v w = Nat.gcd u d → MAll h m M nf sf bf jf jb ju xf rf yf of → ∃ h', f_X10_fraction_6 fuel m (lN u) (lN d) (lN v) (lN w) h = rV h' ∧ MAll h' m (M.1, M.2.1, M.2.2.1, lN (u / Nat.gcd u d), lN (d / Nat.gcd u d), M.2.2.2.2.2) nf sf bf jf jb ju xf rf yf of ∧ Fr h h' m (m + 11) := by
  have gp : 0 < Nat.gcd u d := Nat.gcd_pos_of_pos_right u hd
  intro fuel
  induction fuel with
  | zero => intro v w h M h1; omega
  | succ fuel ih =>
    intro v w h M h1 hv hw hg A
    rw [f_X10_fraction_6]
    by_cases z : w = 0
    · subst z
      rw [Nat.gcd_zero_right] at hg
      subst hg
      rw [if_pos (show lg_cmp (lN 0) 0 = 0 from (lg_cmp_eq _ _).mpr rfl), zdvJ_of (fun e => by have := (pk_lEQ (b := 0) (by omega) (by decide)).mp e; omega), pk_lDiv (by omega) gp (by omega), zpV_eq A.1 (Nat.le_of_ble_eq_true rfl)]
      obtain ⟨A1, F1⟩ := A.obj (M.1, M.2.1, M.2.2.1, lN (u / Nat.gcd u d), M.2.2.2.2)
      dsimp only [List.set, moE] at A1 F1 ⊢
      generalize zset h m _ = g1 at A1 F1 ⊢
      rw [zdvJ_of (fun e => by have := (pk_lEQ (b := 0) (by omega) (by decide)).mp e; omega), pk_lDiv (by omega) gp (by omega), zpV_eq A1.1 (Nat.le_of_ble_eq_true rfl)]
      obtain ⟨A2, F2⟩ := A1.obj (M.1, M.2.1, M.2.2.1, lN (u / Nat.gcd u d), lN (d / Nat.gcd u d), M.2.2.2.2.2)
      exact ⟨_, rfl, A2, F1.tr F2⟩
    · have hm := Nat.mod_lt v (show 0 < w by omega)
      rw [if_neg (show ¬ lg_cmp (lN w) 0 = 0 from fun e => z ((pk_lEQ (b := 0) (by omega) (by decide)).mp ((lg_cmp_eq _ _).mp e))), zdvJ_of (fun e => z ((pk_lEQ (b := 0) (by omega) (by decide)).mp e)), zlt_eq, pk_lRem (by omega) (by omega) (by omega)]
      refine ih w (v % w) h M (by omega) hw (by omega) ?_ A
      rw [Nat.gcd_comm w, ← Nat.gcd_rec w v, Nat.gcd_comm w v]; exact hg
theorem q_X10_fraction {u d : Nat} {h : zH} {M : Mo} (hd : 0 < d) (hu : u < 5000) (hd2 : d < 5000) (A : MAll h m M nf sf bf jf jb ju xf rf yf of) : ∃ h', f_X10_fraction m (lN u) (lN d) h = rV h' ∧ MAll h' m (M.1, M.2.1, M.2.2.1, lN (u / Nat.gcd u d), lN (d / Nat.gcd u d), M.2.2.2.2.2) nf sf bf jf jb ju xf rf yf of ∧ Fr h h' m (m + 11) :=
  q_X10_fraction_6 hd hu hd2 zF u d h M (by show d < 20000; omega) hu hd2 rfl A
end FRA
/-! which rows of pieces can be put on -/
theorem canPut_iff {n L i : Nat} {S : Sd} {W : Wr} (o : okW n L W) (h8 : n ≤ 8) (hi : i < 8) : canPut S W L i = true ↔ (oN W.1 L).testBit i = false ∧ 1 ≤ sHol (S.2.2.1 i) (S.2.2.2.2 i) (W.2.1 i) ∧ ∀ j, (oN W.1 L).testBit j = true → sMat S i j = true := by
  unfold canPut
  rw [Bool.and_eq_true, Bool.and_eq_true, decide_eq_true_eq, allN_iff, allN_iff]
  constructor
  · intro ⟨h1, h2, h3⟩
    refine ⟨?_, h2, fun j hj => ?_⟩
    · cases q : (oN W.1 L).testBit i with
      | false => rfl
      | true =>
        obtain ⟨k, hk, e⟩ := (oN_bit i).mp q
        have := h1 k hk
        rw [(o.ixx h8 hk).2, e] at this
        simp at this
    · obtain ⟨k, hk, e⟩ := (oN_bit j).mp hj
      have := h3 k hk
      rw [e] at this; exact this
  · intro ⟨h1, h2, h3⟩
    refine ⟨fun k hk => ?_, h2, fun k hk => h3 _ ((oN_bit _).mpr ⟨k, hk, rfl⟩)⟩
    cases q : decide (W.1 k = nI i) with
    | false => rfl
    | true =>
      have e : W.1 k = nI i := of_decide_eq_true q
      have : (oN W.1 L).testBit i = true := (oN_bit i).mpr ⟨k, hk, by rw [e, ix_nI (by omega)]⟩
      rw [this] at h1; cases h1
def abN (S : Sd) (W : Wr) (L n : Nat) : Nat := mkN (canMove S W L 0) n
def gPre (S : Sd) (W : Wr) (L n had : Nat) : Bool := subB had (abN S W L n) && amS S n had
def gSt (S : Sd) (W : Wr) (L n s : Nat) : Bool := subB s (abN S W L n) && (decide (cvT S.2.2.1 (s ||| oN W.1 L) n = 15) && amS S n s)
theorem gPre_add {n L i had : Nat} {S : Sd} {W : Wr} (h8 : n ≤ 8) (hh : had < 256) (hi : i < n) (hb : had.testBit i = false) : gPre S W L n (had ||| 2 ^ i) = true ↔ gPre S W L n had = true ∧ canPut S W L i = true ∧ ∀ j, j < 8 → had.testBit j = true → sMat S i j = true := by
  have hlt : had ||| 2 ^ i < 256 := or_lt256 hh (two_lt _ (by omega))
  unfold gPre
  rw [Bool.and_eq_true, Bool.and_eq_true, subB_iff hlt, subB_iff hh, amS_iff hlt h8, amS_iff hh h8]
  have bi : (had ||| 2 ^ i).testBit i = true := by rw [or_bit, bit_single, decide_eq_true rfl, Bool.or_true]
  have bo : ∀ j, had.testBit j = true → (had ||| 2 ^ i).testBit j = true := fun j b => by rw [or_bit, b, Bool.true_or]
  constructor
  · intro ⟨h1, h2⟩
    refine ⟨⟨fun j hj b => h1 j hj (bo j b), fun a b ha hb b1 b2 hne => h2 a b ha hb (bo a b1) (bo b b2) hne⟩, ?_, fun j hj b => ?_⟩
    · have := h1 i (by omega) bi
      unfold abN at this
      rw [mkN_bit, Bool.and_eq_true] at this
      exact this.2
    · exact (h2 i j hi hj bi (bo j b) (fun e => by rw [e, b] at hb; cases hb)).2
  · intro ⟨⟨h1, h2⟩, h3, h4⟩
    have sp : ∀ j, (had ||| 2 ^ i).testBit j = true → had.testBit j = true ∨ j = i := fun j b => by
      rw [or_bit, Bool.or_eq_true, bit_single, decide_eq_true_eq] at b
      rcases b with b | b
      · exact Or.inl b
      · exact Or.inr b.symm
    refine ⟨fun j hj b => ?_, fun a b ha hb8 b1 b2 hne => ?_⟩
    · rcases sp j b with q | q
      · exact h1 j hj q
      · subst q; unfold abN; rw [mkN_bit, decide_eq_true hi]; exact h3
    · rcases sp a b1 with q1 | q1
      · rcases sp b b2 with q2 | q2
        · exact h2 a b ha hb8 q1 q2 hne
        · subst q2; exact ⟨hi, by rw [sMat_comm]; exact h4 a (by omega) q1⟩
      · subst q1
        rcases sp b b2 with q2 | q2
        · refine ⟨?_, h4 b hb8 q2⟩
          have := h1 b hb8 q2
          unfold abN at this
          rw [mkN_bit, Bool.and_eq_true, decide_eq_true_eq] at this
          exact this.1
        · exact absurd q2.symm hne
theorem oN_cong {f g : Nat → Int32} : ∀ {L : Nat}, (∀ k, k < L → f k = g k) → oN f L = oN g L
  | 0, _ => rfl
  | L + 1, h => by rw [oN, oN, oN_cong (fun k hk => h k (by omega)), h L (by omega)]
/-- how the wear stands behind the pieces had -/
def stW (S : Sd) (W : Wr) (L n had : Nat) (W' : Wr) (L' : Nat) : Prop := okW n L' W' ∧ oN W'.1 L' = oN W.1 L ||| had ∧ ∀ j, j < 8 → had.testBit j = false → W'.2.1 j = W.2.1 j
theorem stW.can {n L L' i had : Nat} {S : Sd} {W W' : Wr} (st : stW S W L n had W' L') (ow : okW n L W) (h8 : n ≤ 8) (hh : had < 256) (hi : i < n) (hb : had.testBit i = false) (pre : gPre S W L n had = true) : canPut S W' L' i = gPre S W L n (had ||| 2 ^ i) := by
  obtain ⟨s1, s2, s3⟩ := st
  apply Bool.eq_iff_iff.mpr
  rw [gPre_add h8 hh hi hb, canPut_iff s1 h8 (by omega), canPut_iff ow h8 (by omega), s2, s3 i (by omega) hb]
  have hadl : ∀ j, had.testBit j = true → j < 8 := fun j b => by
    rcases Nat.lt_or_ge j 8 with q | q
    · exact q
    · rw [tb_hi hh q] at b; cases b
  constructor
  · intro ⟨h1, h2, h3⟩
    rw [or_bit, Bool.or_eq_false_iff] at h1
    exact ⟨pre, ⟨h1.1, h2, fun j b => h3 j (by rw [or_bit, b, Bool.true_or])⟩, fun j _ b => h3 j (by rw [or_bit, b, Bool.or_true])⟩
  · intro ⟨_, ⟨h1, h2, h3⟩, h4⟩
    refine ⟨by rw [or_bit, h1, hb]; rfl, h2, fun j b => ?_⟩
    rw [or_bit, Bool.or_eq_true] at b
    rcases b with b | b
    · exact h3 j b
    · exact h4 j (hadl j b) b
theorem stW.put {n L L' i had : Nat} {S : Sd} {W W' : Wr} (st : stW S W L n had W' L') (h8 : n ≤ 8) (hi : i < n) (hc : canPut S W' L' i = true) : stW S W L n (had ||| 2 ^ i) (moveW W' L' 0 i) (moveL L' 0) := by
  obtain ⟨s1, s2, s3⟩ := st
  refine ⟨s1.move h8 hi (S := S) (what := 0) (Or.inl rfl) (Or.inl hc), ?_, fun j hj b => ?_⟩
  · show oN (upd W'.1 L' (nI i)) (L' + 1) = _
    rw [oN, upd_self, ix_nI (by omega), oN_cong (g := W'.1) (fun k hk => upd_ne _ _ (by omega)), s2, Nat.or_assoc]
  · rw [or_bit, Bool.or_eq_false_iff, bit_single, decide_eq_false_iff_not] at b
    show upd W'.2.1 i (W'.2.1 i + 1) j = _
    rw [upd_ne _ _ (fun e => b.2 e.symm)]
    exact s3 j hj b.1
theorem stW.cov {n L L' had : Nat} {S : Sd} {W W' : Wr} (st : stW S W L n had W' L') (ok : okS n S) (hh : had < 256) (ow : okW n L W) : sCd S W'.1 L' = nI (cvT S.2.2.1 (had ||| oN W.1 L) n) := by
  rw [← cover_eq ok st.1, (st.1.onN ok.2.1).1, st.2.1, Nat.or_comm, sSet_cvT (or_lt256 hh (ow.onN ok.2.1).2) ok.2.1]
