/-! days -/
def subB (s a : Nat) : Bool := decide (andn s a = 0)
/-- the most of those in rows k .. k + d - 1 that are in A and have nothing in common -/
def dyF (r : Nat → Nat) (k : Nat) : Nat → Nat → Nat
  | 0, _ => 0
  | d + 1, a => max (dyF r k d a) (if subB (r (k + d)) a then dyF r k d (andn a (r (k + d))) + 1 else 0)
theorem mx4 (a c e f : Nat) (p q s t : Bool) (h : (p && q) = (s && t)) : max (max a (if s then e + 1 else 0)) (if p then max c (if q then f + 1 else 0) + 1 else 0) = max (max a (if p then c + 1 else 0)) (if s then max e (if t then f + 1 else 0) + 1 else 0) := by
  cases p <;> cases q <;> cases s <;> cases t <;> first
    | exact absurd h (by decide)
    | (simp only [Bool.false_eq_true, ↓reduceIte, if_true, if_false]; done)
    | (simp only [Bool.false_eq_true, ↓reduceIte, if_true, if_false]; omega)
theorem mx3 (a b c : Nat) : max (max a (1 + b)) c = max a (max c (b + 1)) := by
  rw [Nat.add_comm 1 b, Nat.max_assoc, Nat.max_comm (b + 1) c]
theorem andn_comm (a b c : Nat) : andn (andn a b) c = andn (andn a c) b := by
  refine eq8 (andn_lt _ _) (andn_lt _ _) (fun i hi => ?_)
  rw [andn_bit hi, andn_bit hi, andn_bit hi, andn_bit hi]
  cases a.testBit i <;> cases b.testBit i <;> cases c.testBit i <;> rfl
theorem subB_iff {s a : Nat} (hs : s < 256) : subB s a = true ↔ ∀ i, i < 8 → s.testBit i = true → a.testBit i = true := by
  unfold subB
  rw [decide_eq_true_eq, andn0 hs]
theorem sub_comm {s t a : Nat} (hs : s < 256) (ht : t < 256) : (subB t a && subB s (andn a t)) = (subB s a && subB t (andn a s)) := by
  apply Bool.eq_iff_iff.mpr
  rw [Bool.and_eq_true, Bool.and_eq_true, subB_iff hs, subB_iff ht, subB_iff hs, subB_iff ht]
  constructor
  · intro ⟨h1, h2⟩
    refine ⟨fun i hi b => ?_, fun i hi b => ?_⟩
    · have := h2 i hi b
      rw [andn_bit hi, Bool.and_eq_true] at this
      exact this.1
    · rw [andn_bit hi, h1 i hi b, Bool.true_and]
      cases q : s.testBit i with
      | false => rfl
      | true =>
        have := h2 i hi q
        rw [andn_bit hi, b] at this
        simp at this
  · intro ⟨h1, h2⟩
    refine ⟨fun i hi b => ?_, fun i hi b => ?_⟩
    · have := h2 i hi b
      rw [andn_bit hi, Bool.and_eq_true] at this
      exact this.1
    · rw [andn_bit hi, h1 i hi b, Bool.true_and]
      cases q : t.testBit i with
      | false => rfl
      | true =>
        have := h2 i hi q
        rw [andn_bit hi, b] at this
        simp at this
theorem dyF_bot {r : Nat → Nat} (hr : ∀ i, r i < 256) (k : Nat) : ∀ d a, dyF r k (d + 1) a = max (dyF r (k + 1) d a) (if subB (r k) a then dyF r (k + 1) d (andn a (r k)) + 1 else 0)
  | 0, a => rfl
  | d + 1, a => by
    have ih := dyF_bot hr k d
    rw [dyF, ih a, ih (andn a (r (k + (d + 1)))), dyF, dyF, show k + 1 + d = k + (d + 1) by omega, andn_comm a (r k) (r (k + (d + 1)))]
    exact mx4 _ _ _ _ _ _ _ _ (sub_comm (hr _) (hr _))
theorem dyF_le (r : Nat → Nat) (k : Nat) : ∀ d a, dyF r k d a ≤ d
  | 0, _ => Nat.le_refl _
  | d + 1, a => by
    have h1 := dyF_le r k d a
    have h2 := dyF_le r k d (andn a (r (k + d)))
    rw [dyF]
    split <;> omega
theorem bit_ne0 {s : Nat} (hs : s < 256) (h0 : s ≠ 0) : ∃ i, i < 8 ∧ s.testBit i = true := by
  by_cases q : ∃ i, i < 8 ∧ s.testBit i = true
  · exact q
  · refine absurd (eq8 hs (by omega : 0 < 256) (fun i hi => ?_)) h0
    rw [Nat.zero_testBit]
    cases b : s.testBit i with
    | false => rfl
    | true => exact absurd ⟨i, hi, b⟩ q
theorem sub_0 {s : Nat} (hs : s < 256) (h0 : s ≠ 0) : subB s 0 = false := by
  cases q : subB s 0 with
  | false => rfl
  | true =>
    obtain ⟨i, hi, b⟩ := bit_ne0 hs h0
    have := (subB_iff hs).mp q i hi b
    rw [Nat.zero_testBit] at this; cases this
theorem dyF_0 {r : Nat → Nat} (hr : ∀ i, r i < 256) (hz : ∀ i, r i ≠ 0) (k : Nat) : ∀ d, dyF r k d 0 = 0
  | 0 => rfl
  | d + 1 => by rw [dyF, sub_0 (hr _) (hz _), dyF_0 hr hz k d, if_neg (by decide)]; rfl
theorem cntN_sub {p q : Nat → Bool} : ∀ {b : Nat}, (∀ k, k < b → p k = true → q k = true) → cntN p b ≤ cntN q b
  | 0, _ => Nat.le_refl _
  | b + 1, h => by
    have ih := cntN_sub (b := b) (fun k hk => h k (by omega))
    rw [cntN, cntN]
    cases hp : p b with
    | false => rw [if_neg (by decide)]; split <;> omega
    | true => rw [if_pos rfl, h b (by omega) hp, if_pos rfl]; omega
theorem cntN_strict {p q : Nat → Bool} : ∀ {b : Nat}, (∀ k, k < b → p k = true → q k = true) → (∃ i, i < b ∧ q i = true ∧ p i = false) → cntN p b < cntN q b
  | 0, _, ⟨i, hi, _⟩ => absurd hi (Nat.not_lt_zero i)
  | b + 1, h, ⟨i, hi, h1, h2⟩ => by
    have le := cntN_sub (b := b) (fun k hk => h k (by omega))
    rw [cntN, cntN]
    by_cases e : i = b
    · subst e
      rw [h1, h2, if_neg (by decide), if_pos rfl]; omega
    · have ih := cntN_strict (b := b) (fun k hk => h k (by omega)) ⟨i, by omega, h1, h2⟩
      cases hp : p b with
      | false => rw [if_neg (by decide)]; split <;> omega
      | true => rw [if_pos rfl, h b (by omega) hp, if_pos rfl]; omega
theorem pc_andn {a s : Nat} (hs : s < 256) (h0 : s ≠ 0) (h : subB s a = true) : pcount (andn a s) < pcount a := by
  obtain ⟨i, hi, b⟩ := bit_ne0 hs h0
  refine cntN_strict (fun k hk hb => ?_) ⟨i, hi, (subB_iff hs).mp h i hi b, ?_⟩
  · rw [andn_bit hk, Bool.and_eq_true] at hb
    exact hb.1
  · rw [andn_bit hi, b]; simp
theorem pc_0 {a : Nat} (ha : a < 256) (h : pcount a = 0) : a = 0 := by
  by_cases q : a = 0
  · exact q
  · obtain ⟨i, hi, b⟩ := bit_ne0 ha q
    have := cntN_strict (p := fun _ => false) (q := fun k => a.testBit k) (b := 8) (fun k _ e => by cases e) ⟨i, hi, b, rfl⟩
    unfold pcount at h
    omega
/-! the class -/
theorem q_X7_mostApartFrom {h : zH} {w N : Nat} {p : Nat → Bool} {r : Nat → Nat} (hw : WD h w N p) (hN : N ≤ 70) (hr : ∀ i, r i < 256) (hz : ∀ i, r i ≠ 0) (he : ∀ i, i < N → rowN p 256 i = r i) : ∀ (D k t dp : Nat), k ≤ N → t < 256 → dp ≤ 8 → 9 ≤ D + dp → pcount (andn 255 t) + dp ≤ 8 → f_X7_mostApartFrom D w (nI k) (nI t) (nI dp) h = rI (nI (dyF r k (N - k) (andn 255 t))) h := by
  obtain ⟨w1, f, w2, w3⟩ := hw
  intro D
  induction D with
  | zero => intro k t dp _ _ _ _ _; omega
  | succ D ih =>
    intro k t dp hk ht hdp hD hpc
    rw [f_X7_mostApartFrom]
    unfold f_X7_mostApartFrom_body f_X7_mostApartFrom_68
    rcases Nat.lt_or_ge dp 8 with hd8 | hd8
    · rw [if_neg (show ¬ (8 : Int32) ≤ nI dp from nI_ge (b := 8) hd8 (by decide))]
      have loop : ∀ (e j g a : Nat), j + e = N → e < g → a ≤ 1000 → f_X7_mostApartFrom_12 (f_X7_mostApartFrom D) g w (nI t) (nI dp) (nI a) (nI j) h = rI (nI (max a (dyF r j e (andn 255 t)))) h := by
        intro e
        induction e with
        | zero =>
          intro j g a hj hg ha
          obtain ⟨g, rfl⟩ : ∃ g', g = g' + 1 := ⟨g - 1, by omega⟩
          rw [f_X7_mostApartFrom_12, zgI_eq w1 rfl, if_pos (nI_le (by omega) (by omega))]
          unfold f_X7_mostApartFrom_68
          rw [dyF, Nat.max_zero]; rfl
        | succ e ihe =>
          intro j g a hj hg ha
          obtain ⟨g, rfl⟩ : ∃ g', g = g' + 1 := ⟨g - 1, by omega⟩
          have er : f j = nI (r j) := by rw [w3 j (by omega), he j (by omega)]
          have hsub : nI (r j) &&& nI t = 0 ↔ subB (r j) (andn 255 t) = true := by
            rw [nI_and, nI_0iff (by have := Nat.and_le_left (n := r j) (m := t); have := hr j; omega), subB_iff (hr j)]
            constructor
            · intro z i hi b
              have := Nat.testBit_and (r j) t i
              rw [z, Nat.zero_testBit, b, Bool.true_and] at this
              rw [andn_bit hi, ← this, show (255 : Nat).testBit i = decide (i < 8) from Nat.testBit_two_pow_sub_one 8 i, decide_eq_true hi]; rfl
            · intro z
              refine eq8 (by have := Nat.and_le_left (n := r j) (m := t); have := hr j; omega) (by omega) (fun i hi => ?_)
              rw [Nat.testBit_and, Nat.zero_testBit]
              cases b : (r j).testBit i with
              | false => rfl
              | true =>
                have := z i hi b
                rw [andn_bit hi, Bool.and_eq_true, Bool.not_eq_true'] at this
                rw [this.2]; rfl
          rw [f_X7_mostApartFrom_12, zgI_eq w1 rfl, if_neg (nI_ge (show j < N by omega) (by omega)), zgR_eq w1 rfl, zaI_nI w2 (by omega) (by decide), er, dyF_bot hr]
          unfold f_X7_mostApartFrom_62
          have le1 := dyF_le r (j + 1) e (andn 255 t)
          cases q : subB (r j) (andn 255 t) with
          | false =>
            rw [if_neg (fun z => by rw [hsub.mp z] at q; cases q), nI_1, ihe (j + 1) g a (by omega) (by omega) ha, if_neg (by decide), Nat.max_zero]
          | true =>
            have hto : t ||| r j < 256 := or_lt256 ht (hr j)
            have ea : andn 255 (t ||| r j) = andn (andn 255 t) (r j) := by
              refine eq8 (andn_lt _ _) (andn_lt _ _) (fun i hi => ?_)
              rw [andn_bit hi, andn_bit hi, andn_bit hi, Nat.testBit_or]
              cases (255 : Nat).testBit i <;> cases t.testBit i <;> cases (r j).testBit i <;> rfl
            have pcl := pc_andn (hr j) (hz j) q
            rw [← ea] at pcl
            have er2 := ih (j + 1) (t ||| r j) (dp + 1) (by omega) hto (by omega) (by omega) (by omega)
            rw [show N - (j + 1) = e by omega, ea] at er2
            have le2 := dyF_le r (j + 1) e (andn (andn 255 t) (r j))
            rw [if_pos (hsub.mpr q), zgR_eq w1 rfl, zaI_nI w2 (by omega) (by decide), er, zoc_eq w1, nI_1 j, nI_or, nI_1 dp, zcI_of er2, zlt_eq, show (1 : Int32) + nI (dyF r (j + 1) e (andn (andn 255 t) (r j))) = nI (1 + dyF r (j + 1) e (andn (andn 255 t) (r j))) from nI_add 1 _, if_pos rfl]
            have emx : (if nI a < nI (1 + dyF r (j + 1) e (andn (andn 255 t) (r j))) then nI (1 + dyF r (j + 1) e (andn (andn 255 t) (r j))) else nI a) = nI (max a (1 + dyF r (j + 1) e (andn (andn 255 t) (r j)))) := by
              by_cases z : a < 1 + dyF r (j + 1) e (andn (andn 255 t) (r j))
              · rw [if_pos (nI_lt z (by omega)), Nat.max_eq_right (by omega)]
              · rw [if_neg (nI_nlt (by omega) (by omega)), Nat.max_eq_left (by omega)]
            have l3 : max a (1 + dyF r (j + 1) e (andn (andn 255 t) (r j))) ≤ 1000 := Nat.max_le.mpr ⟨ha, by omega⟩
            rw [emx, ihe (j + 1) g _ (by omega) (by omega) l3, mx3]
      have := loop (N - k) k zF 0 (by omega) (by show N - k < 20000; omega) (by omega)
      rw [Nat.zero_max] at this
      exact this
    · have e8 : dp = 8 := by omega
      subst e8
      rw [if_pos (show (8 : Int32) ≤ nI 8 from Int32.le_refl _), pc_0 (andn_lt _ _) (by omega), dyF_0 hr hz]
      rfl
/-! the model -/
def dyR (p : Nat → Bool) (i : Nat) : Nat := if i < cntN p 256 then rowN p 256 i else 1
theorem q_X10_days_48 {h : zH} {m s k : Nat} {M : Mo} {nf sf bf jf jb ju xf rf of : Nat → Int32} {r : Nat → Nat} (K : Nat → Int32 → zH → zR) (hs : s < 256) (h0 : s ≠ 0) (es : r k = s) (hk : k ≤ 70) : ∀ (j fuel : Nat) (g : zH) (y : Nat → Int32), j ≤ 256 → j < fuel → MAll g m M nf sf bf jf jb ju xf rf y of → Fr h g m (m + 11) → (∀ a, a < j → y a = nI (dyF r 0 k a)) → (∀ a, j ≤ a → a < 256 → y a = nI (dyF r 0 (k + 1) a)) → ∃ g' y', f_X10_days_48 K fuel m (nI s) (nI j - 1) g = f_X10_days_124 K m (nI s) g' ∧ MAll g' m M nf sf bf jf jb ju xf rf y' of ∧ Fr h g' m (m + 11) ∧ ∀ a, a < 256 → y' a = nI (dyF r 0 (k + 1) a)
  | 0, 0, _, _, _, hf, _, _, _, _ => absurd hf (by omega)
  | 0, fuel + 1, g, y, _, _, A, F, _, hy => by
    rw [f_X10_days_48, if_pos (by decide)]
    exact ⟨g, y, rfl, A, F, fun a ha => hy a (by omega) ha⟩
  | j + 1, 0, _, _, _, hf, _, _, _, _ => absurd hf (by omega)
  | j + 1, fuel + 1, g, y, hj, hf, A, F, hlo, hhi => by
    have l1 := dyF_le r 0 k j
    have l2 := dyF_le r 0 k (andn j s)
    have al := andn_lt j s
    have en : dyF r 0 (k + 1) j = max (dyF r 0 k j) (if subB s j then dyF r 0 k (andn j s) + 1 else 0) := by rw [dyF, Nat.zero_add, es]
    have next := q_X10_days_48 (h := h) (m := m) (M := M) (nf := nf) (sf := sf) (bf := bf) (jf := jf) (jb := jb) (ju := ju) (xf := xf) (rf := rf) (of := of) K hs h0 es hk j fuel
    obtain ⟨A2, F2⟩ := A.s9 (upd y j (nI (dyF r 0 (k + 1) j)))
    obtain ⟨g', y', e1, e2, e3, e4⟩ := next (zset g (m + 9) (.inl (0, 256, .inl (upd y j (nI (dyF r 0 (k + 1) j)))))) (upd y j (nI (dyF r 0 (k + 1) j))) (by omega) (by omega) A2 (F.tr F2) (fun a ha => by rw [upd_ne _ _ (by omega)]; exact hlo a (by omega)) (fun a h1 h2 => by
      by_cases z : a = j
      · subst z; exact upd_self _ _ _
      · rw [upd_ne _ _ z]; exact hhi a (by omega) h2)
    refine ⟨g', y', ?_, e2, e3, e4⟩
    rw [← e1, nI_pred, f_X10_days_48, if_neg (nI_pos (by omega)), nI_andn hs]
    have fin : ∀ t : Bool, (t = true ↔ subB s j = true ∧ dyF r 0 k j < dyF r 0 k (andn j s) + 1) → (t = true → andn j s < j) → f_X10_days_86 (f_X10_days_48 K fuel) m (nI s) (nI j) (b2i t) g = f_X10_days_48 K fuel m (nI s) (nI j - 1) (zset g (m + 9) (.inl (0, 256, .inl (upd y j (nI (dyF r 0 (k + 1) j)))))) := by
      intro t ht hlt
      unfold f_X10_days_86 f_X10_days_117
      rw [zgR_eq A.1 rfl, zgR_eq A.1 rfl, zgR_eq A.1 rfl, addm1]
      cases t with
      | false =>
        rw [if_pos (by decide), zaI_nI A.2.2.2.2.2.2.2.2.2.1 (by omega) (by decide), zsI_x (nI j) j rfl A.2.2.2.2.2.2.2.2.2.1 (by omega) (by decide), hlo j (by omega), en]
        have : max (dyF r 0 k j) (if subB s j then dyF r 0 k (andn j s) + 1 else 0) = dyF r 0 k j := by
          refine Nat.max_eq_left ?_
          cases q : subB s j with
          | false => rw [if_neg (by decide)]; omega
          | true =>
            rw [if_pos rfl]
            rcases Nat.lt_or_ge (dyF r 0 k j) (dyF r 0 k (andn j s) + 1) with z | z
            · exact absurd (ht.mpr ⟨q, z⟩) (by decide)
            · exact z
        rw [this]
      | true =>
        obtain ⟨t1, t2⟩ := ht.mp rfl
        rw [if_neg (by decide), nI_andn (show j < 256 by omega), zaI_nI A.2.2.2.2.2.2.2.2.2.1 (by omega) (by decide), hlo (andn j s) (by have := hlt rfl; omega), zsI_x (nI j) j rfl A.2.2.2.2.2.2.2.2.2.1 (by omega) (by decide), en, t1, if_pos rfl, nI_1, Nat.max_eq_right (by omega)]
    cases q : subB s j with
    | false =>
      have : ¬ nI (andn s j) = 0 := fun z => by
        have := (nI_0iff (by have := andn_lt s j; omega)).mp z
        unfold subB at q
        rw [decide_eq_true this] at q; cases q
      rw [if_neg this]
      unfold f_X10_days_85
      exact fin false (by rw [q]; simp) (fun z => by cases z)
    | true =>
      have e0 : andn s j = 0 := by unfold subB at q; exact of_decide_eq_true q
      have lt : andn j s < j := by
        rcases Nat.lt_trichotomy (andn j s) j with z | z | z
        · exact z
        · exfalso
          have := pc_andn hs h0 q
          rw [z] at this; omega
        · exfalso
          have : andn j s ≤ j := by
            refine Nat.le_of_testBit (fun i hb => ?_)
            rw [andn_bitA, Bool.and_eq_true, Bool.and_eq_true] at hb
            exact hb.2.1
          omega
      rw [if_pos ((nI_0iff (by omega)).mpr e0), zgR_eq A.1 rfl, nI_andn (show j < 256 by omega), zaI_nI A.2.2.2.2.2.2.2.2.2.1 (by omega) (by decide), hlo (andn j s) (by omega), zgR_eq A.1 rfl, zaI_nI A.2.2.2.2.2.2.2.2.2.1 (by omega) (by decide), hlo j (by omega), nI_1]
      unfold f_X10_days_85
      by_cases z : dyF r 0 k (andn j s) + 1 ≤ dyF r 0 k j
      · rw [if_pos (nI_le z (by omega))]
        exact fin false (by constructor; intro y; cases y; intro y; omega) (fun y => by cases y)
      · rw [if_neg (nI_ge (by omega) (by omega))]
        exact fin true (by constructor; intro y; exact ⟨q, by omega⟩; intro y; rfl) (fun _ => lt)
theorem op_days : Both f_X9_days f_X10_days := by
  refine Both.ask (fun T o => ?_)
  obtain ⟨en, hn⟩ := o.1.n
  have c70 : cntN (tP T) 256 ≤ 70 := oP_70 hn
  have ct : cntN (tP T) 256 = cntN (tP T) (2 ^ dn (tD T)) := oP_top hn
  obtain ⟨p1, p2⟩ := p256 hn
  have hr : ∀ i, dyR (tP T) i < 256 := fun i => by
    unfold dyR
    split
    · exact (rowN_spec (tP T) 256 i ‹_›).1
    · omega
  have hz : ∀ i, dyR (tP T) i ≠ 0 := fun i => by
    unfold dyR
    split
    · intro z
      have := (rowN_spec (tP T) 256 i ‹_›).2.1
      rw [z, show tP T 0 = false from oP_0] at this; cases this
    · omega
  have he : ∀ i, i < cntN (tP T) 256 → rowN (tP T) 256 i = dyR (tP T) i := fun i hi => by
    unfold dyR
    rw [if_pos hi]
  refine ⟨.int (nI (dyF (dyR (tP T)) 0 (cntN (tP T) 256) 255)), ?_, ?_⟩
  · intro h x r
    obtain ⟨h1, e1, w1, r1, f1⟩ := q_X9_find r o
    refine ⟨h1, ?_, r1, f1⟩
    obtain ⟨x0, x1, x2, x3, x4, x5, x6, ⟨sd, sw, sr, ⟨g4, c2, s4, s5⟩, srest⟩⟩ := id r
    have e255 : andn 255 0 = 255 := by decide +kernel
    have e := q_X7_mostApartFrom w1 c70 hr hz he 10 0 0 0 (by omega) (by omega) (by omega) (by omega) (by have := pc_le8 (andn 255 0); omega)
    rw [e255, Nat.sub_zero] at e
    unfold f_X9_days f_X7_mostApart
    rw [zgR_eq r.1 rfl, zgR_eq r.1 rfl, zoc_eq s4, zcV_of e1, zgR_eq r1.1 rfl, zoc_eq w1.1, zoc_eq w1.1]
    rw [zcI_of (show (zcI (f_X7_mostApartFrom 10 (x + 76) 0 0 0 h1) fun x1 h2 => zrI x1 h2) = rI (nI (dyF (dyR (tP T)) 0 (cntN (tP T) 256) 255)) h1 by rw [zcI_of (show f_X7_mostApartFrom 10 (x + 76) 0 0 0 h1 = _ from e)]; rfl)]
    rfl
  · intro h m r
    obtain ⟨im, sp, bg, tk, va, nf, sf, bf, jf, jb, ju, xf, rf, yf, of, A, B⟩ := r.all
    obtain ⟨M, nf', n0, n1, n2, n3, n4⟩ := r.now
    have en2 : nf' = nf := by
      have := n1.symm.trans A.2.1
      simpa using this
    subst en2
    -- all are 0 at first
    refine zloopE (fun f k g => f_X10_days_2 f m (nI k) g) (fun k g => MAll g m (dPc (tD T), im, nI (tL T), tA T, tB T, sp, bg, tk, va) nf' sf bf jf jb ju xf rf (filF (fun _ => 0) yf k) of ∧ Fr h g m (m + 11)) 256 (fun z => ∃ h1, z = some (some (.int (nI (dyF (dyR (tP T)) 0 (cntN (tP T) 256) 255))), h1) ∧ RM h1 m T ∧ Fr h h1 m (m + 11)) ?_ ?_ zF 0 h (Nat.zero_le _) (zF_gt (by omega)) ⟨by rw [filF_0]; exact A, Fr.rf⟩
    · intro f g ⟨A1, F1⟩
      show ∃ h1, f_X10_days_2 (f + 1) m (nI 256) g = _ ∧ _
      rw [f_X10_days_2, if_pos (show (256 : Int32) ≤ nI 256 from Int32.le_refl _)]
      have c1 : cntN (tP T) 1 = 0 := oP_c1
      refine zloopE (fun f s g => f_X10_days_24 f m (nI s) g) (fun s g => 1 ≤ s ∧ ∃ y, MAll g m (dPc (tD T), im, nI (tL T), tA T, tB T, sp, bg, tk, va) nf' sf bf jf jb ju xf rf y of ∧ Fr h g m (m + 11) ∧ ∀ a, a < 256 → y a = nI (dyF (dyR (tP T)) 0 (cntN (tP T) s) a)) (2 ^ dn (tD T)) (fun z => ∃ h1, z = some (some (.int (nI (dyF (dyR (tP T)) 0 (cntN (tP T) 256) 255))), h1) ∧ RM h1 m T ∧ Fr h h1 m (m + 11)) ?_ ?_ zF 1 g (by omega) (by show 2 ^ dn (tD T) < 20000 + 1; omega) ⟨Nat.le_refl _, _, A1, F1, fun a ha => by rw [c1]; unfold filF; rw [if_pos ha]; rfl⟩
      · intro f g ⟨_, y, A2, F2, hy⟩
        show ∃ h1, f_X10_days_24 (f + 1) m (nI (2 ^ dn (tD T))) g = _ ∧ _
        rw [f_X10_days_24, zgR_eq A2.1 rfl, zaI_x 0 0 rfl A2.2.1 (by decide) (by decide), n2.1, en, sh1N (dn (tD T)) (by omega), if_pos (Int32.le_refl _), zgR_eq A2.1 rfl, zaI_x 255 255 rfl A2.2.2.2.2.2.2.2.2.2.1 (by decide) (by decide), hy 255 (by omega), ← ct]
        exact ⟨g, rfl, RM.mk A2 B, F2⟩
      · intro f s g hs ⟨hs1, y, A2, F2, hy⟩
        have hs256 : s < 256 := by omega
        show ∃ g', _ ∧ f_X10_days_24 (f + 1) m (nI s) g = f_X10_days_24 f m (nI (s + 1)) g'
        rw [f_X10_days_24, zgR_eq A2.1 rfl, zaI_x 0 0 rfl A2.2.1 (by decide) (by decide), n2.1, en, sh1N (dn (tD T)) (by omega), if_neg (nI_ge hs (by omega)), zoc_eq A2.1, zcI_of (q_X10_isOutfit A2.1 A2.2.1 n2 n3 o.1.1 hs256), ← oP_lo hs]
        cases q : oP (tD T).1 (dW (tD T)) (dn (tD T)) s with
        | false =>
          have ec : cntN (tP T) (s + 1) = cntN (tP T) s := by rw [cntN, show tP T s = false from q, if_neg (by decide)]
          rw [if_pos (by decide)]
          unfold f_X10_days_124
          rw [nI_1]
          exact ⟨g, ⟨by omega, y, A2, F2, by rw [ec]; exact hy⟩, rfl⟩
        | true =>
          obtain ⟨q1, q2⟩ := rowN_of (tP T) hs256 q
          have q3 : dyR (tP T) (cntN (tP T) s) = s := by rw [← he _ q1, q2]
          have s0 : s ≠ 0 := by omega
          obtain ⟨g', y', e1, e2, e3, e4⟩ := q_X10_days_48 (h := h) (r := dyR (tP T)) (f_X10_days_24 f) hs256 s0 q3 (by omega) 256 zF g y (Nat.le_refl _) (by show 256 < 20000; omega) A2 F2 hy (fun a h1 h2 => by omega)
          have ec : cntN (tP T) (s + 1) = cntN (tP T) s + 1 := by rw [cntN, show tP T s = true from q, if_pos rfl]
          rw [if_neg (by decide)]
          refine ⟨g', ⟨by omega, y', e2, e3, by rw [ec]; exact e4⟩, ?_⟩
          have : (255 : Int32) = nI 256 - 1 := by decide
          rw [this, e1]
          unfold f_X10_days_124
          rw [nI_1]
    · intro f k g hk ⟨A1, F1⟩
      obtain ⟨A2, F2⟩ := A1.s9 (filF (fun _ => 0) yf (k + 1))
      refine ⟨_, ⟨A2, F1.tr F2⟩, ?_⟩
      show f_X10_days_2 (f + 1) m (nI k) g = f_X10_days_2 f m (nI (k + 1)) _
      rw [f_X10_days_2, if_neg (show ¬ (256 : Int32) ≤ nI k from nI_ge (b := 256) hk (by decide)), zgR_eq A1.1 rfl, zsI_x (nI k) k rfl A1.2.2.2.2.2.2.2.2.2.1 hk (by decide), nI_1]
      show f_X10_days_2 f m (nI (k + 1)) (zset g (m + 9) (.inl (0, 256, .inl (upd (filF (fun _ => 0) yf k) k ((fun _ => 0) k))))) = _
      rw [filF_s]
