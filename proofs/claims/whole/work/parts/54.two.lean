/-! two -/
def gnS (S : Sd) (ab : Int32) (i j : Nat) : Int32 := if i = j then -2 else if hb ab i then (if hb ab j && !sMat S i j then -1 else nI (pcount (cvN (S.2.2.1 i))) + nI (pcount (andn (cvN (S.2.2.1 i)) (cvN (S.2.2.1 j))))) else 0
theorem q_X2_gain {h : zH} {d n i j : Nat} {S : Sd} {ab : Int32} (hS : RS h d S) (ok : okS n S) (hi : i < n) (hj : j < n) : f_X2_gain d ab (nI i) (nI j) h = rI (gnS S ab i j) h := by
  have h8 := ok.2.1
  have e1 := q_X1_spotsOf hS ok hi
  have e2 := q_X1_spotsOf hS ok hj
  have e3 := q_X1_match hS ok hi hj
  have c1 := cvN_lt (S.2.2.1 i)
  have c2 := andn_lt (cvN (S.2.2.1 i)) (cvN (S.2.2.1 j))
  obtain ⟨⟨nw, ps, nt, mk, pc, nc, mc, h1⟩, -⟩ := hS
  rw [sCov_nI] at e1 e2
  have tail : f_X2_gain_38 d (nI i) (nI j) h = rI (nI (pcount (cvN (S.2.2.1 i))) + nI (pcount (andn (cvN (S.2.2.1 i)) (cvN (S.2.2.1 j))))) h := by
    unfold f_X2_gain_38
    rw [zoc_eq h1, zcI_of e1, zcI_of (q_bitCount (by omega) h), zoc_eq h1, zcI_of e2, nI_andn (by omega), zcI_of (q_bitCount c2 h)]
    rfl
  unfold f_X2_gain gnS
  by_cases c : i = j
  · rw [if_pos (by rw [c]), if_pos c]; rfl
  · rw [if_neg (fun e => c ((nI_eq (by omega) (by omega)).mp e)), if_neg c]
    cases q : hb ab i with
    | false => rw [if_pos ((hb_iff0 _ _).mpr q), if_neg (by decide)]; rfl
    | true =>
      rw [if_neg (fun e => by rw [(hb_iff0 _ _).mp e] at q; cases q), if_pos rfl]
      cases p : hb ab j with
      | false => rw [if_neg (fun e => by rw [(hb_iff _ _).mp e] at p; cases p), tail, Bool.false_and, if_neg (by decide)]
      | true =>
        rw [if_pos ((hb_iff _ _).mpr p), zoc_eq h1, zcI_of e3, tail, Bool.true_and]
        cases sMat S i j
        · rw [if_pos (by decide), if_pos (by decide)]; rfl
        · rw [if_neg (by decide), if_neg (by decide)]
theorem q_X10_getsOf {h : zH} {m n i j : Nat} {M : Mo} {nf : Nat → Int32} {S : Sd} {ab : Int32} (hO : MO h m M) (hN : MA h (m + 1) 88 nf) (s : RowS nf n S) (ok : okS n S) (hi : i < n) (hj : j < n) : f_X10_getsOf m ab (nI i) (nI j) h = rI (gnS S ab i j) h := by
  have h8 := ok.2.1
  have c1 := cvN_lt (S.2.2.1 i)
  have c2 := andn_lt (cvN (S.2.2.1 i)) (cvN (S.2.2.1 j))
  have tail : f_X10_getsOf_37 m (nI i) (nI j) h = rI (nI (pcount (cvN (S.2.2.1 i))) + nI (pcount (andn (cvN (S.2.2.1 i)) (cvN (S.2.2.1 j))))) h := by
    unfold f_X10_getsOf_37
    rw [zgR_eq hO rfl, zaI_x (12 + nI i) (12 + i) (nI_add 12 i) hN (by omega) (by decide), (s.2.2 i hi).1, zcI_of (q_X10_covers _ h), sCov_nI, zcI_of (q_ones (by omega) h), zgR_eq hO rfl, zaI_x (12 + nI j) (12 + j) (nI_add 12 j) hN (by omega) (by decide), (s.2.2 j hj).1, zcI_of (q_X10_covers _ h), sCov_nI, nI_andn (by omega), zcI_of (q_ones c2 h)]
    rfl
  unfold f_X10_getsOf gnS
  by_cases c : i = j
  · rw [if_pos (by rw [c]), if_pos c]; rfl
  · rw [if_neg (fun e => c ((nI_eq (by omega) (by omega)).mp e)), if_neg c, zcI_of (q_X10_has ab i h), zcI_of (q_X10_has ab j h), zoc_eq hO, zcI_of (q_X10_areGoing hO hN s ok hi hj), tail]
    cases hb ab i
    · rw [if_pos (by decide), if_neg (by decide)]; rfl
    · rw [if_neg (by decide), if_pos rfl]
      cases hb ab j
      · rw [if_pos (by decide), Bool.false_and, if_neg (by decide)]
      · rw [if_neg (by decide), Bool.true_and]
        cases sMat S i j
        · rw [if_pos (by decide), if_pos (by decide)]; rfl
        · rw [if_neg (by decide), if_neg (by decide)]
def nbS (S : Sd) (ab fr : Int32) (i j k : Nat) : Bool := !hb fr k || decide (gnS S ab k j ≤ gnS S ab i j)
theorem q_X2_noneIsBetter {h : zH} {d n i j : Nat} {S : Sd} {ab fr : Int32} (hS : RS h d S) (ok : okS n S) (hi : i < n) (hj : j < n) : f_X2_noneIsBetter d ab fr (nI i) (nI j) h = rB (allN (nbS S ab fr i j) n) h := by
  have h8 := ok.2.1
  have eg := fun k (hk : k < n) => q_X2_gain (ab := ab) hS ok hk hj
  have eo := eg i hi
  obtain ⟨⟨nw, ps, nt, mk, pc, nc, mc, h1⟩, -⟩ := hS
  rw [ok.1] at h1
  unfold f_X2_noneIsBetter
  rw [zcI_of eo]
  have body : ∀ f k, k < n → f_X2_noneIsBetter_13 (f + 1) d ab fr (nI j) (gnS S ab i j) (nI k) h = if nbS S ab fr i j k then f_X2_noneIsBetter_13 f d ab fr (nI j) (gnS S ab i j) (nI (k + 1)) h else rB false h := by
    intro f k hk
    rw [f_X2_noneIsBetter_13, zgI_eq h1 rfl, if_neg (nI_ge hk (by omega))]
    unfold nbS f_X2_noneIsBetter_48
    cases q : hb fr k with
    | false => rw [if_neg (fun e => by rw [(hb_iff _ _).mp e] at q; cases q), nI_1]; rfl
    | true =>
      rw [if_pos ((hb_iff _ _).mpr q), zcI_of (eg k hk), nI_1, zrZ_0]
      by_cases z : gnS S ab k j ≤ gnS S ab i j
      · rw [if_pos z, decide_eq_true z]; rfl
      · rw [if_neg z, decide_eq_false z]; rfl
  refine (zloopA (fun f k (_ : Unit) => f_X2_noneIsBetter_13 f d ab fr (nI j) (gnS S ab i j) (nI k) h) (fun _ => ()) n (nbS S ab fr i j) (rB true h) (rB false h) ?_ ?_ ?_ zF (by show n < 20000; omega)).trans ?_
  · intro f
    rw [f_X2_noneIsBetter_13, zgI_eq h1 rfl, if_pos (Int32.le_refl _), zrZ_1]
  · intro f k hk hp
    rw [body f k hk, hp, if_pos rfl]
  · intro f k hk hp
    rw [body f k hk, hp, if_neg (by decide)]
  · cases allN (nbS S ab fr i j) n <;> rfl
def rsS (S : Sd) (n : Nat) (ab fr : Int32) (i j : Nat) : Bool := (hb fr i && hb fr j) && (allN (nbS S ab fr i j) n && allN (nbS S ab fr j i) n)
theorem q_X2_rests {h : zH} {d n i j : Nat} {S : Sd} {ab fr : Int32} (hS : RS h d S) (ok : okS n S) (hi : i < n) (hj : j < n) : f_X2_rests d ab fr (nI i) (nI j) h = rB (rsS S n ab fr i j) h := by
  have e1 := q_X2_noneIsBetter (ab := ab) (fr := fr) hS ok hi hj
  have e2 := q_X2_noneIsBetter (ab := ab) (fr := fr) hS ok hj hi
  unfold f_X2_rests f_X2_rests_47 f_X2_rests_48 rsS
  rw [zcI_of e1, zcI_of e2, zrZ_0, zrZ_1]
  cases q : hb fr i with
  | false => rw [if_neg (fun e => by rw [(hb_iff _ _).mp e] at q; cases q)]; rfl
  | true =>
    rw [if_pos ((hb_iff _ _).mpr q)]
    cases p : hb fr j with
    | false => rw [if_neg (fun e => by rw [(hb_iff _ _).mp e] at p; cases p)]; rfl
    | true =>
      rw [if_pos ((hb_iff _ _).mpr p)]
      cases allN (nbS S ab fr i j) n
      · rw [if_pos (by decide)]; rfl
      · rw [if_neg (by decide)]
        cases allN (nbS S ab fr j i) n
        · rw [if_pos (by decide)]; rfl
        · rw [if_neg (by decide)]; rfl
theorem allN_and (p q : Nat → Bool) : ∀ n, allN (fun k => p k && q k) n = (allN p n && allN q n)
  | 0 => rfl
  | n + 1 => by
    rw [allN, allN, allN, allN_and p q n]
    cases allN p n <;> cases allN q n <;> cases p n <;> cases q n <;> rfl
theorem q_X10_rests {h : zH} {m n i j : Nat} {M : Mo} {nf : Nat → Int32} {S : Sd} {ab fr : Int32} (hO : MO h m M) (hN : MA h (m + 1) 88 nf) (s : RowS nf n S) (ok : okS n S) (hfr : ∀ k, k < 8 → hb fr k = true → k < n) (hi : i < 8) (hj : j < 8) : f_X10_rests m ab fr (nI i) (nI j) h = rB (rsS S n ab fr i j) h := by
  have h8 := ok.2.1
  have off : f_X10_rests_21 m ab fr (nI i) (nI j) h = rB false h := by
    unfold f_X10_rests_21 f_X10_rests_22
    rw [show zF = 19999 + 1 from rfl, f_X10_rests_27, zgR_eq hO rfl, zaI_x 0 0 rfl hN (by decide) (by decide)]
    unfold f_X10_rests_104
    rw [if_pos rfl, zrZ_0]
    split <;> rfl
  unfold f_X10_rests rsS
  rw [zcI_of (q_X10_has fr i h), zcI_of (q_X10_has fr j h), off]
  cases q : hb fr i with
  | false => rw [if_pos (by decide)]; rfl
  | true =>
    rw [if_neg (by decide)]
    cases p : hb fr j with
    | false => rw [if_pos (by decide)]; rfl
    | true =>
      have hi := hfr i hi q
      have hj := hfr j hj p
      rw [if_neg (by decide), ← allN_and, Bool.true_and]
      unfold f_X10_rests_22
      refine zloopB (fun f k v => f_X10_rests_27 f m ab fr (nI i) (nI j) v (nI k) h) (fun k => nbS S ab fr i j k && nbS S ab fr j i k) n h ?_ ?_ ?_ zF (by show n < 20000; omega)
      · intro f v
        rw [f_X10_rests_27, zgR_eq hO rfl, zaI_x 0 0 rfl hN (by decide) (by decide), s.1, ok.1, if_pos (Int32.le_refl _)]
        exact zrZ_b v h
      · intro f k hk
        rw [f_X10_rests_27, zgR_eq hO rfl, zaI_x 0 0 rfl hN (by decide) (by decide), s.1, ok.1, if_neg (nI_ge hk (by omega)), if_pos rfl]
        exact zrZ_0 h
      · intro f k hk
        rw [f_X10_rests_27, zgR_eq hO rfl, zaI_x 0 0 rfl hN (by decide) (by decide), s.1, ok.1, if_neg (nI_ge hk (by omega)), if_neg (by decide), zcI_of (q_X10_has fr k h), zoc_eq hO, zcI_of (q_X10_getsOf hO hN s ok hk hj), zoc_eq hO, zcI_of (q_X10_getsOf hO hN s ok hi hj), zoc_eq hO, zcI_of (q_X10_getsOf hO hN s ok hk hi), zoc_eq hO, zcI_of (q_X10_getsOf hO hN s ok hj hi)]
        unfold nbS f_X10_rests_91 f_X10_rests_95 f_X10_rests_96
        rw [nI_1]
        cases hb fr k
        · rw [if_pos (by decide)]; rfl
        · rw [if_neg (by decide)]
          by_cases z : gnS S ab i j < gnS S ab k j
          · rw [if_pos z, decide_eq_false (Int32.not_le.mpr z)]; rfl
          · rw [if_neg z, decide_eq_true (Int32.not_lt.mp z)]
            by_cases y : gnS S ab j i < gnS S ab k i
            · rw [if_pos y, decide_eq_false (Int32.not_le.mpr y)]; rfl
            · rw [if_neg y, decide_eq_true (Int32.not_lt.mp y)]; rfl
def twP (S : Sd) (n : Nat) (ab fr : Int32) (c : Nat) : Bool := rsS S n ab fr (c / 8) (c % 8)
def twQ (p : Nat → Bool) (v : Int32) (c : Nat) : Bool := p c && decide (nI (cntN p c) = v)
def twR (p : Nat → Bool) (v : Int32) (h : zH) : zR := match fstN (twQ p v) 64 with
  | some c => rI (10 * nI (c / 8) + nI (c % 8)) h
  | none => rI (if v = -1 then nI (cntN p 64) else -5) h
theorem cnt64 (p : Nat → Bool) {c : Nat} (h : c ≤ 64) : cntN p c ≤ 64 := Nat.le_trans (cntN_le p c) h
theorem q_X9_two_70 {h : zH} {x : Nat} {T : Tt} (r : RX h x T) (o : okT T) {ab fr v : Int32} {p : Nat → Bool} (hp : p = twP (tD T).1 (dn (tD T)) ab fr) (hfr : ∀ k, k < 8 → hb fr k = true → k < dn (tD T)) {K : Nat → Nat → Int32 → Int32 → Int32 → Int32 → Int32 → zH → zR} {f i : Nat} (hi : i < dn (tD T)) (hK : (∀ c, c < 8 * (i + 1) → twQ p v c = false) → f_X9_two_55 f x v ab fr (nI (cntN p (8 * (i + 1)))) (nI (i + 1)) h = twR p v h) : ∀ (e j g : Nat), j + e = dn (tD T) → e < g → (∀ c, c < 8 * i + j → twQ p v c = false) → f_X9_two_70 (f_X9_two_55 f) g x v ab fr (nI (cntN p (8 * i + j))) (nI i) (nI j) h = twR p v h := by
  obtain ⟨en, hn⟩ := o.1.n
  have none : ∀ c, c < 64 → dn (tD T) ≤ c % 8 → p c = false := by
    intro c hc h1
    rw [hp]
    unfold twP rsS
    have : hb fr (c % 8) = false := by
      cases q : hb fr (c % 8) with
      | false => rfl
      | true => have := hfr (c % 8) (by omega) q; omega
    rw [this, Bool.and_false]; rfl
  have skip : ∀ t, dn (tD T) + t ≤ 8 → cntN p (8 * i + dn (tD T) + t) = cntN p (8 * i + dn (tD T)) ∧ ∀ c, 8 * i + dn (tD T) ≤ c → c < 8 * i + dn (tD T) + t → twQ p v c = false := by
    intro t
    induction t with
    | zero => intro _; exact ⟨rfl, fun c h1 h2 => by omega⟩
    | succ t ih =>
      intro ht
      obtain ⟨i1, i2⟩ := ih (by omega)
      have e : p (8 * i + dn (tD T) + t) = false := none _ (by omega) (by omega)
      refine ⟨?_, fun c h1 h2 => ?_⟩
      · show cntN p (8 * i + dn (tD T) + t + 1) = _
        rw [cntN, e, if_neg (by decide)]; exact i1
      · by_cases z : c = 8 * i + dn (tD T) + t
        · subst z; unfold twQ; rw [e]; rfl
        · exact i2 c h1 (by omega)
  intro e
  induction e with
  | zero =>
    intro j g hj hg hc
    obtain ⟨g, rfl⟩ : ∃ g', g = g' + 1 := ⟨g - 1, by omega⟩
    have ej : j = dn (tD T) := by omega
    subst ej
    obtain ⟨i1, i2⟩ := skip (8 - dn (tD T)) (by omega)
    rw [show 8 * i + dn (tD T) + (8 - dn (tD T)) = 8 * (i + 1) by omega] at i1 i2
    rw [f_X9_two_70, zgR_eq r.1 rfl, zgI_eq r.2.1.1 rfl, en, if_pos (Int32.le_refl _), nI_1, ← i1]
    exact hK (fun c h1 => by
      rcases Nat.lt_or_ge c (8 * i + dn (tD T)) with q | q
      · exact hc c q
      · exact i2 c q h1)
  | succ e ih =>
    intro j g hj hg hc
    obtain ⟨g, rfl⟩ : ∃ g', g = g' + 1 := ⟨g - 1, by omega⟩
    have hjn : j < dn (tD T) := by omega
    have l1 := cnt64 p (c := 8 * i + j) (by omega)
    have ep : p (8 * i + j) = rsS (tD T).1 (dn (tD T)) ab fr i j := by
      rw [hp]; unfold twP; rw [show (8 * i + j) / 8 = i by omega, show (8 * i + j) % 8 = j by omega]
    rw [f_X9_two_70, zgR_eq r.1 rfl, zgI_eq r.2.1.1 rfl, en, if_neg (nI_ge hjn (by omega)), zgR_eq r.1 rfl, zcI_of (q_X2_rests r.2.1.RS o.1.1 hi hjn), ← ep]
    unfold f_X9_two_116
    have step := ih (j + 1) g (by omega) (by omega)
    rw [show 8 * i + (j + 1) = 8 * i + j + 1 by omega, cntN] at step
    rw [nI_1 j]
    cases q : p (8 * i + j) with
    | false =>
      rw [if_pos (by decide)]
      rw [q, if_neg (by decide)] at step
      exact step (fun c h1 => by
        by_cases z : c = 8 * i + j
        · subst z; unfold twQ; rw [q]; rfl
        · exact hc c (by omega))
    | true =>
      rw [if_neg (by decide)]
      rw [q, if_pos rfl] at step
      by_cases z : nI (cntN p (8 * i + j)) = v
      · have : fstN (twQ p v) 64 = some (8 * i + j) := fstN_some.mpr ⟨by omega, by unfold twQ; rw [q, decide_eq_true z]; rfl, hc⟩
        rw [if_pos z]
        unfold twR
        rw [this]
        show _ = rI (10 * nI ((8 * i + j) / 8) + nI ((8 * i + j) % 8)) h
        rw [show (8 * i + j) / 8 = i by omega, show (8 * i + j) % 8 = j by omega]; rfl
      · rw [if_neg z, nI_1]
        exact step (fun c h1 => by
          by_cases y : c = 8 * i + j
          · subst y; unfold twQ; rw [q, decide_eq_false z]; rfl
          · exact hc c (by omega))
theorem q_X9_two_55 {h : zH} {x : Nat} {T : Tt} (r : RX h x T) (o : okT T) {ab fr v : Int32} {p : Nat → Bool} (hp : p = twP (tD T).1 (dn (tD T)) ab fr) (hfr : ∀ k, k < 8 → hb fr k = true → k < dn (tD T)) : ∀ (e i f : Nat), i + e = dn (tD T) → e < f → (∀ c, c < 8 * i → twQ p v c = false) → f_X9_two_55 f x v ab fr (nI (cntN p (8 * i))) (nI i) h = twR p v h := by
  obtain ⟨en, hn⟩ := o.1.n
  have none : ∀ c, c < 64 → 8 * dn (tD T) ≤ c → p c = false := by
    intro c hc h1
    rw [hp]
    unfold twP rsS
    have : hb fr (c / 8) = false := by
      cases q : hb fr (c / 8) with
      | false => rfl
      | true => have := hfr (c / 8) (by omega) q; omega
    rw [this]; rfl
  have skip : ∀ t, 8 * dn (tD T) + t ≤ 64 → cntN p (8 * dn (tD T) + t) = cntN p (8 * dn (tD T)) := by
    intro t
    induction t with
    | zero => intro _; rfl
    | succ t ih =>
      intro ht
      show cntN p (8 * dn (tD T) + t + 1) = _
      rw [cntN, none _ (by omega) (by omega), if_neg (by decide)]; exact ih (by omega)
  intro e
  induction e with
  | zero =>
    intro i f hi hf hc
    obtain ⟨f, rfl⟩ : ∃ f', f = f' + 1 := ⟨f - 1, by omega⟩
    have ei : i = dn (tD T) := by omega
    subst ei
    have e64 := skip (64 - 8 * dn (tD T)) (by omega)
    rw [show 8 * dn (tD T) + (64 - 8 * dn (tD T)) = 64 by omega] at e64
    have nn : fstN (twQ p v) 64 = Option.none := fstN_none.mpr (fun c h1 => by
      rcases Nat.lt_or_ge c (8 * dn (tD T)) with q | q
      · exact hc c q
      · unfold twQ; rw [none c h1 q]; rfl)
    rw [f_X9_two_55, zgR_eq r.1 rfl, zgI_eq r.2.1.1 rfl, en, if_pos (Int32.le_refl _)]
    unfold twR f_X9_two_140
    rw [nn, e64]
    show _ = rI (if v = -1 then nI (cntN p (8 * dn (tD T))) else -5) h
    by_cases z : v = -1
    · rw [if_pos z, if_pos z]; rfl
    · rw [if_neg z, if_neg z]; rfl
  | succ e ih =>
    intro i f hi hf hc
    obtain ⟨f, rfl⟩ : ∃ f', f = f' + 1 := ⟨f - 1, by omega⟩
    rw [f_X9_two_55, zgR_eq r.1 rfl, zgI_eq r.2.1.1 rfl, en, if_neg (nI_ge (show i < dn (tD T) by omega) (by omega))]
    exact q_X9_two_70 (K := fun _ _ _ _ _ _ _ _ => Option.none) r o hp hfr (i := i) (by omega) (fun hh => ih (i + 1) f (by omega) (by omega) hh) (dn (tD T)) 0 zF (by omega) (by show dn (tD T) < 20000; omega) hc
theorem q_X10_two_65 {h : zH} {m n : Nat} {M : Mo} {nf : Nat → Int32} {S : Sd} {ab fr v : Int32} (hO : MO h m M) (hN : MA h (m + 1) 88 nf) (s : RowS nf n S) (ok : okS n S) (hfr : ∀ k, k < 8 → hb fr k = true → k < n) (hv : -1 ≤ v) : f_X10_two_65 zF m v ab fr 0 0 h = twR (twP S n ab fr) v h := by
  refine (zloopX (fun f c (s : Int32) => f_X10_two_65 f m v ab fr s (nI c) h) (fun c => nI (cntN (twP S n ab fr) c)) 64 (twQ (twP S n ab fr) v) (fun c => rI (10 * nI (c / 8) + nI (c % 8)) h) (rI (if v = -1 then nI (cntN (twP S n ab fr) 64) else -5) h) ?_ ?_ ?_ zF 0 (Nat.zero_le _) (zF_gt (by omega)) (fun j hj => absurd hj (Nat.not_lt_zero j))).trans ?_
  · intro f
    rw [f_X10_two_65, if_pos (show (64 : Int32) ≤ nI 64 from Int32.le_refl _)]
    unfold f_X10_two_132
    by_cases z : v = -1
    · rw [if_neg (show ¬ 0 ≤ v by rw [z]; decide), if_pos z]; rfl
    · rw [if_pos (neg1 hv z), if_neg z]; rfl
  · intro f c hc hq
    have d1 : nI c / 8 = nI (c / 8) := pk_div (d := 8) (by omega) (by omega) (by omega)
    have d2 : nI c - nI (c / 8) * 8 = nI (c % 8) := by rw [← d1]; exact pk_rem (d := 8) (by omega) (by omega) (by omega)
    rw [f_X10_two_65, if_neg (show ¬ (64 : Int32) ≤ nI c from nI_ge (b := 64) hc (by decide)), zdv_of (by decide), zdv_of (by decide), zoc_eq hO, d1, d2, zcI_of (q_X10_rests hO hN s ok hfr (by omega) (by omega)), cntN]
    unfold f_X10_two_115
    rw [nI_1 c]
    unfold twQ at hq
    show (if b2i (twP S n ab fr c) = 0 then _ else _) = _
    cases q : twP S n ab fr c with
    | false => rw [if_pos (by decide), if_neg (by decide)]
    | true =>
      rw [q, Bool.true_and] at hq
      rw [if_neg (by decide), if_neg (of_decide_eq_false hq), if_pos rfl, nI_1]
  · intro f c hc hq
    have d1 : nI c / 8 = nI (c / 8) := pk_div (d := 8) (by omega) (by omega) (by omega)
    have d2 : nI c - nI (c / 8) * 8 = nI (c % 8) := by rw [← d1]; exact pk_rem (d := 8) (by omega) (by omega) (by omega)
    unfold twQ at hq
    rw [Bool.and_eq_true, decide_eq_true_eq] at hq
    rw [f_X10_two_65, if_neg (show ¬ (64 : Int32) ≤ nI c from nI_ge (b := 64) hc (by decide)), zdv_of (by decide), zdv_of (by decide), zoc_eq hO, d1, d2, zcI_of (q_X10_rests hO hN s ok hfr (by omega) (by omega))]
    show (if b2i (twP S n ab fr c) = 0 then _ else _) = _
    rw [hq.1, if_neg (by decide), if_pos hq.2, zdv_of (by decide), zdv_of (by decide)]
    rfl
  · unfold twR
    cases fstN (twQ (twP S n ab fr) v) 64 <;> rfl
theorem twR_h (p : Nat → Bool) (v : Int32) : ∃ y, ∀ h, twR p v h = rI y h := by
  unfold twR
  cases fstN (twQ p v) 64 with
  | none => exact ⟨_, fun h => rfl⟩
  | some c => exact ⟨_, fun h => rfl⟩
theorem op_two (v : Int32) : Both (fun x => f_X9_two x v) (fun m => f_X10_two m v) := by
  refine Both.of2 (fun T o => ?_)
  obtain ⟨en, hn⟩ := o.1.n
  by_cases hv : -1 ≤ v
  · have ow := o.1.2.1.1
    have hfr : ∀ k, k < 8 → hb (nI (freeN (dW (tD T)) (wL (dW (tD T))) (dn (tD T)))) k = true → k < dn (tD T) := by
      intro k hk e
      rw [hbN (freeN_lt hn) hk, freeN_bit, Bool.and_eq_true, decide_eq_true_eq] at e
      exact e.1
    obtain ⟨y, hy⟩ := twR_h (twP (tD T).1 (dn (tD T)) (mkI (canMove (tD T).1 (dW (tD T)) (wL (dW (tD T))) 0) (dn (tD T))) (nI (freeN (dW (tD T)) (wL (dW (tD T))) (dn (tD T))))) v
    refine ⟨.int y, T, o, ?_, ?_⟩
    · intro h x r
      refine ⟨h, ?_, r, Fr.rf⟩
      show f_X9_two x v h = rI y h
      unfold f_X9_two f_X1_allPieces
      rw [if_pos hv, zgR_eq r.1 rfl, zgR_eq r.1 rfl, zgR_eq r.2.1.1 rfl, zoc_eq r.2.1.1, zcI_of (q_X1_setThatMay r.2.1.RS o.1.1 r.2.1.2.2.2.2.1 ow (Or.inl rfl)), zgR_eq r.1 rfl, zoc_eq r.2.1.1, zgI_eq r.2.1.1 rfl, zcI_of (show zrI (1 <<< ((tD T).1.2.1 &&& 31) - 1) h = rI _ h from rfl), zgR_eq r.1 rfl, zgR_eq r.2.1.1 rfl, zoc_eq r.2.1.2.2.2.2.1.1, zcI_of (q_X8_onSet r.2.1.2.2.2.2.1 ow.1 (o.1.2.1.le hn)), zlt_eq, en, free_eq ow hn, ← hy]
      exact q_X9_two_55 r o rfl hfr (dn (tD T)) 0 zF (by omega) (by show dn (tD T) < 20000; omega) (fun c hc => absurd hc (Nat.not_lt_zero c))
    · intro h m r
      obtain ⟨M0, nf0, m0, -⟩ := r.now
      obtain ⟨h1, e1, M, nf, sf, n0, n1, n2, s1, s2, w2, r1, f1⟩ : ∃ h1, f_X10_canSet m h = rI (mkI (canMove (tD T).1 (dW (tD T)) (wL (dW (tD T))) 0) (dn (tD T))) h1 ∧ ∃ M nf sf, MO h1 m M ∧ MA h1 (m + 1) 88 nf ∧ MA h1 (m + 2) 88 sf ∧ RowS nf (dn (tD T)) (tD T).1 ∧ RowS sf (dn (tD T)) (tD T).1 ∧ RowW sf (dn (tD T)) (wL (dW (tD T))) (dW (tD T)) ∧ RM h1 m T ∧ Fr h h1 m (m + 11) := by
        obtain ⟨h1, M, nf, sf, e1, n0, n1, n2, s1, w1, -, s2, w2, r1, f1⟩ := r.aside o
        refine ⟨h1, ?_, M, nf, sf, n0, n1, n2, s1, s2, w2, r1, f1⟩
        unfold f_X10_canSet
        rw [zoc_eq m0, zcV_of e1]
        refine zloop (fun f k (a : Int32) => f_X10_canSet_8 f m a (nI k) h1) (fun k => mkI (canMove (tD T).1 (dW (tD T)) (wL (dW (tD T))) 0) k) (dn (tD T)) _ ?_ ?_ zF 0 (by omega) (by show dn (tD T) < 20000 + 0; omega)
        · intro f
          rw [f_X10_canSet_8, zgR_eq n0 rfl, zaI_x 0 0 rfl n1 (by decide) (by decide), s1.1, en, if_pos (Int32.le_refl _)]; rfl
        · intro f k hk
          rw [f_X10_canSet_8, zgR_eq n0 rfl, zaI_x 0 0 rfl n1 (by decide) (by decide), s1.1, en, if_neg (nI_ge hk (by omega)), zoc_eq n0, zcI_of (q_X10_canPut n0 n2 s2 w2 ow o.1.1 hk)]
          unfold f_X10_canSet_34
          rw [zlt_eq, zlt_eq, nI_1]
          rw [mkI]
          exact orIf (fun z => f_X10_canSet_8 f m z (nI (k + 1)) h1) _ _ _
      refine ⟨h1, ?_, r1, f1⟩
      show f_X10_two m v h = rI y h1
      unfold f_X10_two
      rw [if_pos hv, zoc_eq m0, zcI_of e1]
      refine zloop (fun f k (a : Int32) => f_X10_two_20 f m v (mkI (canMove (tD T).1 (dW (tD T)) (wL (dW (tD T))) 0) (dn (tD T))) a (nI k) h1) (fun k => mkI (offW (dW (tD T)) (wL (dW (tD T)))) k) (dn (tD T)) _ ?_ ?_ zF 0 (by omega) (by show dn (tD T) < 20000 + 0; omega)
      · intro f
        rw [f_X10_two_20, zgR_eq n0 rfl, zaI_x 0 0 rfl n1 (by decide) (by decide), s1.1, en, if_pos (Int32.le_refl _), mkI_nI (offW (dW (tD T)) (wL (dW (tD T)))) _ hn, ← hy]
        exact q_X10_two_65 (fr := nI (freeN (dW (tD T)) (wL (dW (tD T))) (dn (tD T)))) n0 n1 s1 o.1.1 hfr hv
      · intro f k hk
        rw [f_X10_two_20, zgR_eq n0 rfl, zaI_x 0 0 rfl n1 (by decide) (by decide), s1.1, en, if_neg (nI_ge hk (by omega)), zoc_eq n0, zcI_of (q_X10_placeOf n0 n2 w2 ow hn (nI k))]
        unfold f_X10_two_51
        rw [zlt_eq, zlt_eq, nI_1, mkI]
        unfold offW
        by_cases z : sPl (dW (tD T)).1 (wL (dW (tD T))) (nI k) = -101
        · rw [if_pos z, decide_eq_true z]; rfl
        · rw [if_neg z, decide_eq_false z, or0]; rfl
  · refine of2Bad o ?_ ?_
    · intro h x r h1 e1
      show f_X9_two x v h = _
      unfold f_X9_two
      rw [if_neg hv, zoc_eq r.1, zcI_of e1]
      rfl
    · intro h m r h1 e1
      obtain ⟨M, nf, n0, n1, n2, n3, n4⟩ := r.now
      show f_X10_two m v h = _
      unfold f_X10_two
      rw [if_neg hv, zoc_eq n0, zcI_of e1]
      rfl
