/-! WHAT IS COVERED: the class's way and the model's are one -/
def gb (x : Int32) (b : Nat) : Bool := x.toBitVec.getLsbD b
theorem gb_ext {x y : Int32} (h : ∀ b, b < 32 → gb x b = gb y b) : x = y := by
  apply Int32.toBitVec_inj.mp
  apply BitVec.eq_of_getLsbD_eq
  intro i hi
  exact h i hi
theorem gb_or (x y : Int32) (b : Nat) : gb (x ||| y) b = (gb x b || gb y b) := by
  show (x.toBitVec ||| y.toBitVec).getLsbD b = _
  rw [BitVec.getLsbD_or]
  rfl
theorem gb_0 (b : Nat) : gb 0 b = false := by
  show (0#32).getLsbD b = false
  simp
theorem gb_and (x y : Int32) (b : Nat) : gb (x &&& y) b = (gb x b && gb y b) := by
  show (x.toBitVec &&& y.toBitVec).getLsbD b = _
  rw [BitVec.getLsbD_and]
  rfl
theorem gb_sSet (kd : Nat → Int32) (s : Int32) (b : Nat) : ∀ n, gb (sSet kd s n) b = true ↔ ∃ i, i < n ∧ hb s i = true ∧ gb (sCov (kd i)) b = true
  | 0 => by simp [sSet, gb_0]
  | n + 1 => by
    rw [sSet]
    have ih := gb_sSet kd s b n
    cases hs : hb s n with
    | true =>
      rw [if_pos rfl, gb_or, Bool.or_eq_true, ih]
      constructor
      · rintro (⟨i, h1, h2, h3⟩ | h)
        · exact ⟨i, by omega, h2, h3⟩
        · exact ⟨n, by omega, hs, h⟩
      · intro ⟨i, h1, h2, h3⟩
        rcases Nat.lt_succ_iff_lt_or_eq.mp h1 with q | q
        · exact Or.inl ⟨i, q, h2, h3⟩
        · subst q; exact Or.inr h3
    | false =>
      rw [if_neg (by decide), ih]
      constructor
      · intro ⟨i, h1, h2, h3⟩
        exact ⟨i, by omega, h2, h3⟩
      · intro ⟨i, h1, h2, h3⟩
        rcases Nat.lt_succ_iff_lt_or_eq.mp h1 with q | q
        · exact ⟨i, q, h2, h3⟩
        · subst q; rw [hs] at h2; cases h2
theorem gb_sCd (S : Sd) (on : Nat → Int32) (b : Nat) : ∀ L, gb (sCd S on L) b = true ↔ ∃ k, k < L ∧ gb (sCov (S.2.2.1 (ix (on k)))) b = true
  | 0 => by simp [sCd, gb_0]
  | L + 1 => by
    rw [sCd, gb_or, Bool.or_eq_true, gb_sCd S on b L]
    constructor
    · rintro (⟨i, h1, h2⟩ | h)
      · exact ⟨i, by omega, h2⟩
      · exact ⟨L, by omega, h⟩
    · intro ⟨i, h1, h2⟩
      rcases Nat.lt_succ_iff_lt_or_eq.mp h1 with q | q
      · exact Or.inl ⟨i, q, h2⟩
      · subst q; exact Or.inr h2
/-- the mask of the pieces on, as a number -/
def oN (on : Nat → Int32) : Nat → Nat
  | 0 => 0
  | k + 1 => oN on k ||| 2 ^ ix (on k)
theorem oN_lt {on : Nat → Int32} : ∀ {L : Nat}, (∀ k, k < L → ix (on k) < 8) → oN on L < 256
  | 0, _ => by simp [oN]
  | L + 1, h => by
    rw [oN]
    exact Nat.or_lt_two_pow (n := 8) (oN_lt (fun k hk => h k (by omega))) (Nat.pow_lt_pow_right (by omega) (h L (by omega)))
theorem oN_bit {on : Nat → Int32} (i : Nat) : ∀ {L : Nat}, (oN on L).testBit i = true ↔ ∃ k, k < L ∧ ix (on k) = i
  | 0 => by simp [oN]
  | L + 1 => by
    rw [oN, Nat.testBit_or, Bool.or_eq_true, oN_bit i, Nat.testBit_two_pow]
    constructor
    · rintro (⟨k, h1, h2⟩ | h)
      · exact ⟨k, by omega, h2⟩
      · exact ⟨L, by omega, by simpa using h⟩
    · intro ⟨k, h1, h2⟩
      rcases Nat.lt_succ_iff_lt_or_eq.mp h1 with q | q
      · exact Or.inl ⟨k, q, h2⟩
      · subst q; exact Or.inr (by simpa using h2)
theorem okW.ixx {n L : Nat} {W : Wr} (o : okW n L W) (h8 : n ≤ 8) {k : Nat} (hk : k < L) : ix (W.1 k) < n ∧ W.1 k = nI (ix (W.1 k)) := by
  obtain ⟨j, hj, ej⟩ := o.2.2.1 k hk
  rw [ej, ix_nI (by omega)]
  exact ⟨hj, rfl⟩
theorem sOn_nI {on : Nat → Int32} : ∀ {L : Nat}, (∀ k, k < L → ix (on k) < 8 ∧ on k = nI (ix (on k))) → sOn on L = nI (oN on L)
  | 0, _ => rfl
  | L + 1, h => by
    rw [sOn, oN, sOn_nI (fun k hk => h k (by omega)), ← nI_or, ← sh1 _ (h L (by omega)).1, ← (h L (by omega)).2]
theorem okW.onN {n L : Nat} {W : Wr} (o : okW n L W) (h8 : n ≤ 8) : sOn W.1 L = nI (oN W.1 L) ∧ oN W.1 L < 256 := by
  have h := fun k hk => o.ixx h8 (k := k) hk
  exact ⟨sOn_nI (fun k hk => ⟨Nat.lt_of_lt_of_le (h k hk).1 h8, (h k hk).2⟩), oN_lt (fun k hk => Nat.lt_of_lt_of_le (h k hk).1 h8)⟩
theorem okW.bit {n L : Nat} {W : Wr} (o : okW n L W) (h8 : n ≤ 8) {i : Nat} (hi : i < 8) : hb (sOn W.1 L) i = true ↔ ∃ k, k < L ∧ ix (W.1 k) = i := by
  rw [(o.onN h8).1, hb_nI _ (o.onN h8).2 i hi]
  exact oN_bit i
theorem cover_eq {n L : Nat} {S : Sd} {W : Wr} (ok : okS n S) (o : okW n L W) : sSet S.2.2.1 (sOn W.1 L) n = sCd S W.1 L := by
  apply gb_ext
  intro b _
  apply Bool.eq_iff_iff.mpr
  rw [gb_sSet, gb_sCd]
  constructor
  · intro ⟨i, h1, h2, h3⟩
    obtain ⟨k, hk, e⟩ := (o.bit ok.2.1 (by have := ok.2.1; omega)).mp h2
    exact ⟨k, hk, by rw [e]; exact h3⟩
  · intro ⟨k, hk, h3⟩
    have := o.ixx ok.2.1 hk
    exact ⟨ix (W.1 k), this.1, (o.bit ok.2.1 (by have := ok.2.1; omega)).mpr ⟨k, hk, rfl⟩, h3⟩
def dressed (S : Sd) (W : Wr) (L : Nat) : Bool := decide (sCd S W.1 L = 15)
theorem q_X1_isDressedC {h : zH} {d n w L : Nat} {S : Sd} {W : Wr} (hS : RS h d S) (ok : okS n S) (hW : RW h w W) (okw : okW n L W) : f_X1_isDressed d w h = rB (dressed S W L) h := by
  rw [q_X1_isDressed hS ok hW okw, cover_eq ok okw]
  rfl
/-! rows copied -/
def eqN (N : Nat) (f g : Nat → Int32) : Prop := ∀ j, j < N → f j = g j
theorem RowS.eq {f g : Nat → Int32} {n : Nat} {S : Sd} (r : RowS f n S) (e : eqN 88 f g) (h8 : n ≤ 8) : RowS g n S := by
  obtain ⟨s1, s2, s3⟩ := r
  refine ⟨(e 0 (by omega)).symm.trans s1, (e 1 (by omega)).symm.trans s2, fun i hi => ?_⟩
  obtain ⟨a, b, c⟩ := s3 i hi
  exact ⟨(e _ (by omega)).symm.trans a, (e _ (by omega)).symm.trans b, (e _ (by omega)).symm.trans c⟩
theorem RowW.eq {f g : Nat → Int32} {n L : Nat} {W : Wr} (r : RowW f n L W) (e : eqN 88 f g) (h8 : n ≤ 8) (hL : L ≤ 8) : RowW g n L W := by
  obtain ⟨s1, s2, s3, s4⟩ := r
  exact ⟨(e 2 (by omega)).symm.trans s1, (e 3 (by omega)).symm.trans s2, fun k hk => (e _ (by omega)).symm.trans (s3 k hk), fun i hi => (e _ (by omega)).symm.trans (s4 i hi)⟩
def filF (f g : Nat → Int32) (k : Nat) : Nat → Int32 := fun j => if j < k then f j else g j
theorem filF_0 (f g : Nat → Int32) : filF f g 0 = g := by
  funext j
  unfold filF
  rw [if_neg (by omega)]
theorem filF_s (f g : Nat → Int32) (k : Nat) : upd (filF f g k) k (f k) = filF f g (k + 1) := by
  funext j
  unfold upd filF
  by_cases c : j = k
  · subst c; simp
  · by_cases c2 : j < k
    · simp [c, c2, show j < k + 1 by omega]
    · simp [c, c2, show ¬ j < k + 1 by omega]
section CP
variable {h : zH} {m : Nat} {M : Mo} {nf sf : Nat → Int32}
theorem q_X10_aside (hO : MO h m M) (hN : MA h (m + 1) 88 nf) (hA : MA h (m + 2) 88 sf) : ∃ h' sf', f_X10_aside m h = rV h' ∧ MA h' (m + 2) 88 sf' ∧ eqN 88 nf sf' ∧ Fr h h' (m + 2) (m + 3) := by
  refine zloopE (fun f k g => f_X10_aside_2 f m (nI k) g) (fun k g => MO g m M ∧ MA g (m + 1) 88 nf ∧ MA g (m + 2) 88 (filF nf sf k) ∧ Fr h g (m + 2) (m + 3)) 88 (fun r => ∃ h' sf', r = rV h' ∧ MA h' (m + 2) 88 sf' ∧ eqN 88 nf sf' ∧ Fr h h' (m + 2) (m + 3)) ?_ ?_ zF 0 h (by omega) (by show 88 < 20000 + 0; omega) ⟨hO, hN, by rw [filF_0]; exact hA, Fr.rf⟩
  · intro f g ⟨gO, gN, gA, gF⟩
    show ∃ h' sf', f_X10_aside_2 (f + 1) m (nI 88) g = _ ∧ _
    rw [f_X10_aside_2, if_pos (show (88 : Int32) ≤ nI 88 from Int32.le_refl _)]
    exact ⟨g, _, rfl, gA, fun j hj => by unfold filF; rw [if_pos hj], gF⟩
  · intro f k g hk ⟨gO, gN, gA, gF⟩
    refine ⟨zset g (m + 2) (.inl (0, 88, .inl (filF nf sf (k + 1)))), ⟨(zset_ne _ (by omega)).trans gO, (zset_ne _ (by omega)).trans gN, zset_at _ _ _, gF.tr (Fr.set _ (by omega) (by omega))⟩, ?_⟩
    show f_X10_aside_2 (f + 1) m (nI k) g = f_X10_aside_2 f m (nI (k + 1)) _
    rw [f_X10_aside_2, if_neg (show ¬ (88 : Int32) ≤ nI k from nI_ge (b := 88) hk (by decide)), zgR_eq gO rfl, zgR_eq gO rfl, zaI_nI gN hk (by decide), zsI_x (nI k) k rfl gA hk (by decide), nI_1, filF_s]
theorem q_X10_take (hO : MO h m M) (hN : MA h (m + 1) 88 nf) (hA : MA h (m + 2) 88 sf) : ∃ h' nf', f_X10_take m h = rV h' ∧ MA h' (m + 1) 88 nf' ∧ eqN 88 sf nf' ∧ Fr h h' (m + 1) (m + 2) := by
  refine zloopE (fun f k g => f_X10_take_2 f m (nI k) g) (fun k g => MO g m M ∧ MA g (m + 2) 88 sf ∧ MA g (m + 1) 88 (filF sf nf k) ∧ Fr h g (m + 1) (m + 2)) 88 (fun r => ∃ h' nf', r = rV h' ∧ MA h' (m + 1) 88 nf' ∧ eqN 88 sf nf' ∧ Fr h h' (m + 1) (m + 2)) ?_ ?_ zF 0 h (by omega) (by show 88 < 20000 + 0; omega) ⟨hO, hA, by rw [filF_0]; exact hN, Fr.rf⟩
  · intro f g ⟨gO, gA, gN, gF⟩
    show ∃ h' nf', f_X10_take_2 (f + 1) m (nI 88) g = _ ∧ _
    rw [f_X10_take_2, if_pos (show (88 : Int32) ≤ nI 88 from Int32.le_refl _)]
    exact ⟨g, _, rfl, gN, fun j hj => by unfold filF; rw [if_pos hj], gF⟩
  · intro f k g hk ⟨gO, gA, gN, gF⟩
    refine ⟨zset g (m + 1) (.inl (0, 88, .inl (filF sf nf (k + 1)))), ⟨(zset_ne _ (by omega)).trans gO, (zset_ne _ (by omega)).trans gA, zset_at _ _ _, gF.tr (Fr.set _ (by omega) (by omega))⟩, ?_⟩
    show f_X10_take_2 (f + 1) m (nI k) g = f_X10_take_2 f m (nI (k + 1)) _
    rw [f_X10_take_2, if_neg (show ¬ (88 : Int32) ≤ nI k from nI_ge (b := 88) hk (by decide)), zgR_eq gO rfl, zgR_eq gO rfl, zaI_nI gA hk (by decide), zsI_x (nI k) k rfl gN hk (by decide), nI_1, filF_s]
end CP
