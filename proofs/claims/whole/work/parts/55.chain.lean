/-! OUTFITS: which they are; how many there may be -/
def cvT (kd : Nat → Int32) (s : Nat) : Nat → Nat
  | 0 => 0
  | i + 1 => if s.testBit i then cvT kd s i ||| cvN (kd i) else cvT kd s i
theorem sSet_cvT {kd : Nat → Int32} {s : Nat} (hs : s < 256) : ∀ {n : Nat}, n ≤ 8 → sSet kd (nI s) n = nI (cvT kd s n)
  | 0, _ => rfl
  | n + 1, h => by
    rw [sSet, cvT, hbN hs (by omega), sSet_cvT hs (n := n) (by omega)]
    cases s.testBit n
    · rw [if_neg (by decide), if_neg (by decide)]
    · rw [if_pos rfl, if_pos rfl, sCov_nI, nI_or]
theorem cvT_lt (kd : Nat → Int32) (s : Nat) : ∀ n, cvT kd s n < 16
  | 0 => by show 0 < 16; omega
  | n + 1 => by
    rw [cvT]
    split
    · exact Nat.or_lt_two_pow (n := 4) (cvT_lt kd s n) (cvN_lt _)
    · exact cvT_lt kd s n
theorem cvT_bit (kd : Nat → Int32) (s b : Nat) : ∀ n, (cvT kd s n).testBit b = true ↔ ∃ i, i < n ∧ s.testBit i = true ∧ (cvN (kd i)).testBit b = true
  | 0 => by simp [cvT]
  | n + 1 => by
    rw [cvT]
    have ih := cvT_bit kd s b n
    cases hs : s.testBit n with
    | true =>
      rw [if_pos rfl, Nat.testBit_or, Bool.or_eq_true, ih]
      constructor
      · rintro (⟨i, h1, h2, h3⟩ | h)
        · exact ⟨i, by omega, h2, h3⟩
        · exact ⟨n, by omega, hs, h⟩
      · intro ⟨i, h1, h2, h3⟩
        rcases Nat.lt_succ_iff_lt_or_eq.mp h1 with q | q
        · exact Or.inl ⟨i, q, h2, h3⟩
        · subst q; exact Or.inr h3
    | false =>
      rw [if_neg (by decide), ih]
      constructor
      · intro ⟨i, h1, h2, h3⟩
        exact ⟨i, by omega, h2, h3⟩
      · intro ⟨i, h1, h2, h3⟩
        rcases Nat.lt_succ_iff_lt_or_eq.mp h1 with q | q
        · exact ⟨i, q, h2, h3⟩
        · subst q; rw [hs] at h2; cases h2
theorem cvT_15 {kd : Nat → Int32} {s n : Nat} : cvT kd s n = 15 ↔ ∀ b, b < 4 → ∃ i, i < n ∧ s.testBit i = true ∧ (cvN (kd i)).testBit b = true := by
  have b15 : ∀ b, (15 : Nat).testBit b = decide (b < 4) := fun b => Nat.testBit_two_pow_sub_one 4 b
  constructor
  · intro e b hb
    have := b15 b
    rw [← e, decide_eq_true hb] at this
    exact (cvT_bit kd s b n).mp this
  · intro h
    apply Nat.eq_of_testBit_eq
    intro b
    rw [b15 b]
    rcases Nat.lt_or_ge b 4 with q | q
    · rw [decide_eq_true q]; exact (cvT_bit kd s b n).mpr (h b q)
    · rw [decide_eq_false (by omega)]
      exact Nat.testBit_lt_two_pow (Nat.lt_of_lt_of_le (cvT_lt kd s n) (Nat.pow_le_pow_right (n := 2) (i := 4) (by omega) q))
theorem cvT_mono {kd : Nat → Int32} {s t n : Nat} (h : ∀ i, i < n → s.testBit i = true → t.testBit i = true) (e : cvT kd s n = 15) : cvT kd t n = 15 := by
  rw [cvT_15] at e ⊢
  intro b hb
  obtain ⟨i, h1, h2, h3⟩ := e b hb
  exact ⟨i, h1, h i h1 h2, h3⟩
def hoP (S : Sd) (W : Wr) (i : Nat) : Bool := decide (1 ≤ sHol (S.2.2.1 i) (S.2.2.2.2 i) (W.2.1 i))
def oInner (S : Sd) (s i : Nat) : Bool := allN (fun j => !s.testBit j || sMat S i j) i
def oPiece (S : Sd) (W : Wr) (n s i : Nat) : Bool := !s.testBit i || ((hoP S W i && !decide (cvT S.2.2.1 (andn s (2 ^ i)) n = 15)) && oInner S s i)
/-- the model's outfits -/
def oM (S : Sd) (W : Wr) (n s : Nat) : Bool := decide (cvT S.2.2.1 s n = 15) && allN (oPiece S W n s) n
/-- the class's -/
def amS (S : Sd) (n s : Nat) : Bool := allN (fun i => !s.testBit i || decide (andn (andn s (2 ^ i)) (mkN (sMat S i) n) = 0)) n
def oC (S : Sd) (n s : Nat) : Bool := decide (cvT S.2.2.1 s n = 15) && (allN (fun i => !(s.testBit i && decide (cvT S.2.2.1 (andn s (2 ^ i)) n = 15))) n && amS S n s)
/-- those that are one -/
def oP (S : Sd) (W : Wr) (n s : Nat) : Bool := decide (s < 2 ^ n) && oM S W n s
theorem bit_single {i j : Nat} : (2 ^ i).testBit j = decide (i = j) := Nat.testBit_two_pow
theorem sMat_comm (S : Sd) (i j : Nat) : sMat S i j = sMat S j i := sGo_comm _ _ _
theorem amS_iff {S : Sd} {n s : Nat} (hs : s < 256) (hn : n ≤ 8) : amS S n s = true ↔ ∀ i j, i < n → j < 8 → s.testBit i = true → s.testBit j = true → i ≠ j → j < n ∧ sMat S i j = true := by
  unfold amS
  rw [allN_iff]
  constructor
  · intro h i j hi hj h1 h2 hne
    have q := h i hi
    rw [h1, Bool.not_true, Bool.false_or, decide_eq_true_eq] at q
    have := (andn0 (andn_lt _ _)).mp q j hj (by rw [andn_bit hj, h2, bit_single, decide_eq_false hne]; rfl)
    rw [mkN_bit, Bool.and_eq_true, decide_eq_true_eq] at this
    exact this
  · intro h i hi
    cases h1 : s.testBit i with
    | false => rfl
    | true =>
      rw [Bool.not_true, Bool.false_or, decide_eq_true_eq]
      refine (andn0 (andn_lt _ _)).mpr (fun j hj h2 => ?_)
      rw [andn_bit hj, bit_single, Bool.and_eq_true, Bool.not_eq_true', decide_eq_false_iff_not] at h2
      have := h i j hi hj h1 h2.1 h2.2
      rw [mkN_bit, Bool.and_eq_true, decide_eq_true_eq]
      exact this
theorem lt_pow_iff {s n : Nat} (hs : s < 256) (hn : n ≤ 8) : s < 2 ^ n ↔ ∀ i, i < 8 → s.testBit i = true → i < n := by
  constructor
  · intro h i hi hb
    rcases Nat.lt_or_ge i n with q | q
    · exact q
    · have := Nat.testBit_lt_two_pow (Nat.lt_of_lt_of_le h (Nat.pow_le_pow_right (n := 2) (by omega) q))
      rw [this] at hb; cases hb
  · intro h
    refine Nat.lt_pow_two_of_testBit _ (fun i hi => ?_)
    cases q : s.testBit i with
    | false => rfl
    | true =>
      rcases Nat.lt_or_ge i 8 with z | z
      · have := h i z q; omega
      · rw [tb_hi hs z] at q; cases q
theorem oC_eq {S : Sd} {W : Wr} {n s : Nat} (hs : s < 256) (hn : n ≤ 8) : (decide (andn s (mkN (hoP S W) n) = 0) && oC S n s) = oP S W n s := by
  apply Bool.eq_iff_iff.mpr
  unfold oC oP oM
  rw [Bool.and_eq_true, Bool.and_eq_true, Bool.and_eq_true, Bool.and_eq_true, Bool.and_eq_true, decide_eq_true_eq, decide_eq_true_eq, decide_eq_true_eq, andn0 hs, lt_pow_iff hs hn, amS_iff hs hn, allN_iff, allN_iff]
  constructor
  · intro ⟨h1, h2, h3, h4⟩
    refine ⟨fun i hi hb => ?_, h2, fun i hi => ?_⟩
    · have := h1 i hi hb
      rw [mkN_bit, Bool.and_eq_true, decide_eq_true_eq] at this
      exact this.1
    · unfold oPiece oInner
      cases hb : s.testBit i with
      | false => rfl
      | true =>
        have q1 := h1 i (by omega) hb
        rw [mkN_bit, Bool.and_eq_true] at q1
        have q3 := h3 i hi
        rw [hb, Bool.true_and, Bool.not_eq_true'] at q3
        rw [q1.2, q3, Bool.not_true, Bool.false_or, Bool.not_false, Bool.true_and, Bool.true_and, allN_iff]
        intro j hj
        cases hb2 : s.testBit j with
        | false => rfl
        | true => rw [(h4 i j hi (by omega) hb hb2 (by omega)).2]; rfl
  · intro ⟨h1, h2, h3⟩
    have key : ∀ i, i < n → s.testBit i = true → hoP S W i = true ∧ ¬ cvT S.2.2.1 (andn s (2 ^ i)) n = 15 ∧ ∀ j, j < i → s.testBit j = true → sMat S i j = true := by
      intro i hi hb
      have q := h3 i hi
      unfold oPiece oInner at q
      rw [hb, Bool.not_true, Bool.false_or, Bool.and_eq_true, Bool.and_eq_true, Bool.not_eq_true', decide_eq_false_iff_not, allN_iff] at q
      refine ⟨q.1.1, q.1.2, fun j hj hb2 => ?_⟩
      have := q.2 j hj
      rw [hb2, Bool.not_true, Bool.false_or] at this
      exact this
    refine ⟨fun i hi hb => ?_, h2, fun i hi => ?_, fun i j hi hj b1 b2 hne => ?_⟩
    · have hin := h1 i hi hb
      rw [mkN_bit, Bool.and_eq_true, decide_eq_true_eq]
      exact ⟨hin, (key i hin hb).1⟩
    · cases hb : s.testBit i with
      | false => rfl
      | true => rw [Bool.true_and, Bool.not_eq_true', decide_eq_false_iff_not]; exact (key i hi hb).2.1
    · have hjn := h1 j hj b2
      refine ⟨hjn, ?_⟩
      rcases Nat.lt_or_ge j i with q | q
      · exact (key i hi b1).2.2 j q b2
      · rw [sMat_comm]; exact (key j hjn b2).2.2 i (by omega) b1
/-- no outfit is a part of another one -/
theorem oP_anti {S : Sd} {W : Wr} {n s t : Nat} (hs : s < 256) (ht : t < 256) (hn : n ≤ 8) (h1 : oP S W n s = true) (h2 : oP S W n t = true) (h : s &&& t = s) : s = t := by
  refine eq8 hs ht (fun i hi => ?_)
  have sub : ∀ j, s.testBit j = true → t.testBit j = true := fun j hb => by
    have := Nat.testBit_and s t j
    rw [h, hb, Bool.true_and] at this
    exact this.symm
  cases b1 : s.testBit i with
  | true => rw [sub i b1]
  | false =>
    cases b2 : t.testBit i with
    | false => rfl
    | true =>
      exfalso
      unfold oP oM at h1 h2
      rw [Bool.and_eq_true, Bool.and_eq_true, decide_eq_true_eq, decide_eq_true_eq, allN_iff] at h1 h2
      have hin := (lt_pow_iff ht hn).mp h2.1 i hi b2
      have q := h2.2.2 i hin
      unfold oPiece at q
      rw [b2, Bool.not_true, Bool.false_or, Bool.and_eq_true, Bool.and_eq_true, Bool.not_eq_true', decide_eq_false_iff_not] at q
      refine q.1.2 (cvT_mono (fun j hj hb => ?_) h1.2.1)
      rw [andn_bit (by omega), sub j hb, bit_single]
      have : i ≠ j := fun e => by rw [e, hb] at b1; cases b1
      rw [decide_eq_false this]; rfl
/-- seventy rows of sets, each one in the next: every set of eight is in one of them -/
def chT : Nat := 17306002764751339443145831543475286498221680741030594927802187818071878173702337064504272501749080561636319029591510811442929024446408575028355448768762894319163218173256768981454387873409784446159771049978261655249833346071910879064559265578532102155654658316335484346595972930807166128501936523802049846370711429387150229510575082080802676975123147149270509289492751853573118204923083949348947794791934302719140568322373804084081371271897494078052198850799475471762219738673952013683593824384076524570414700084127305698205833208283136
def chI (s : Nat) : Nat := (chT >>> (7 * s)) &&& 127
theorem chI_lt : allN (fun s => decide (chI s < 70)) 256 = true := by decide +kernel
theorem chI_in : allN (fun s => allN (fun t => !(Nat.beq (chI s) (chI t)) || (Nat.beq (s &&& t) s || Nat.beq (s &&& t) t)) 256) 256 = true := by decide +kernel
theorem oP_70 {S : Sd} {W : Wr} {n : Nat} (hn : n ≤ 8) : cntN (oP S W n) 256 ≤ 70 := by
  refine hole 70 (cntN (oP S W n) 256) (fun i => chI (rowN (oP S W n) 256 i)) ?_ ?_
  · intro i hi
    obtain ⟨g1, g2, g3⟩ := rowN_spec (oP S W n) 256 i hi
    exact of_decide_eq_true (allN_iff.mp chI_lt _ g1)
  · intro i j hi hj e
    obtain ⟨g1, g2, g3⟩ := rowN_spec (oP S W n) 256 i hi
    obtain ⟨k1, k2, k3⟩ := rowN_spec (oP S W n) 256 j hj
    have e : chI (rowN (oP S W n) 256 i) = chI (rowN (oP S W n) 256 j) := e
    have q := allN_iff.mp (allN_iff.mp chI_in _ g1) _ k1
    rw [e, show Nat.beq (chI (rowN (oP S W n) 256 j)) (chI (rowN (oP S W n) 256 j)) = true from Nat.beq_refl _, Bool.not_true, Bool.false_or, Bool.or_eq_true] at q
    refine rowN_inj (oP S W n) hi hj ?_
    rcases q with q | q
    · exact oP_anti g1 k1 hn g2 k2 (Nat.eq_of_beq_eq_true q)
    · refine (oP_anti k1 g1 hn k2 g2 ?_).symm
      rw [Nat.and_comm]; exact Nat.eq_of_beq_eq_true q
theorem oP_0 {S : Sd} {W : Wr} {n : Nat} : oP S W n 0 = false := by
  cases q : oP S W n 0 with
  | false => rfl
  | true =>
    unfold oP oM at q
    rw [Bool.and_eq_true, Bool.and_eq_true, decide_eq_true_eq, decide_eq_true_eq] at q
    obtain ⟨i, -, h2, -⟩ := cvT_15.mp q.2.1 0 (by omega)
    rw [Nat.zero_testBit] at h2; cases h2
