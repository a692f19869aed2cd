/-! MASKS -/
theorem gb_nI (m : Nat) {b : Nat} (hb : b < 32) : gb (nI m) b = m.testBit b := by
  show (BitVec.ofNat 32 m).getLsbD b = _
  rw [BitVec.getLsbD_ofNat, decide_eq_true hb, Bool.true_and]
theorem gb_not (x : Int32) {b : Nat} (hb : b < 32) : gb (x ^^^ (-1)) b = !gb x b := by
  show (x.toBitVec ^^^ (-1#32)).getLsbD b = _
  rw [BitVec.getLsbD_xor]
  have : (-1#32).getLsbD b = true := by
    revert b
    decide +kernel
  rw [this]
  show (x.toBitVec.getLsbD b ^^ true) = !x.toBitVec.getLsbD b
  cases x.toBitVec.getLsbD b <;> rfl
/-- the bits of a that b hasn't -/
def andn (a b : Nat) : Nat := mkN (fun i => a.testBit i && !b.testBit i) 8
theorem andn_lt (a b : Nat) : andn a b < 256 := mkN_256 _ (Nat.le_refl 8)
theorem andn_bit {a b i : Nat} (hi : i < 8) : (andn a b).testBit i = (a.testBit i && !b.testBit i) := by
  unfold andn
  rw [mkN_bit, decide_eq_true hi, Bool.true_and]
theorem tb_hi {a i : Nat} (ha : a < 256) (hi : 8 ≤ i) : a.testBit i = false := Nat.testBit_lt_two_pow (Nat.lt_of_lt_of_le ha (Nat.pow_le_pow_right (n := 2) (i := 8) (by omega) hi))
theorem eq8 {a b : Nat} (ha : a < 256) (hb : b < 256) (h : ∀ i, i < 8 → a.testBit i = b.testBit i) : a = b := by
  apply Nat.eq_of_testBit_eq
  intro i
  rcases Nat.lt_or_ge i 8 with q | q
  · exact h i q
  · rw [tb_hi ha q, tb_hi hb q]
theorem andn_bitA {a b i : Nat} : (andn a b).testBit i = (decide (i < 8) && (a.testBit i && !b.testBit i)) := by
  unfold andn
  rw [mkN_bit]
theorem nI_andn {a : Nat} (ha : a < 256) (b : Nat) : nI a &&& (nI b ^^^ (-1)) = nI (andn a b) := by
  apply gb_ext
  intro i hi
  rw [gb_and, gb_not _ hi, gb_nI _ hi, gb_nI _ hi, gb_nI _ hi, andn_bitA]
  rcases Nat.lt_or_ge i 8 with q | q
  · rw [decide_eq_true q, Bool.true_and]
  · rw [tb_hi ha q, decide_eq_false (by omega)]; rfl
theorem andn0 {a b : Nat} (ha : a < 256) : andn a b = 0 ↔ ∀ i, i < 8 → a.testBit i = true → b.testBit i = true := by
  constructor
  · intro e i hi h1
    have := andn_bit (a := a) (b := b) hi
    rw [e, Nat.zero_testBit, h1, Bool.true_and] at this
    cases q : b.testBit i with
    | true => rfl
    | false => rw [q] at this; cases this
  · intro h
    refine eq8 (andn_lt a b) (by omega) (fun i hi => ?_)
    rw [andn_bit hi, Nat.zero_testBit]
    cases q : a.testBit i with
    | false => rfl
    | true => rw [h i hi q]; rfl
theorem nI_0iff {a : Nat} (ha : a < 2 ^ 31) : nI a = 0 ↔ a = 0 := nI_eq (b := 0) ha (by decide)
theorem or_lt256 {a b : Nat} (ha : a < 256) (hb : b < 256) : a ||| b < 256 := Nat.or_lt_two_pow (n := 8) ha hb
theorem allP {n : Nat} (hn : n ≤ 8) : (1 : Int32) <<< (nI n &&& 31) - 1 = nI (2 ^ n - 1) := by
  rw [sh1N n (by omega)]
  have : 0 < 2 ^ n := Nat.two_pow_pos n
  rw [show 2 ^ n = (2 ^ n - 1) + 1 by omega, nI_pred]; rfl
theorem two8 {n : Nat} (hn : n ≤ 8) : 2 ^ n - 1 < 256 := by
  have := Nat.pow_le_pow_right (n := 2) (j := 8) (by omega) hn
  omega
theorem bitP {n i : Nat} : (2 ^ n - 1).testBit i = decide (i < n) := Nat.testBit_two_pow_sub_one n i
/-- pieces that aren't on -/
def offW (W : Wr) (L i : Nat) : Bool := decide (sPl W.1 L (nI i) = -101)
def freeN (W : Wr) (L n : Nat) : Nat := mkN (offW W L) n
theorem offW_bit {n L i : Nat} {W : Wr} (o : okW n L W) (h8 : n ≤ 8) (hi : i < 8) : offW W L i = !(oN W.1 L).testBit i := by
  have hl : L ≤ 8 := Nat.le_trans o.2.1 h8
  unfold offW
  cases q : (oN W.1 L).testBit i with
  | true =>
    obtain ⟨k, hk, e⟩ := (oN_bit i).mp q
    refine decide_eq_false (fun z => ?_)
    have := (sPl_none hl).mp z k hk
    rw [(o.ixx h8 hk).2, e] at this
    exact this rfl
  | false =>
    refine decide_eq_true ((sPl_none hl).mpr (fun k hk e => ?_))
    have : (oN W.1 L).testBit i = true := (oN_bit i).mpr ⟨k, hk, by rw [e, ix_nI (by omega)]⟩
    rw [this] at q; cases q
theorem free_eq {n L : Nat} {W : Wr} (o : okW n L W) (h8 : n ≤ 8) : ((1 : Int32) <<< (nI n &&& 31) - 1) &&& (sOn W.1 L ^^^ (-1)) = nI (freeN W L n) := by
  rw [allP h8, (o.onN h8).1, nI_andn (two8 h8)]
  congr 1
  refine eq8 (andn_lt _ _) (mkN_256 _ h8) (fun i hi => ?_)
  rw [andn_bit hi, bitP, freeN, mkN_bit, offW_bit o h8 hi]
theorem freeN_bit {n L i : Nat} {W : Wr} : (freeN W L n).testBit i = (decide (i < n) && offW W L i) := mkN_bit _ _ _
theorem freeN_lt {n L : Nat} {W : Wr} (h8 : n ≤ 8) : freeN W L n < 256 := mkN_256 _ h8
theorem and1 (x : Int32) : x &&& 1 = 0 ∨ x &&& 1 = 1 := by
  rw [pk_and x (m := 1) 1 (by decide)]
  have : x.toBitVec.toNat % 2 ^ 1 = 0 ∨ x.toBitVec.toNat % 2 ^ 1 = 1 := by omega
  rcases this with q | q <;> rw [q]
  · exact Or.inl rfl
  · exact Or.inr rfl
theorem hb_iff0 (s : Int32) (p : Nat) : ((s >>> (nI p &&& 31)) &&& 1) = 0 ↔ hb s p = false := by
  constructor
  · intro e
    cases q : hb s p with
    | false => rfl
    | true =>
      have := (hb_iff s p).mpr q
      rw [e] at this
      exact absurd this (by decide)
  · intro e
    rcases and1 (s >>> (nI p &&& 31)) with q | q
    · exact q
    · rw [(hb_iff s p).mp q] at e; cases e
theorem hbN {m i : Nat} (hm : m < 256) (hi : i < 8) : hb (nI m) i = m.testBit i := hb_nI m hm i hi
/-- the spots as a number -/
def cvN (k : Int32) : Nat := if k = 0 then 2 else if k = 1 then 6 else if k = 2 then 7 else if k = 3 then 1 else if k = 4 then 8 else 14
theorem cvN_lt (k : Int32) : cvN k < 16 := by
  unfold cvN
  repeat' split
  all_goals omega
theorem sCov_nI (k : Int32) : sCov k = nI (cvN k) := by
  unfold sCov cvN
  repeat' split
  all_goals rfl
theorem neg1 {v : Int32} (h : -1 ≤ v) (h2 : ¬ v = -1) : 0 ≤ v := by
  rw [Int32.le_iff_toInt_le] at h ⊢
  have e1 : (-1 : Int32).toInt = -1 := by decide
  have e0 : (0 : Int32).toInt = 0 := by decide
  rw [e1] at h
  rw [e0]
  have : v.toInt ≠ -1 := fun e => h2 (Int32.toInt_inj.mp (by rw [e, e1]))
  omega
theorem neg1N {v : Int32} (h : v = -1) {a : Nat} (ha : a < 2 ^ 31) : ¬ nI a = v := by
  subst h
  intro e
  have := nI_pos (n := a) ha
  rw [e] at this
  exact this (by decide)
