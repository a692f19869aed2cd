/-! how many bits; look, ask -/
def pcount (m : Nat) : Nat := cntN (fun i => m.testBit i) 8
def bcX1 (v : Int32) : Int32 := v - (((v.toUInt32 >>> ((1 : Int32).toUInt32 &&& Int32.toUInt32 31)).toInt32) &&& 1431655765)
def bcX2 (x : Int32) : Int32 := (x &&& 858993459) + (((x.toUInt32 >>> ((2 : Int32).toUInt32 &&& Int32.toUInt32 31)).toInt32) &&& 858993459)
def bcX3 (x : Int32) : Int32 := (x + ((x.toUInt32 >>> ((4 : Int32).toUInt32 &&& Int32.toUInt32 31)).toInt32)) &&& 252645135
def bcX4 (x : Int32) : Int32 := x + ((x.toUInt32 >>> ((8 : Int32).toUInt32 &&& Int32.toUInt32 31)).toInt32)
def bcX5 (x : Int32) : Int32 := x + ((x.toUInt32 >>> ((16 : Int32).toUInt32 &&& Int32.toUInt32 31)).toInt32)
def bcX (v : Int32) : Int32 := bcX5 (bcX4 (bcX3 (bcX2 (bcX1 v)))) &&& 63
theorem bcX_pc : ∀ m, m < 256 → bcX (nI m) = nI (pcount m) := by decide +kernel
theorem q_bitCount {m : Nat} (hm : m < 256) (h : zH) : f_J6_bitCount_0f7a4 (nI m) h = rI (nI (pcount m)) h := by
  rw [← bcX_pc m hm]
  exact rfl
theorem pc_step : ∀ k, k < 256 → k ≠ 0 → pcount (k &&& (k - 1)) + 1 = pcount k ∧ k &&& (k - 1) < k := by decide +kernel
theorem q_ones_4 (h : zH) : ∀ (fuel k j : Nat), k < 256 → k < fuel → f_X10_ones_4 fuel (nI j) (nI k) h = rI (nI (j + pcount k)) h
  | 0, k, j, _, hf => absurd hf (Nat.not_lt_zero k)
  | fuel + 1, k, j, hk, hf => by
    rw [f_X10_ones_4]
    by_cases c : k = 0
    · subst c
      rw [if_pos (show nI 0 = 0 from rfl)]; rfl
    · obtain ⟨p1, p2⟩ := pc_step k hk c
      have e : nI k - 1 = nI (k - 1) := by rw [show k = (k - 1) + 1 by omega, nI_pred]; rfl
      rw [if_neg (nI_ne0 (by omega) (by omega)), zlt_eq, e, nI_and, nI_1, q_ones_4 h fuel _ (j + 1) (by omega) (by omega), show j + 1 + pcount (k &&& (k - 1)) = j + pcount k by omega]
theorem q_ones {k : Nat} (hk : k < 256) (h : zH) : f_X10_ones (nI k) h = rI (nI (pcount k)) h := by
  have := q_ones_4 h zF k 0 hk (by show k < 20000; omega)
  rw [Nat.zero_add] at this
  exact this
