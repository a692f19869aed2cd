/-! HEAP: objects, arrays -/
def zset (h : zH) (a : Nat) (e : zE) : zH := (h.1, fun q => if q = a then some e else h.2 q)
def zpush (h : zH) (e : zE) : zH := (h.1 + 1, fun q => if q = h.1 then some e else h.2 q)
def zgO (h : zH) (a ci : Nat) (K : List Value → zR) : zR := match h.2 a with
  | some (.inr (c, fs)) => if c = ci then K fs else none
  | _ => none
def zgI (h : zH) (a ci k : Nat) (K : Int32 → zR) : zR := zgO h a ci fun fs => match fs[k]? with
  | some (.int x) => K x
  | _ => none
def zgJ (h : zH) (a ci k : Nat) (K : Int64 → zR) : zR := zgO h a ci fun fs => match fs[k]? with
  | some (.long x) => K x
  | _ => none
def zgR (h : zH) (a ci k : Nat) (K : Nat → zR) : zR := zgO h a ci fun fs => match fs[k]? with
  | some (.ref x) => K x
  | _ => none
def zoc (h : zH) (a ci : Nat) (r : zR) : zR := zgO h a ci fun _ => r
def zpV (h : zH) (a ci k : Nat) (v : Value) (K : zH → zR) : zR := zgO h a ci fun fs => if k < fs.length then K (zset h a (.inr (ci, fs.set k v))) else none
def zgA (h : zH) (a t : Nat) (K : Nat → (Nat → Int32) → zR) : zR := match h.2 a with
  | some (.inl (t', n, .inl f)) => if t' = t then K n f else none
  | _ => none
def zgB (h : zH) (a t : Nat) (K : Nat → (Nat → Option Nat) → zR) : zR := match h.2 a with
  | some (.inl (t', n, .inr f)) => if t' = t then K n f else none
  | _ => none
def zaI (h : zH) (a t : Nat) (i : Int32) (K : Int32 → zR) : zR := zgA h a t fun n f => if i < 0 ∨ n ≤ i.toNatClampNeg then none else K (f i.toNatClampNeg)
def zaL (h : zH) (a t : Nat) (K : Int32 → zR) : zR := zgA h a t fun n _ => K (Int32.ofNat n)
def zsI (h : zH) (a t : Nat) (i x : Int32) (K : zH → zR) : zR := zgA h a t fun n f => if i < 0 ∨ n ≤ i.toNatClampNeg then none else K (zset h a (.inl (t, n, .inl (upd f i.toNatClampNeg x))))
def zaR (h : zH) (a t : Nat) (i : Int32) (K : Nat → zR) : zR := zgB h a t fun n f => if i < 0 ∨ n ≤ i.toNatClampNeg then none else match f i.toNatClampNeg with
  | some y => K y
  | none => none
def zsR (h : zH) (a t : Nat) (i : Int32) (v ci : Nat) (K : zH → zR) : zR := zgB h a t fun n f => if i < 0 ∨ n ≤ i.toNatClampNeg then none else zoc h v ci (K (zset h a (.inl (t, n, .inr (va_up f i.toNatClampNeg (some v))))))
/-- System.arraycopy of ints, to another array -/
def zcp (h : zH) (a0 : Nat) (sp : Int32) (a : Nat) (dp n : Int32) (K : zH → zR) : zR := zgA h a0 0 fun n0 f => zgA h a 0 fun n1 g => if sp < 0 ∨ dp < 0 ∨ n < 0 ∨ n0 < sp.toNatClampNeg + n.toNatClampNeg ∨ n1 < dp.toNatClampNeg + n.toNatClampNeg then none else K (zset h a (.inl (0, n1, .inl (va_cpy f g sp.toNatClampNeg dp.toNatClampNeg n.toNatClampNeg))))
def zcI (r : zR) (K : Int32 → zH → zR) : zR := match r with
  | some (some (.int x), h') => K x h'
  | _ => none
def zcJ (r : zR) (K : Int64 → zH → zR) : zR := match r with
  | some (some (.long x), h') => K x h'
  | _ => none
def zcV (r : zR) (K : zH → zR) : zR := match r with
  | some (none, h') => K h'
  | _ => none
theorem zgO_some {h : zH} {a ci : Nat} {K : List Value → zR} {q : Option Value × zH} (hr : zgO h a ci K = some q) : ∃ fs, h.2 a = some (.inr (ci, fs)) ∧ K fs = some q := by
  unfold zgO at hr
  split at hr
  · rename_i c fs he
    split at hr
    · rename_i hc
      subst hc
      exact ⟨fs, he, hr⟩
    · cases hr
  · cases hr
theorem zgI_some {h : zH} {a ci k : Nat} {K : Int32 → zR} {q : Option Value × zH} (hr : zgI h a ci k K = some q) : ∃ fs x, h.2 a = some (.inr (ci, fs)) ∧ fs[k]? = some (.int x) ∧ K x = some q := by
  obtain ⟨fs, h1, h2⟩ := zgO_some hr
  split at h2
  · rename_i x hx
    exact ⟨fs, x, h1, hx, h2⟩
  · cases h2
theorem zgJ_some {h : zH} {a ci k : Nat} {K : Int64 → zR} {q : Option Value × zH} (hr : zgJ h a ci k K = some q) : ∃ fs x, h.2 a = some (.inr (ci, fs)) ∧ fs[k]? = some (.long x) ∧ K x = some q := by
  obtain ⟨fs, h1, h2⟩ := zgO_some hr
  split at h2
  · rename_i x hx
    exact ⟨fs, x, h1, hx, h2⟩
  · cases h2
theorem zgR_some {h : zH} {a ci k : Nat} {K : Nat → zR} {q : Option Value × zH} (hr : zgR h a ci k K = some q) : ∃ fs x, h.2 a = some (.inr (ci, fs)) ∧ fs[k]? = some (.ref x) ∧ K x = some q := by
  obtain ⟨fs, h1, h2⟩ := zgO_some hr
  split at h2
  · rename_i x hx
    exact ⟨fs, x, h1, hx, h2⟩
  · cases h2
theorem zgA_some {h : zH} {a t : Nat} {K : Nat → (Nat → Int32) → zR} {q : Option Value × zH} (hr : zgA h a t K = some q) : ∃ n f, h.2 a = some (.inl (t, n, .inl f)) ∧ K n f = some q := by
  unfold zgA at hr
  split at hr
  · rename_i t' n f he
    split at hr
    · rename_i hc
      subst hc
      exact ⟨n, f, he, hr⟩
    · cases hr
  · cases hr
theorem zgB_some {h : zH} {a t : Nat} {K : Nat → (Nat → Option Nat) → zR} {q : Option Value × zH} (hr : zgB h a t K = some q) : ∃ n f, h.2 a = some (.inl (t, n, .inr f)) ∧ K n f = some q := by
  unfold zgB at hr
  split at hr
  · rename_i t' n f he
    split at hr
    · rename_i hc
      subst hc
      exact ⟨n, f, he, hr⟩
    · cases hr
  · cases hr
theorem zcI_some {r : zR} {K : Int32 → zH → zR} {q : Option Value × zH} (hr : zcI r K = some q) : ∃ x h', r = some (some (.int x), h') ∧ K x h' = some q := by
  unfold zcI at hr
  split at hr
  · exact ⟨_, _, rfl, hr⟩
  · cases hr
theorem zcJ_some {r : zR} {K : Int64 → zH → zR} {q : Option Value × zH} (hr : zcJ r K = some q) : ∃ x h', r = some (some (.long x), h') ∧ K x h' = some q := by
  unfold zcJ at hr
  split at hr
  · exact ⟨_, _, rfl, hr⟩
  · cases hr
theorem zcV_some {r : zR} {K : zH → zR} {q : Option Value × zH} (hr : zcV r K = some q) : ∃ h', r = some (none, h') ∧ K h' = some q := by
  unfold zcV at hr
  split at hr
  · exact ⟨_, rfl, hr⟩
  · cases hr
theorem zRel.set {D : zD} {A : Nat → Prop} {h : zH} {H1 : Heap} {ws : va_W} {a k0 : Nat} {e0 : va_E} {e1 : zE} (hD : va_D A ws) (m1 : ∀ (a : Nat) (e : zE), h.2 a = some e → ∃ k : Nat, ws[k]? = some (a, zcell D e)) (m2 : ∀ (k : Nat) (q : Nat × va_E), ws[k]? = some q → ∃ e, h.2 q.1 = some e ∧ q.2 = zcell D e) (h0 : ws[k0]? = some (a, e0)) (hz : H1.size = h.1) (hP : va_P D.1 vwCl (ws.set k0 (a, zcell D e1)) H1) (hD1 : va_D A (ws.set k0 (a, zcell D e1))) : zRel D A (zset h a e1) H1 := by
  have hlt : k0 < ws.length := (List.getElem?_eq_some_iff.mp h0).1
  refine ⟨hz, ws.set k0 (a, zcell D e1), hP, hD1, fun b e hb => ?_, fun k q hq => ?_⟩
  · by_cases hba : b = a
    · subst hba
      simp only [zset, if_true] at hb
      cases hb
      exact ⟨k0, by rw [List.getElem?_set_self hlt]⟩
    · simp only [zset, if_neg hba] at hb
      obtain ⟨k, hk⟩ := m1 b e hb
      refine ⟨k, ?_⟩
      rw [List.getElem?_set_ne (fun hkk => ?_)]
      · exact hk
      · subst hkk
        rw [h0] at hk
        cases hk
        exact hba rfl
  · by_cases hk : k0 = k
    · subst hk
      rw [List.getElem?_set_self hlt] at hq
      cases hq
      exact ⟨e1, by simp [zset], rfl⟩
    · rw [List.getElem?_set_ne hk] at hq
      obtain ⟨e, he, hee⟩ := m2 k q hq
      refine ⟨e, ?_, hee⟩
      have hqa : ¬ q.1 = a := fun hqa => hk ((hD.1 k k0 q _ hq h0 hqa).symm)
      simp only [zset, if_neg hqa]
      exact he
theorem va_S.then {A : Nat → Prop} {H0 H H1 : Heap} {locs locs1 : List Loc} (h : va_S A H0 H locs) (h1 : va_S A H H1 locs1) : va_S A H0 H1 locs1 := ⟨Nat.le_trans h.1 h1.1, fun q hq hA => (h1.2.1 q (Nat.lt_of_lt_of_le hq h.1) hA).trans (h.2.1 q hq hA), h1.2.2⟩
theorem va_S.here {A : Nat → Prop} {H0 H : Heap} {locs : List Loc} (h : va_S A H0 H locs) : va_S A H H locs := ⟨Nat.le_refl _, fun _ _ _ => rfl, h.2.2⟩
section ZS
variable {p : Program} {l : Launch} {e : Env} {R : Room} {s : State} {m : MethodId} {args : Array Value} {below : List Frame} {meth : Method} {c : Code} {H : Heap} {locs : List Loc} {cells slots : Nat} {Q : State → Prop} {g : JFrame}
theorem W.sized (k : H.size ≤ s.heap.size + cells → W p l e R s m args below meth c H locs cells slots Q g) : W p l e R s m args below meth c H locs cells slots Q g := fun T hT X => k (by rw [← hT]; exact X.heapSize) T hT X
end ZS
