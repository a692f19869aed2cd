/-! outfits: the class's way to find them, the model's way to ask -/
theorem shi {i : Nat} (hi : i < 8) : (1 : Int32) <<< (nI i &&& 31) = nI (2 ^ i) := sh1 i hi
theorem i15 {c : Nat} (hc : c < 16) : nI c = 15 ↔ c = 15 := nI_eq (b := 15) (by omega) (by decide)
theorem q_X1_spotsN {h : zH} {d n s : Nat} {S : Sd} (hS : RS h d S) (ok : okS n S) (hs : s < 256) : f_X1_spotsOfSet d (nI s) h = rI (nI (cvT S.2.2.1 s n)) h := by
  rw [q_X1_spotsOfSet hS ok, sSet_cvT hs ok.2.1]
theorem q_X1_allMatch {h : zH} {d n s : Nat} {S : Sd} (hS : RS h d S) (ok : okS n S) (hs : s < 256) : f_X1_allMatch d (nI s) h = rB (amS S n s) h := by
  have h8 := ok.2.1
  have em := fun i (hi : i < n) => q_X1_matchesOf hS ok hi
  obtain ⟨⟨nw, ps, nt, mk, pc, nc, mc, h1⟩, -⟩ := hS
  rw [ok.1] at h1
  have body : ∀ f k, k < n → f_X1_allMatch_2 (f + 1) d (nI s) (nI k) h = if (!s.testBit k || decide (andn (andn s (2 ^ k)) (mkN (sMat S k) n) = 0)) then f_X1_allMatch_2 f d (nI s) (nI (k + 1)) h else rB false h := by
    intro f k hk
    rw [f_X1_allMatch_2, zgI_eq h1 rfl, if_neg (nI_ge hk (by omega))]
    unfold f_X1_allMatch_39
    rw [nI_1]
    cases q : s.testBit k with
    | false => rw [if_neg (fun e => by rw [(hb_iff _ _).mp e |> (hbN hs (show k < 8 by omega)).symm.trans] at q; cases q)]; rfl
    | true =>
      rw [if_pos ((hb_iff _ _).mpr ((hbN hs (by omega)).trans q)), zoc_eq h1, zcI_of (em k hk), shi (by omega), nI_andn hs, mkI_nI _ _ h8, nI_andn (andn_lt _ _), zrZ_0]
      have l := andn_lt (andn s (2 ^ k)) (mkN (sMat S k) n)
      by_cases z : andn (andn s (2 ^ k)) (mkN (sMat S k) n) = 0
      · rw [if_pos ((nI_0iff (by omega)).mpr z), decide_eq_true z]; rfl
      · rw [if_neg (fun e => z ((nI_0iff (by omega)).mp e)), decide_eq_false z]; rfl
  refine (zloopA (fun f k (_ : Unit) => f_X1_allMatch_2 f d (nI s) (nI k) h) (fun _ => ()) n (fun i => !s.testBit i || decide (andn (andn s (2 ^ i)) (mkN (sMat S i) n) = 0)) (rB true h) (rB false h) ?_ ?_ ?_ zF (by show n < 20000; omega)).trans ?_
  · intro f
    rw [f_X1_allMatch_2, zgI_eq h1 rfl, if_pos (Int32.le_refl _), zrZ_1]
  · intro f k hk hp
    rw [body f k hk, hp, if_pos rfl]
  · intro f k hk hp
    rw [body f k hk, hp, if_neg (by decide)]
  · unfold amS
    cases allN (fun i => !s.testBit i || decide (andn (andn s (2 ^ i)) (mkN (sMat S i) n) = 0)) n <;> rfl
theorem q_X7_isOutfit {h : zH} {d n s : Nat} {S : Sd} (hS : RS h d S) (ok : okS n S) (hs : s < 256) : f_X7_isOutfit d (nI s) h = rB (oC S n s) h := by
  have h8 := ok.2.1
  have em := q_X1_allMatch hS ok hs
  have ec := fun t (ht : t < 256) => q_X1_spotsN hS ok ht
  obtain ⟨⟨nw, ps, nt, mk, pc, nc, mc, h1⟩, -⟩ := hS
  have h1' := h1
  rw [ok.1] at h1'
  unfold f_X7_isOutfit oC
  rw [zoc_eq h1, zcI_of (ec s hs)]
  by_cases c15 : cvT S.2.2.1 s n = 15
  · rw [if_pos ((i15 (cvT_lt _ _ _)).mpr c15), decide_eq_true c15, Bool.true_and]
    have body : ∀ f k, k < n → f_X7_isOutfit_14 (f + 1) d (nI s) (nI k) h = if !(s.testBit k && decide (cvT S.2.2.1 (andn s (2 ^ k)) n = 15)) then f_X7_isOutfit_14 f d (nI s) (nI (k + 1)) h else rB false h := by
      intro f k hk
      rw [f_X7_isOutfit_14, zgI_eq h1' rfl, if_neg (nI_ge hk (by omega))]
      unfold f_X7_isOutfit_49
      rw [nI_1]
      cases q : s.testBit k with
      | false => rw [if_neg (fun e => by rw [(hb_iff _ _).mp e |> (hbN hs (show k < 8 by omega)).symm.trans] at q; cases q)]; rfl
      | true =>
        rw [if_pos ((hb_iff _ _).mpr ((hbN hs (by omega)).trans q)), zoc_eq h1, shi (by omega), nI_andn hs, zcI_of (ec _ (andn_lt _ _)), zrZ_0]
        by_cases z : cvT S.2.2.1 (andn s (2 ^ k)) n = 15
        · rw [if_pos ((i15 (cvT_lt _ _ _)).mpr z), decide_eq_true z]; rfl
        · rw [if_neg (fun e => z ((i15 (cvT_lt _ _ _)).mp e)), decide_eq_false z]; rfl
    refine (zloopA (fun f k (_ : Unit) => f_X7_isOutfit_14 f d (nI s) (nI k) h) (fun _ => ()) n (fun i => !(s.testBit i && decide (cvT S.2.2.1 (andn s (2 ^ i)) n = 15))) (rB (amS S n s) h) (rB false h) ?_ ?_ ?_ zF (by show n < 20000; omega)).trans ?_
    · intro f
      rw [f_X7_isOutfit_14, zgI_eq h1' rfl, if_pos (Int32.le_refl _), zoc_eq h1, zcI_of em, zrZ_b]
    · intro f k hk hp
      rw [body f k hk, hp, if_pos rfl]
    · intro f k hk hp
      rw [body f k hk, hp, if_neg (by decide)]
    · cases allN (fun i => !(s.testBit i && decide (cvT S.2.2.1 (andn s (2 ^ i)) n = 15))) n <;> rfl
  · rw [if_neg (fun e => c15 ((i15 (cvT_lt _ _ _)).mp e)), decide_eq_false c15, zrZ_0]; rfl
/-- the wardrobe, as the class keeps it: the outfits in order -/
def WD (h : zH) (w N : Nat) (p : Nat → Bool) : Prop := h.2 w = some (.inr (3, [.ref (w + 1), .int (nI N)])) ∧ ∃ f, MA h (w + 1) 70 f ∧ ∀ i, i < N → f i = nI (rowN p 256 i)
theorem q_X7_findOutfits {h : zH} {d n w : Nat} {S : Sd} {W : Wr} {nw : Nat} {f0 : Nat → Int32} {c0 : Int32} (hS : RS h d S) (ok : okS n S) (hW : RW h nw W) (hnw : ∀ K : Nat → zR, zgR h d 0 5 K = K nw) (h1 : h.2 w = some (.inr (3, [.ref (w + 1), .int c0]))) (h2 : MA h (w + 1) 70 f0) (hd : d + 4 ≤ w ∨ w + 2 ≤ d) (hd2 : nw + 3 ≤ w ∨ w + 2 ≤ nw) : ∃ h', f_X7_findOutfits w d h = rV h' ∧ WD h' w (cntN (oP S W n) 256) (oP S W n) ∧ Fr h h' w (w + 2) := by
  have h8 := ok.2.1
  unfold f_X7_findOutfits
  rw [zpV_eq h1 (Nat.le_of_ble_eq_true rfl)]
  dsimp only [List.set]
  have F1 : Fr h (zset h w (.inr (3, [.ref (w + 1), .int 0]))) w (w + 2) := Fr.set _ (by omega) (by omega)
  have k1 : (zset h w (.inr (3, [.ref (w + 1), .int 0]))).2 w = some (.inr (3, [.ref (w + 1), .int (nI 0)])) := zset_at _ _ _
  have k2 : MA (zset h w (.inr (3, [.ref (w + 1), .int 0]))) (w + 1) 70 f0 := (zset_ne _ (by omega)).trans h2
  have k3 : ∀ K : Nat → zR, zgR (zset h w (.inr (3, [.ref (w + 1), .int 0]))) d 0 5 K = K nw := by
    intro K
    rw [← hnw K]
    unfold zgR zgO
    rw [F1.2 d (by omega)]
  generalize zset h w (.inr (3, [.ref (w + 1), .int 0])) = g at F1 k1 k2 k3 ⊢
  have gS := hS.keep F1 (by omega)
  have gW := hW.keep F1 (by omega)
  obtain ⟨⟨nw', ps, nt, mk, pc, nc, mc, g1⟩, -⟩ := id gS
  have g1' := g1
  rw [ok.1] at g1'
  have first : f_X7_findOutfits_9 zF w d 0 0 g = f_X7_findOutfits_44 zF w d (mkI (hoP S W) n) 1 g := by
    refine zloop (fun f k (s : Int32) => f_X7_findOutfits_9 f w d s (nI k) g) (mkI (hoP S W)) n _ ?_ ?_ zF 0 (Nat.zero_le _) (zF_gt (by omega))
    · intro f
      rw [f_X7_findOutfits_9, zgI_eq g1' rfl, if_pos (Int32.le_refl _)]
    · intro f k hk
      rw [f_X7_findOutfits_9, zgI_eq g1' rfl, if_neg (nI_ge hk (by omega)), k3, zoc_eq g1, zcI_of (q_X1_holdOf gS ok gW hk), zlt_eq, mkI]
      unfold f_X7_findOutfits_36 hoP
      rw [nI_1]
      by_cases z : sHol (S.2.2.1 k) (S.2.2.2.2 k) (W.2.1 k) < 1
      · rw [if_pos z, decide_eq_false (Int32.not_le.mpr z)]; rfl
      · rw [if_neg z, decide_eq_true (Int32.not_lt.mp z)]; rfl
  rw [first, mkI_nI _ _ h8]
  have c70 := oP_70 (S := S) (W := W) h8
  have hold := mkN_256 (hoP S W) h8
  have c1 : cntN (oP S W n) 1 = 0 := by rw [cntN, oP_0, if_neg (by decide)]; rfl
  refine zloopE (fun f k e => f_X7_findOutfits_44 f w d (nI (mkN (hoP S W) n)) (nI k) e) (fun k e => 1 ≤ k ∧ WD e w (cntN (oP S W n) k) (oP S W n) ∧ Fr h e w (w + 2)) 256 (fun z => ∃ h', z = rV h' ∧ WD h' w (cntN (oP S W n) 256) (oP S W n) ∧ Fr h h' w (w + 2)) ?_ ?_ zF 1 g (by omega) (by show 256 < 20000 + 1; omega) ⟨Nat.le_refl _, ⟨by rw [c1]; exact k1, f0, k2, fun i hi => by rw [c1] at hi; omega⟩, F1⟩
  · intro f e ⟨_, hw, hF⟩
    show ∃ h', f_X7_findOutfits_44 (f + 1) w d (nI (mkN (hoP S W) n)) (nI 256) e = _ ∧ _
    rw [f_X7_findOutfits_44, if_pos (show (256 : Int32) ≤ nI 256 from Int32.le_refl _)]
    exact ⟨e, rfl, hw, hF⟩
  · intro f k e hk ⟨hk1, ⟨w1, fe, w2, w3⟩, hF⟩
    have eS := hS.keep hF (by omega)
    have al := andn_lt k (mkN (hoP S W) n)
    have eq := oC_eq (S := S) (W := W) (s := k) hk h8
    show ∃ e', _ ∧ f_X7_findOutfits_44 (f + 1) w d (nI (mkN (hoP S W) n)) (nI k) e = f_X7_findOutfits_44 f w d (nI (mkN (hoP S W) n)) (nI (k + 1)) e'
    rw [f_X7_findOutfits_44, if_neg (show ¬ (256 : Int32) ≤ nI k from nI_ge (b := 256) hk (by decide)), nI_andn hk, cntN]
    unfold f_X7_findOutfits_96
    rw [nI_1]
    cases q : oP S W n k with
    | true =>
      rw [q, Bool.and_eq_true, decide_eq_true_eq] at eq
      obtain ⟨r1, r2⟩ := rowN_of (oP S W n) hk q
      rw [if_pos (show true = true from rfl), if_pos ((nI_0iff (by omega)).mpr eq.1), zgI_eq w1 rfl, if_neg (show ¬ (70 : Int32) ≤ nI (cntN (oP S W n) k) from nI_ge (b := 70) (by omega) (by decide)), zcI_of (q_X7_isOutfit eS ok hk), eq.2, if_neg (by decide), zgR_eq w1 rfl, zgI_eq w1 rfl, zsI_x (nI (cntN (oP S W n) k)) (cntN (oP S W n) k) rfl w2 (by omega) (by decide)]
      have F2 : Fr e (zset e (w + 1) (.inl (0, 70, .inl (upd fe (cntN (oP S W n) k) (nI k))))) w (w + 2) := Fr.set _ (by omega) (by omega)
      have j1 := (zset_ne (h := e) (a := w + 1) (b := w) (.inl (0, 70, .inl (upd fe (cntN (oP S W n) k) (nI k)))) (by omega)).trans w1
      have j2 : MA (zset e (w + 1) (.inl (0, 70, .inl (upd fe (cntN (oP S W n) k) (nI k))))) (w + 1) 70 _ := zset_at _ _ _
      generalize zset e (w + 1) (.inl (0, 70, .inl (upd fe (cntN (oP S W n) k) (nI k)))) = e2 at F2 j1 j2 ⊢
      rw [zgI_eq j1 rfl, nI_1, zpV_eq j1 (Nat.le_of_ble_eq_true rfl)]
      refine ⟨_, ⟨by omega, ⟨zset_at _ _ _, upd fe (cntN (oP S W n) k) (nI k), (zset_ne _ (by omega)).trans j2, fun i hi => ?_⟩, (hF.tr F2).tr (Fr.set _ (by omega) (by omega))⟩, rfl⟩
      by_cases z : i = cntN (oP S W n) k
      · subst z; rw [upd_self, r2]
      · rw [upd_ne _ _ z]; exact w3 i (by omega)
    | false =>
      rw [if_neg (show ¬ (false = true) by decide)]
      have same : ∀ r : zR, r = f_X7_findOutfits_44 f w d (nI (mkN (hoP S W) n)) (nI (k + 1)) e → ∃ e', (1 ≤ k + 1 ∧ WD e' w (cntN (oP S W n) k) (oP S W n) ∧ Fr h e' w (w + 2)) ∧ r = f_X7_findOutfits_44 f w d (nI (mkN (hoP S W) n)) (nI (k + 1)) e' := fun r e1 => ⟨e, ⟨by omega, ⟨w1, fe, w2, w3⟩, hF⟩, e1⟩
      refine same _ ?_
      rw [q] at eq
      by_cases z : andn k (mkN (hoP S W) n) = 0
      · rw [if_pos ((nI_0iff (by omega)).mpr z), zgI_eq w1 rfl]
        rw [decide_eq_true z, Bool.true_and] at eq
        by_cases y : (70 : Int32) ≤ nI (cntN (oP S W n) k)
        · rw [if_pos y]
        · rw [if_neg y, zcI_of (q_X7_isOutfit eS ok hk), eq, if_pos (by decide)]
      · rw [if_neg (fun y => z ((nI_0iff (by omega)).mp y))]
/-! the model -/
theorem q_X10_coveredBy {h : zH} {m n s : Nat} {M : Mo} {nf : Nat → Int32} {S : Sd} (hO : MO h m M) (hN : MA h (m + 1) 88 nf) (r : RowS nf n S) (ok : okS n S) (hs : s < 256) : f_X10_coveredBy m (nI s) h = rI (nI (cvT S.2.2.1 s n)) h := by
  have h8 := ok.2.1
  refine zloop (fun f k (a : Nat) => f_X10_coveredBy_4 f m (nI s) (nI a) (nI k) h) (cvT S.2.2.1 s) n _ ?_ ?_ zF 0 (Nat.zero_le _) (zF_gt (by omega))
  · intro f
    rw [f_X10_coveredBy_4, zgR_eq hO rfl, zaI_x 0 0 rfl hN (by decide) (by decide), r.1, ok.1, if_pos (Int32.le_refl _)]; rfl
  · intro f k hk
    rw [f_X10_coveredBy_4, zgR_eq hO rfl, zaI_x 0 0 rfl hN (by decide) (by decide), r.1, ok.1, if_neg (nI_ge hk (by omega)), zcI_of (q_X10_has (nI s) k h), hbN hs (by omega), zgR_eq hO rfl, zaI_x (12 + nI k) (12 + k) (nI_add 12 k) hN (by omega) (by decide), (r.2.2 k hk).1, zcI_of (q_X10_covers _ h), cvT]
    unfold f_X10_coveredBy_39
    rw [zlt_eq, zlt_eq, nI_1]
    cases s.testBit k
    · rw [if_pos (by decide), or0, if_neg (by decide)]
    · rw [if_neg (by decide), if_pos rfl, sCov_nI, nI_or]
theorem q_X10_isOutfit {h : zH} {m n L s : Nat} {M : Mo} {nf : Nat → Int32} {S : Sd} {W : Wr} (hO : MO h m M) (hN : MA h (m + 1) 88 nf) (r : RowS nf n S) (rw_ : RowW nf n L W) (ok : okS n S) (hs : s < 256) : f_X10_isOutfit m (nI s) h = rB (oM S W n s) h := by
  have h8 := ok.2.1
  unfold f_X10_isOutfit f_X10_isOutfit_15 oM
  rw [zoc_eq hO, zcI_of (q_X10_coveredBy hO hN r ok hs)]
  by_cases c15 : cvT S.2.2.1 s n = 15
  · rw [if_pos ((i15 (cvT_lt _ _ _)).mpr c15), decide_eq_true c15, Bool.true_and]
    refine zloopB (fun f k v => f_X10_isOutfit_18 f m (nI s) v (nI k) h) (oPiece S W n s) n h ?_ ?_ ?_ zF (by show n < 20000; omega)
    · intro f v
      rw [f_X10_isOutfit_18, zgR_eq hO rfl, zaI_x 0 0 rfl hN (by decide) (by decide), r.1, ok.1, if_pos (Int32.le_refl _)]
      exact zrZ_b v h
    · intro f k hk
      rw [f_X10_isOutfit_18, zgR_eq hO rfl, zaI_x 0 0 rfl hN (by decide) (by decide), r.1, ok.1, if_neg (nI_ge hk (by omega)), if_pos rfl]
      exact zrZ_0 h
    · intro f k hk
      have inner : ∀ c : Bool, f_X10_isOutfit_95 (f_X10_isOutfit_18 f) m (nI s) (nI k) (b2i c) h = f_X10_isOutfit_18 f m (nI s) (b2i (c && oInner S s k)) (nI (k + 1)) h := by
        intro c
        unfold f_X10_isOutfit_95
        have z := zloop (fun e j v => f_X10_isOutfit_99 (f_X10_isOutfit_18 f) e m (nI s) v (nI k) (nI j) h) (fun j => b2i (c && allN (fun j => !s.testBit j || sMat S k j) j)) k (f_X10_isOutfit_18 f m (nI s) (b2i (c && oInner S s k)) (nI (k + 1)) h) ?_ ?_ zF 0 (Nat.zero_le _) (zF_gt (by omega))
        · simp only [allN, Bool.and_true] at z
          exact z
        · intro e
          rw [f_X10_isOutfit_99, if_pos (Int32.le_refl _)]
          unfold f_X10_isOutfit_140
          rw [nI_1]; rfl
        · intro e j hj
          rw [f_X10_isOutfit_99, if_neg (nI_ge hj (by omega)), zcI_of (q_X10_has (nI s) j h), hbN hs (by omega), zoc_eq hO, zcI_of (q_X10_areGoing hO hN r ok hk (by omega)), allN]
          unfold f_X10_isOutfit_132 f_X10_isOutfit_128 f_X10_isOutfit_133
          rw [nI_1]
          rw [← Bool.and_assoc]
          cases c && allN (fun j => !s.testBit j || sMat S k j) j
          · rw [if_pos (by decide)]; rfl
          · rw [if_neg (by decide)]
            cases s.testBit j
            · rw [if_pos (by decide)]; rfl
            · rw [if_neg (by decide)]
              cases sMat S k j
              · rw [if_pos (by decide)]; rfl
              · rw [if_neg (by decide)]; rfl
      rw [f_X10_isOutfit_18, zgR_eq hO rfl, zaI_x 0 0 rfl hN (by decide) (by decide), r.1, ok.1, if_neg (nI_ge hk (by omega)), if_neg (by decide), zcI_of (q_X10_has (nI s) k h), hbN hs (by omega), zgR_eq hO rfl, zaI_x (12 + nI k) (12 + k) (nI_add 12 k) hN (by omega) (by decide), zgR_eq hO rfl, zaI_x (28 + nI k) (28 + k) (nI_add 28 k) hN (by omega) (by decide), zgR_eq hO rfl, zaI_x (36 + nI k) (36 + k) (nI_add 36 k) hN (by omega) (by decide), (r.2.2 k hk).1, (r.2.2 k hk).2.2, rw_.2.2.2 k hk, zcI_of (q_X10_holds _ _ _ h), zoc_eq hO, shi (by omega), nI_andn hs, zcI_of (q_X10_coveredBy hO hN r ok (andn_lt _ _))]
      unfold f_X10_isOutfit_94 oPiece hoP
      rw [show f_X10_isOutfit_95 (f_X10_isOutfit_18 f) m (nI s) (nI k) 0 h = _ from inner false, show f_X10_isOutfit_95 (f_X10_isOutfit_18 f) m (nI s) (nI k) 1 h = _ from inner true]
      cases s.testBit k with
      | false =>
        rw [if_pos (by decide)]
        unfold f_X10_isOutfit_140
        rw [nI_1]; rfl
      | true =>
        rw [if_neg (by decide)]
        by_cases z : sHol (S.2.2.1 k) (S.2.2.2.2 k) (W.2.1 k) < 1
        · rw [if_pos z, decide_eq_false (Int32.not_le.mpr z)]; rfl
        · rw [if_neg z, decide_eq_true (Int32.not_lt.mp z)]
          by_cases y : cvT S.2.2.1 (andn s (2 ^ k)) n = 15
          · rw [if_pos ((i15 (cvT_lt _ _ _)).mpr y), decide_eq_true y]; rfl
          · rw [if_neg (fun e => y ((i15 (cvT_lt _ _ _)).mp e)), decide_eq_false y]; rfl
  · rw [if_neg (fun e => c15 ((i15 (cvT_lt _ _ _)).mp e)), decide_eq_false c15, Bool.false_and, show zF = 19999 + 1 from rfl, f_X10_isOutfit_18, zgR_eq hO rfl, zaI_x 0 0 rfl hN (by decide) (by decide)]
    unfold f_X10_isOutfit_146
    rw [if_pos rfl, zrZ_0]
    split <;> rfl
