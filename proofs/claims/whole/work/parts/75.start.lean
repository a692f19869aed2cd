section
/-! both objects at the start -/
set_option maxHeartbeats 16000000 in
theorem q_X9_init {h : zH} {x : Nat} (hn : h.1 = x + 1) (ho : h.2 x = some (.inr (5, [.null, .null, .null, .null, .null, .null, .null, .null, .null, .int 0, .long 0, .long 0, .int 0, .int 0, .int 0]))) : ∃ h', f_X9_init x h = rV h' ∧ RX h' x T0 ∧ h'.1 = x + 159 := by
  obtain ⟨h1, e1, n1, a1, o1, g1⟩ := inD.put (n := x + 1) (k := 0) (by omega) ho (by omega) (Nat.le_of_ble_eq_true rfl)
  dsimp only [List.set] at o1
  obtain ⟨h2, e2, n2, a2, o2, g2⟩ := inD.put (n := x + 35) (k := 1) (by omega) o1 (by omega) (Nat.le_of_ble_eq_true rfl)
  dsimp only [List.set] at o2
  obtain ⟨h3, e3, n3, a3, o3, g3⟩ := new_put (n := x + 69) (k := 2) (.inl (4, 2, .inr fun _ => none)) (by omega) o2 (by omega) (Nat.le_of_ble_eq_true rfl)
  dsimp only [List.set] at o3
  obtain ⟨h4, e4, n4, a4, o4, g4⟩ := new_put (n := x + 70) (k := 3) (.inl (2, 2, .inl fun _ => 0)) (by omega) o3 (by omega) (Nat.le_of_ble_eq_true rfl)
  dsimp only [List.set] at o4
  obtain ⟨h5, e5, n5, a5, o5, g5⟩ := inW.put (n := x + 71) (k := 4) (by omega) o4 (by omega) (Nat.le_of_ble_eq_true rfl)
  dsimp only [List.set] at o5
  obtain ⟨h6, e6, n6, a6, o6, g6⟩ := inR.put (n := x + 74) (k := 5) (by omega) o5 (by omega) (Nat.le_of_ble_eq_true rfl)
  dsimp only [List.set] at o6
  obtain ⟨h7, e7, n7, a7, o7, g7⟩ := inC.put (n := x + 76) (k := 6) (by omega) o6 (by omega) (Nat.le_of_ble_eq_true rfl)
  dsimp only [List.set] at o7
  obtain ⟨h8, e8, n8, a8, o8, g8⟩ := inS.put (n := x + 78) (k := 7) (by omega) o7 (by omega) (Nat.le_of_ble_eq_true rfl)
  dsimp only [List.set] at o8
  obtain ⟨h9, e9, n9, a9, o9, g9⟩ := new_put (n := x + 90) (k := 8) (.inl (1, 150, .inl fun _ => 0)) (by omega) o8 (by omega) (Nat.le_of_ble_eq_true rfl)
  dsimp only [List.set] at o9
  have q9 : h9.2 (x + 69) = some (.inl (4, 2, .inr fun _ => none)) := (g9 x _ (by omega) (by omega) (by omega)).trans ((g8 x _ (by omega) (by omega) (by omega)).trans ((g7 x _ (by omega) (by omega) (by omega)).trans ((g6 x _ (by omega) (by omega) (by omega)).trans ((g5 x _ (by omega) (by omega) (by omega)).trans ((g4 x _ (by omega) (by omega) (by omega)).trans (a3))))))
  obtain ⟨h10, e10, n10, a10, q10, g10⟩ := inD.set (n := x + 91) (fun h n r => ⟨_, r.1⟩) 0 0 rfl (by omega) q9 (by omega) (by omega) (by decide)
  have o10 := (g10 (x + 69) x (by omega) (by omega) (by omega)).trans o9
  obtain ⟨h11, e11, n11, a11, q11, g11⟩ := inD.set (n := x + 125) (fun h n r => ⟨_, r.1⟩) 1 1 rfl (by omega) q10 (by omega) (by omega) (by decide)
  have o11 := (g11 (x + 69) x (by omega) (by omega) (by omega)).trans o10
  have e12 : ∀ K : zH → zR, zpV h11 x 5 11 (.long 1) K = K (zset h11 x (.inr (5, [.ref (x + 1), .ref (x + 35), .ref (x + 69), .ref (x + 70), .ref (x + 71), .ref (x + 74), .ref (x + 76), .ref (x + 78), .ref (x + 90), .int 0, .long 0, .long 1, .int 0, .int 0, .int 0]))) := fun K => zpV_eq o11 (Nat.le_of_ble_eq_true rfl)
  have o12 := zset_at h11 x (.inr (5, [.ref (x + 1), .ref (x + 35), .ref (x + 69), .ref (x + 70), .ref (x + 71), .ref (x + 74), .ref (x + 76), .ref (x + 78), .ref (x + 90), .int 0, .long 0, .long 1, .int 0, .int 0, .int 0]))
  have g12 : ∀ a, a ≠ x → (zset h11 x (.inr (5, [.ref (x + 1), .ref (x + 35), .ref (x + 69), .ref (x + 70), .ref (x + 71), .ref (x + 74), .ref (x + 76), .ref (x + 78), .ref (x + 90), .int 0, .long 0, .long 1, .int 0, .int 0, .int 0]))).2 a = h11.2 a := fun a ha => zset_ne _ ha
  have n12 : (zset h11 x (.inr (5, [.ref (x + 1), .ref (x + 35), .ref (x + 69), .ref (x + 70), .ref (x + 71), .ref (x + 74), .ref (x + 76), .ref (x + 78), .ref (x + 90), .int 0, .long 0, .long 1, .int 0, .int 0, .int 0]))).1 = x + 125 + 34 := n11
  generalize zset h11 x (.inr (5, [.ref (x + 1), .ref (x + 35), .ref (x + 69), .ref (x + 70), .ref (x + 71), .ref (x + 74), .ref (x + 76), .ref (x + 78), .ref (x + 90), .int 0, .long 0, .long 1, .int 0, .int 0, .int 0])) = h12 at e12 o12 g12 n12
  have G11 : Gf h11 h12 x (x + 69) (x + 159) := fun a p _ _ => g12 a p
  have G10 : Gf h10 h12 x (x + 69) (x + 125) := (g11 x).tr G11 (by omega)
  have G9 : Gf h9 h12 x (x + 69) (x + 91) := (g10 x).tr G10 (by omega)
  have G8 : Gf h8 h12 x (x + 69) (x + 90) := (g9 (x + 69)).tr G9 (by omega)
  have G7 : Gf h7 h12 x (x + 69) (x + 78) := (g8 (x + 69)).tr G8 (by omega)
  have G6 : Gf h6 h12 x (x + 69) (x + 76) := (g7 (x + 69)).tr G7 (by omega)
  have G5 : Gf h5 h12 x (x + 69) (x + 74) := (g6 (x + 69)).tr G6 (by omega)
  have G4 : Gf h4 h12 x (x + 69) (x + 71) := (g5 (x + 69)).tr G5 (by omega)
  have G3 : Gf h3 h12 x (x + 69) (x + 70) := (g4 (x + 69)).tr G4 (by omega)
  have G2 : Gf h2 h12 x (x + 69) (x + 69) := (g3 (x + 69)).tr G3 (by omega)
  have G1 : Gf h1 h12 x (x + 69) (x + 35) := (g2 (x + 69)).tr G2 (by omega)
  have c6 := inR.2.1 _ _ _ a6 (G6.sm (by omega) (by omega) (by omega))
  have c7 := inC.2.1 _ _ _ a7 (G7.sm (by omega) (by omega) (by omega))
  have c8 := inS.2.1 _ _ _ a8 (G8.sm (by omega) (by omega) (by omega))
  refine ⟨h12, ?_, ⟨o12, a1.sm (G1.sm (by omega) (by omega) (by omega)), a10.sm (G10.sm (by omega) (by omega) (by omega)), a11.sm (G11.sm (by omega) (by omega) (by omega)), ⟨_, (g12 _ (by omega)).trans q11, rfl, rfl⟩, ⟨_, (G4 _ (by omega) (by omega) (by omega)).trans a4, rfl, rfl⟩, ⟨_, (G9 _ (by omega) (by omega) (by omega)).trans a9, fun j hj => rfl⟩, ⟨⟨_, a2.sm (G2.sm (by omega) (by omega) (by omega))⟩, ⟨_, a5.sm (G5.sm (by omega) (by omega) (by omega))⟩, c6, ⟨_, _, c7⟩, c8⟩⟩, by omega⟩
  unfold f_X9_init
  rw [e1, e2, e3, e4, e5, e6, e7, e8, e9, zgR_eq o9 rfl, e10, zgR_eq o10 rfl, e11, e12]
  rfl
set_option maxHeartbeats 16000000 in
theorem q_X10_init {h : zH} {m : Nat} (hn : h.1 = m + 1) (ho : h.2 m = some (.inr (6, [.null, .null, .null, .int 0, .null, .null, .null, .int 0, .int 0, .null, .long 0, .long 0, .null, .int 0, .int 0, .int 0, .int 0, .null, .null]))) : ∃ h', f_X10_init m h = rV h' ∧ RM h' m T0 ∧ ∀ a, a < m → h'.2 a = h.2 a := by
  obtain ⟨h1, e1, n1, a1, o1, g1⟩ := new_put (n := m + 1) (k := 0) (.inl (0, 88, .inl fun _ => 0)) (by omega) ho (by omega) (Nat.le_of_ble_eq_true rfl)
  dsimp only [List.set] at o1
  obtain ⟨h2, e2, n2, a2, o2, g2⟩ := new_put (n := m + 2) (k := 1) (.inl (0, 88, .inl fun _ => 0)) (by omega) o1 (by omega) (Nat.le_of_ble_eq_true rfl)
  dsimp only [List.set] at o2
  obtain ⟨h3, e3, n3, a3, o3, g3⟩ := new_put (n := m + 3) (k := 2) (.inl (0, 144, .inl fun _ => 0)) (by omega) o2 (by omega) (Nat.le_of_ble_eq_true rfl)
  dsimp only [List.set] at o3
  obtain ⟨h4, e4, n4, a4, o4, g4⟩ := new_put (n := m + 4) (k := 4) (.inl (0, 176, .inl fun _ => 0)) (by omega) o3 (by omega) (Nat.le_of_ble_eq_true rfl)
  dsimp only [List.set] at o4
  obtain ⟨h5, e5, n5, a5, o5, g5⟩ := new_put (n := m + 5) (k := 5) (.inl (0, 288, .inl fun _ => 0)) (by omega) o4 (by omega) (Nat.le_of_ble_eq_true rfl)
  dsimp only [List.set] at o5
  obtain ⟨h6, e6, n6, a6, o6, g6⟩ := new_put (n := m + 6) (k := 6) (.inl (0, 2, .inl fun _ => 0)) (by omega) o5 (by omega) (Nat.le_of_ble_eq_true rfl)
  dsimp only [List.set] at o6
  obtain ⟨h7, e7, n7, a7, o7, g7⟩ := new_put (n := m + 7) (k := 9) (.inl (0, 150, .inl fun _ => 0)) (by omega) o6 (by omega) (Nat.le_of_ble_eq_true rfl)
  dsimp only [List.set] at o7
  have e8 : ∀ K : zH → zR, zpV h7 m 6 11 (.long 1) K = K (zset h7 m (.inr (6, [.ref (m + 1), .ref (m + 2), .ref (m + 3), .int 0, .ref (m + 4), .ref (m + 5), .ref (m + 6), .int 0, .int 0, .ref (m + 7), .long 0, .long 1, .null, .int 0, .int 0, .int 0, .int 0, .null, .null]))) := fun K => zpV_eq o7 (Nat.le_of_ble_eq_true rfl)
  have o8 := zset_at h7 m (.inr (6, [.ref (m + 1), .ref (m + 2), .ref (m + 3), .int 0, .ref (m + 4), .ref (m + 5), .ref (m + 6), .int 0, .int 0, .ref (m + 7), .long 0, .long 1, .null, .int 0, .int 0, .int 0, .int 0, .null, .null]))
  have g8 : ∀ a, a ≠ m → (zset h7 m (.inr (6, [.ref (m + 1), .ref (m + 2), .ref (m + 3), .int 0, .ref (m + 4), .ref (m + 5), .ref (m + 6), .int 0, .int 0, .ref (m + 7), .long 0, .long 1, .null, .int 0, .int 0, .int 0, .int 0, .null, .null]))).2 a = h7.2 a := fun a ha => zset_ne _ ha
  have n8 : (zset h7 m (.inr (6, [.ref (m + 1), .ref (m + 2), .ref (m + 3), .int 0, .ref (m + 4), .ref (m + 5), .ref (m + 6), .int 0, .int 0, .ref (m + 7), .long 0, .long 1, .null, .int 0, .int 0, .int 0, .int 0, .null, .null]))).1 = m + 7 + 1 := n7
  generalize zset h7 m (.inr (6, [.ref (m + 1), .ref (m + 2), .ref (m + 3), .int 0, .ref (m + 4), .ref (m + 5), .ref (m + 6), .int 0, .int 0, .ref (m + 7), .long 0, .long 1, .null, .int 0, .int 0, .int 0, .int 0, .null, .null])) = h8 at e8 o8 g8 n8
  obtain ⟨h9, e9, n9, a9, o9, g9⟩ := new_put (n := m + 8) (k := 12) (.inl (0, 3, .inl fun _ => 0)) (by omega) o8 (by omega) (Nat.le_of_ble_eq_true rfl)
  dsimp only [List.set] at o9
  obtain ⟨h10, e10, n10, a10, o10, g10⟩ := new_put (n := m + 9) (k := 17) (.inl (0, 256, .inl fun _ => 0)) (by omega) o9 (by omega) (Nat.le_of_ble_eq_true rfl)
  dsimp only [List.set] at o10
  obtain ⟨h11, e11, n11, a11, o11, g11⟩ := new_put (n := m + 10) (k := 18) (.inl (0, 8, .inl fun _ => 0)) (by omega) o10 (by omega) (Nat.le_of_ble_eq_true rfl)
  dsimp only [List.set] at o11
  have G10 : Gf h10 h11 m m (m + 10) := g11 m
  have G9 : Gf h9 h11 m m (m + 9) := (g10 m).tr G10 (by omega)
  have G8 : Gf h8 h11 m m (m + 8) := (g9 m).tr G9 (by omega)
  have G7 : Gf h7 h11 m m (m + 8) := (show Gf h7 h8 m m (m + 8) from fun a p _ _ => g8 a p).tr G8 (by omega)
  have G6 : Gf h6 h11 m m (m + 7) := (g7 m).tr G7 (by omega)
  have G5 : Gf h5 h11 m m (m + 6) := (g6 m).tr G6 (by omega)
  have G4 : Gf h4 h11 m m (m + 5) := (g5 m).tr G5 (by omega)
  have G3 : Gf h3 h11 m m (m + 4) := (g4 m).tr G4 (by omega)
  have G2 : Gf h2 h11 m m (m + 3) := (g3 m).tr G3 (by omega)
  have G1 : Gf h1 h11 m m (m + 2) := (g2 m).tr G2 (by omega)
  have G0 : Gf h h11 m m (m + 1) := (g1 m).tr G1 (by omega)
  refine ⟨h11, ?_, ⟨0, 0, 0, 0, 0, _, _, _, _, _, _, _, _, _, _, o11, (G1 _ (by omega) (by omega) (by omega)).trans a1, (G2 _ (by omega) (by omega) (by omega)).trans a2, (G3 _ (by omega) (by omega) (by omega)).trans a3, (G4 _ (by omega) (by omega) (by omega)).trans a4, (G5 _ (by omega) (by omega) (by omega)).trans a5, (G6 _ (by omega) (by omega) (by omega)).trans a6, (G7 _ (by omega) (by omega) (by omega)).trans a7, (G9 _ (by omega) (by omega) (by omega)).trans a9, (G10 _ (by omega) (by omega) (by omega)).trans a10, a11, RowD0, rfl, fun e => (by cases e), fun e => (by cases e), fun j hj => rfl, rfl, rfl, rfl⟩, fun a ha => G0 a (by omega) (by omega) (by omega)⟩
  unfold f_X10_init
  rw [e1, e2, e3, e4, e5, e6, e7, e8, e9, e10, e11]
  rfl
theorem law_start (sN : Nat) (sx : Nat → Int32) (sz : Nat) : ∃ h, f_L_law sN sx (sz, fun _ => none) = f_L_law_18 sN sx zF sz (sz + 159) 0 h ∧ RX h sz T0 ∧ RM h (sz + 159) T0 := by
  obtain ⟨h1, e1, r1, n1⟩ := q_X9_init (h := zpush (sz, fun _ => none) (.inr (5, [.null, .null, .null, .null, .null, .null, .null, .null, .null, .int 0, .long 0, .long 0, .int 0, .int 0, .int 0]))) (x := sz) rfl (zpush_at _ rfl)
  obtain ⟨h2, e2, r2, g2⟩ := q_X10_init (h := zpush h1 (.inr (6, [.null, .null, .null, .int 0, .null, .null, .null, .int 0, .int 0, .null, .long 0, .long 0, .null, .int 0, .int 0, .int 0, .int 0, .null, .null]))) (m := sz + 159) (by show h1.1 + 1 = _; rw [n1]) (zpush_at _ n1)
  refine ⟨h2, ?_, ?_, r2⟩
  · show zcV (f_X9_init sz (zpush (sz, fun _ => none) (.inr (5, [.null, .null, .null, .null, .null, .null, .null, .null, .null, .int 0, .long 0, .long 0, .int 0, .int 0, .int 0])))) _ = _
    rw [zcV_of e1]
    unfold zN
    dsimp only
    rw [n1, zcV_of e2]
  · obtain ⟨a, b, c, d, ⟨g, p1, p2⟩, ⟨f, p3, p4⟩, ⟨t, p5, p6⟩, ⟨D, s1⟩, ⟨W, s2⟩, ⟨y1, y2, y3, y4, y5, y6, s3⟩, ⟨f2, cc, s4, s5⟩, s6, ⟨f3, s7⟩, ⟨g3, s8, s9⟩, s10⟩ := r1
    have S : ∀ q, q < sz + 159 → h2.2 q = h1.2 q := fun q hq => (g2 q hq).trans (zpush_ne _ (by omega))
    have M : ∀ d s, d + s ≤ sz + 159 → Sm h1 h2 d s := fun d s hd q p1 p2 => S q (by omega)
    refine ⟨(S _ (by omega)).trans a, b.sm (M _ _ (by omega)), c.sm (M _ _ (by omega)), d.sm (M _ _ (by omega)), ⟨g, (S _ (by omega)).trans p1, p2⟩, ⟨f, (S _ (by omega)).trans p3, p4⟩, ⟨t, (S _ (by omega)).trans p5, p6⟩, ⟨D, s1.sm (M _ _ (by omega))⟩, ⟨W, s2.sm (M _ _ (by omega))⟩, ⟨y1, y2, y3, y4, y5, y6, (S _ (by omega)).trans s3⟩, ⟨f2, cc, (S _ (by omega)).trans s4, (S _ (by omega)).trans s5⟩, (S _ (by omega)).trans s6, ⟨f3, (S _ (by omega)).trans s7⟩, ⟨g3, (S _ (by omega)).trans s8, s9⟩, fun i hi => ?_⟩
    obtain ⟨W, w⟩ := s10 i hi
    exact ⟨W, w.sm (M _ _ (by omega))⟩
end
