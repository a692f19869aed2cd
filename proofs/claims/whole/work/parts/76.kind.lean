section
/-! WHAT KIND OF VALUE A CALL ANSWERS -/
def Ty (P : Value → Prop) (r : zR) : Prop := ∀ q, r = some q → ∃ v, q.1 = some v ∧ P v
abbrev isI (v : Value) : Prop := ∃ y, v = .int y
abbrev isJ (v : Value) : Prop := ∃ y, v = .long y
section TYS
variable {P : Value → Prop} {h : zH} {a t ci k : Nat}
theorem Ty.no : Ty P none := fun q e => by cases e
theorem Ty.it {c : Prop} {inst : Decidable c} {r1 r2 : zR} (h1 : Ty P r1) (h2 : Ty P r2) : Ty P (@ite zR c inst r1 r2) := by
  by_cases hc : c
  · rw [if_pos hc]; exact h1
  · rw [if_neg hc]; exact h2
theorem Ty.gO {K : List Value → zR} (w : ∀ fs, Ty P (K fs)) : Ty P (zgO h a ci K) := fun q e => by
  obtain ⟨fs, -, e2⟩ := zgO_some e
  exact w fs q e2
theorem Ty.gI {K : Int32 → zR} (w : ∀ x, Ty P (K x)) : Ty P (zgI h a ci k K) := fun q e => by
  obtain ⟨_, x, -, -, e2⟩ := zgI_some e
  exact w x q e2
theorem Ty.gJ {K : Int64 → zR} (w : ∀ x, Ty P (K x)) : Ty P (zgJ h a ci k K) := fun q e => by
  obtain ⟨_, x, -, -, e2⟩ := zgJ_some e
  exact w x q e2
theorem Ty.gR {K : Nat → zR} (w : ∀ x, Ty P (K x)) : Ty P (zgR h a ci k K) := fun q e => by
  obtain ⟨_, x, -, -, e2⟩ := zgR_some e
  exact w x q e2
theorem Ty.oc {r : zR} (w : Ty P r) : Ty P (zoc h a ci r) := Ty.gO fun _ => w
theorem Ty.pV {v : Value} {K : zH → zR} (w : ∀ x, Ty P (K x)) : Ty P (zpV h a ci k v K) := Ty.gO fun _ => Ty.it (w _) Ty.no
theorem Ty.aI {i : Int32} {K : Int32 → zR} (w : ∀ x, Ty P (K x)) : Ty P (zaI h a t i K) := fun q e => by
  obtain ⟨n, f, -, e2⟩ := zgA_some e
  exact (Ty.it Ty.no (w _)) q e2
theorem Ty.sI {i x : Int32} {K : zH → zR} (w : ∀ x, Ty P (K x)) : Ty P (zsI h a t i x K) := fun q e => by
  obtain ⟨n, f, -, e2⟩ := zgA_some e
  exact (Ty.it Ty.no (w _)) q e2
theorem Ty.aR {i : Int32} {K : Nat → zR} (w : ∀ x, Ty P (K x)) : Ty P (zaR h a t i K) := fun q e => by
  obtain ⟨n, f, -, e2⟩ := zgB_some e
  refine (Ty.it Ty.no ?_) q e2
  cases f i.toNatClampNeg with
  | none => exact Ty.no
  | some y => exact w y
theorem Ty.cI {r : zR} {K : Int32 → zH → zR} (w : ∀ x g, Ty P (K x g)) : Ty P (zcI r K) := fun q e => by
  obtain ⟨x, g, -, e2⟩ := zcI_some e
  exact w x g q e2
theorem Ty.cJ {r : zR} {K : Int64 → zH → zR} (w : ∀ x g, Ty P (K x g)) : Ty P (zcJ r K) := fun q e => by
  obtain ⟨x, g, -, e2⟩ := zcJ_some e
  exact w x g q e2
theorem Ty.cV {r : zR} {K : zH → zR} (w : ∀ g, Ty P (K g)) : Ty P (zcV r K) := fun q e => by
  obtain ⟨g, -, e2⟩ := zcV_some e
  exact w g q e2
theorem Ty.lt {α : Type} {x : α} {K : α → zR} (w : ∀ x, Ty P (K x)) : Ty P (zlt x K) := w x
theorem Ty.dv {y : Int64} {r : zR} (w : Ty P r) : Ty P (zdvJ y r) := Ty.it Ty.no w
theorem Ty.rI {x : Int32} : Ty isI (zrI x h) := fun q e => by
  cases e
  exact ⟨_, rfl, _, rfl⟩
theorem Ty.rJ {x : Int64} : Ty isJ (zrJ x h) := fun q e => by
  cases e
  exact ⟨_, rfl, _, rfl⟩
end TYS
theorem ty_doll (x1 : Int32) (x : Nat) (h : zH) : Ty isI (f_X9_doll x x1 h) := by
  unfold f_X9_doll
  repeat' (with_reducible first | exact Ty.rI | exact Ty.rJ | refine Ty.it ?_ ?_ | refine Ty.gR (fun _ => ?_) | refine Ty.oc ?_ | refine Ty.cI (fun _ _ => ?_) | refine Ty.gI (fun _ => ?_) | refine Ty.cV (fun _ => ?_) | refine Ty.aI (fun _ => ?_) | refine Ty.lt (fun _ => ?_) | refine Ty.gJ (fun _ => ?_) | refine Ty.pV (fun _ => ?_) | refine Ty.sI (fun _ => ?_) | refine Ty.aR (fun _ => ?_) | refine Ty.cJ (fun _ _ => ?_) | refine Ty.dv ?_)
theorem ty_child (x1 : Int32) (x : Nat) (h : zH) : Ty isI (f_X9_child x x1 h) := by
  unfold f_X9_child
  repeat' (with_reducible first | exact Ty.rI | exact Ty.rJ | refine Ty.it ?_ ?_ | refine Ty.gR (fun _ => ?_) | refine Ty.oc ?_ | refine Ty.cI (fun _ _ => ?_) | refine Ty.gI (fun _ => ?_) | refine Ty.cV (fun _ => ?_) | refine Ty.aI (fun _ => ?_) | refine Ty.lt (fun _ => ?_) | refine Ty.gJ (fun _ => ?_) | refine Ty.pV (fun _ => ?_) | refine Ty.sI (fun _ => ?_) | refine Ty.aR (fun _ => ?_) | refine Ty.cJ (fun _ _ => ?_) | refine Ty.dv ?_)
theorem ty_piece (x1 x2 x3 : Int32) (x : Nat) (h : zH) : Ty isI (f_X9_piece x x1 x2 x3 h) := by
  unfold f_X9_piece
  unfold f_X9_piece_28
  repeat' (with_reducible first | exact Ty.rI | exact Ty.rJ | refine Ty.it ?_ ?_ | refine Ty.gR (fun _ => ?_) | refine Ty.oc ?_ | refine Ty.cI (fun _ _ => ?_) | refine Ty.gI (fun _ => ?_) | refine Ty.cV (fun _ => ?_) | refine Ty.aI (fun _ => ?_) | refine Ty.lt (fun _ => ?_) | refine Ty.gJ (fun _ => ?_) | refine Ty.pV (fun _ => ?_) | refine Ty.sI (fun _ => ?_) | refine Ty.aR (fun _ => ?_) | refine Ty.cJ (fun _ _ => ?_) | refine Ty.dv ?_)
theorem ty_type (x1 : Int32) (x : Nat) (h : zH) : Ty isI (f_X9_type x x1 h) := by
  unfold f_X9_type
  repeat' (with_reducible first | exact Ty.rI | exact Ty.rJ | refine Ty.it ?_ ?_ | refine Ty.gR (fun _ => ?_) | refine Ty.oc ?_ | refine Ty.cI (fun _ _ => ?_) | refine Ty.gI (fun _ => ?_) | refine Ty.cV (fun _ => ?_) | refine Ty.aI (fun _ => ?_) | refine Ty.lt (fun _ => ?_) | refine Ty.gJ (fun _ => ?_) | refine Ty.pV (fun _ => ?_) | refine Ty.sI (fun _ => ?_) | refine Ty.aR (fun _ => ?_) | refine Ty.cJ (fun _ _ => ?_) | refine Ty.dv ?_)
theorem ty_clear (x : Nat) (h : zH) : Ty isI (f_X9_clear x h) := by
  unfold f_X9_clear
  repeat' (with_reducible first | exact Ty.rI | exact Ty.rJ | refine Ty.it ?_ ?_ | refine Ty.gR (fun _ => ?_) | refine Ty.oc ?_ | refine Ty.cI (fun _ _ => ?_) | refine Ty.gI (fun _ => ?_) | refine Ty.cV (fun _ => ?_) | refine Ty.aI (fun _ => ?_) | refine Ty.lt (fun _ => ?_) | refine Ty.gJ (fun _ => ?_) | refine Ty.pV (fun _ => ?_) | refine Ty.sI (fun _ => ?_) | refine Ty.aR (fun _ => ?_) | refine Ty.cJ (fun _ _ => ?_) | refine Ty.dv ?_)
theorem ty_read (x : Nat) (h : zH) : Ty isI (f_X9_read x h) := by
  unfold f_X9_read
  unfold f_X9_read_35
  repeat' (with_reducible first | exact Ty.rI | exact Ty.rJ | refine Ty.it ?_ ?_ | refine Ty.gR (fun _ => ?_) | refine Ty.oc ?_ | refine Ty.cI (fun _ _ => ?_) | refine Ty.gI (fun _ => ?_) | refine Ty.cV (fun _ => ?_) | refine Ty.aI (fun _ => ?_) | refine Ty.lt (fun _ => ?_) | refine Ty.gJ (fun _ => ?_) | refine Ty.pV (fun _ => ?_) | refine Ty.sI (fun _ => ?_) | refine Ty.aR (fun _ => ?_) | refine Ty.cJ (fun _ _ => ?_) | refine Ty.dv ?_)
theorem ty_puts (x1 : Int32) (x : Nat) (h : zH) : Ty isI (f_X9_puts x x1 h) := by
  unfold f_X9_puts
  repeat' (with_reducible first | exact Ty.rI | exact Ty.rJ | refine Ty.it ?_ ?_ | refine Ty.gR (fun _ => ?_) | refine Ty.oc ?_ | refine Ty.cI (fun _ _ => ?_) | refine Ty.gI (fun _ => ?_) | refine Ty.cV (fun _ => ?_) | refine Ty.aI (fun _ => ?_) | refine Ty.lt (fun _ => ?_) | refine Ty.gJ (fun _ => ?_) | refine Ty.pV (fun _ => ?_) | refine Ty.sI (fun _ => ?_) | refine Ty.aR (fun _ => ?_) | refine Ty.cJ (fun _ _ => ?_) | refine Ty.dv ?_)
theorem ty_takes (x1 : Int32) (x : Nat) (h : zH) : Ty isI (f_X9_takes x x1 h) := by
  unfold f_X9_takes
  repeat' (with_reducible first | exact Ty.rI | exact Ty.rJ | refine Ty.it ?_ ?_ | refine Ty.gR (fun _ => ?_) | refine Ty.oc ?_ | refine Ty.cI (fun _ _ => ?_) | refine Ty.gI (fun _ => ?_) | refine Ty.cV (fun _ => ?_) | refine Ty.aI (fun _ => ?_) | refine Ty.lt (fun _ => ?_) | refine Ty.gJ (fun _ => ?_) | refine Ty.pV (fun _ => ?_) | refine Ty.sI (fun _ => ?_) | refine Ty.aR (fun _ => ?_) | refine Ty.cJ (fun _ _ => ?_) | refine Ty.dv ?_)
theorem ty_mends (x1 : Int32) (x : Nat) (h : zH) : Ty isI (f_X9_mends x x1 h) := by
  unfold f_X9_mends
  repeat' (with_reducible first | exact Ty.rI | exact Ty.rJ | refine Ty.it ?_ ?_ | refine Ty.gR (fun _ => ?_) | refine Ty.oc ?_ | refine Ty.cI (fun _ _ => ?_) | refine Ty.gI (fun _ => ?_) | refine Ty.cV (fun _ => ?_) | refine Ty.aI (fun _ => ?_) | refine Ty.lt (fun _ => ?_) | refine Ty.gJ (fun _ => ?_) | refine Ty.pV (fun _ => ?_) | refine Ty.sI (fun _ => ?_) | refine Ty.aR (fun _ => ?_) | refine Ty.cJ (fun _ _ => ?_) | refine Ty.dv ?_)
theorem ty_undo (x : Nat) (h : zH) : Ty isI (f_X9_undo x h) := by
  unfold f_X9_undo
  repeat' (with_reducible first | exact Ty.rI | exact Ty.rJ | refine Ty.it ?_ ?_ | refine Ty.gR (fun _ => ?_) | refine Ty.oc ?_ | refine Ty.cI (fun _ _ => ?_) | refine Ty.gI (fun _ => ?_) | refine Ty.cV (fun _ => ?_) | refine Ty.aI (fun _ => ?_) | refine Ty.lt (fun _ => ?_) | refine Ty.gJ (fun _ => ?_) | refine Ty.pV (fun _ => ?_) | refine Ty.sI (fun _ => ?_) | refine Ty.aR (fun _ => ?_) | refine Ty.cJ (fun _ _ => ?_) | refine Ty.dv ?_)
theorem ty_of (x1 x2 : Int32) (x : Nat) (h : zH) : Ty isI (f_X9_of x x1 x2 h) := by
  unfold f_X9_of
  repeat' (with_reducible first | exact Ty.rI | exact Ty.rJ | refine Ty.it ?_ ?_ | refine Ty.gR (fun _ => ?_) | refine Ty.oc ?_ | refine Ty.cI (fun _ _ => ?_) | refine Ty.gI (fun _ => ?_) | refine Ty.cV (fun _ => ?_) | refine Ty.aI (fun _ => ?_) | refine Ty.lt (fun _ => ?_) | refine Ty.gJ (fun _ => ?_) | refine Ty.pV (fun _ => ?_) | refine Ty.sI (fun _ => ?_) | refine Ty.aR (fun _ => ?_) | refine Ty.cJ (fun _ _ => ?_) | refine Ty.dv ?_)
theorem ty_f_X9_seen_31 : ∀ (n : Nat) y0 y1 y2 y3 y4, Ty isI (f_X9_seen_31 n y0 y1 y2 y3 y4) := by
  intro n
  induction n with
  | zero => intros; exact Ty.no
  | succ n ih =>
    intros
    rw [f_X9_seen_31]
    repeat' (with_reducible first | exact ih _ _ _ _ _ | exact Ty.rI | exact Ty.rJ | refine Ty.it ?_ ?_ | refine Ty.gR (fun _ => ?_) | refine Ty.oc ?_ | refine Ty.cI (fun _ _ => ?_) | refine Ty.gI (fun _ => ?_) | refine Ty.cV (fun _ => ?_) | refine Ty.aI (fun _ => ?_) | refine Ty.lt (fun _ => ?_) | refine Ty.gJ (fun _ => ?_) | refine Ty.pV (fun _ => ?_) | refine Ty.sI (fun _ => ?_) | refine Ty.aR (fun _ => ?_) | refine Ty.cJ (fun _ _ => ?_) | refine Ty.dv ?_)
theorem ty_seen (x1 : Int32) (x : Nat) (h : zH) : Ty isI (f_X9_seen x x1 h) := by
  unfold f_X9_seen
  repeat' (with_reducible first | exact ty_f_X9_seen_31 _ _ _ _ _ _ | exact Ty.rI | exact Ty.rJ | refine Ty.it ?_ ?_ | refine Ty.gR (fun _ => ?_) | refine Ty.oc ?_ | refine Ty.cI (fun _ _ => ?_) | refine Ty.gI (fun _ => ?_) | refine Ty.cV (fun _ => ?_) | refine Ty.aI (fun _ => ?_) | refine Ty.lt (fun _ => ?_) | refine Ty.gJ (fun _ => ?_) | refine Ty.pV (fun _ => ?_) | refine Ty.sI (fun _ => ?_) | refine Ty.aR (fun _ => ?_) | refine Ty.cJ (fun _ _ => ?_) | refine Ty.dv ?_)
theorem ty_can (x : Nat) (h : zH) : Ty isI (f_X9_can x h) := by
  unfold f_X9_can
  repeat' (with_reducible first | exact Ty.rI | exact Ty.rJ | refine Ty.it ?_ ?_ | refine Ty.gR (fun _ => ?_) | refine Ty.oc ?_ | refine Ty.cI (fun _ _ => ?_) | refine Ty.gI (fun _ => ?_) | refine Ty.cV (fun _ => ?_) | refine Ty.aI (fun _ => ?_) | refine Ty.lt (fun _ => ?_) | refine Ty.gJ (fun _ => ?_) | refine Ty.pV (fun _ => ?_) | refine Ty.sI (fun _ => ?_) | refine Ty.aR (fun _ => ?_) | refine Ty.cJ (fun _ _ => ?_) | refine Ty.dv ?_)
theorem ty_off (x : Nat) (h : zH) : Ty isI (f_X9_off x h) := by
  unfold f_X9_off
  repeat' (with_reducible first | exact Ty.rI | exact Ty.rJ | refine Ty.it ?_ ?_ | refine Ty.gR (fun _ => ?_) | refine Ty.oc ?_ | refine Ty.cI (fun _ _ => ?_) | refine Ty.gI (fun _ => ?_) | refine Ty.cV (fun _ => ?_) | refine Ty.aI (fun _ => ?_) | refine Ty.lt (fun _ => ?_) | refine Ty.gJ (fun _ => ?_) | refine Ty.pV (fun _ => ?_) | refine Ty.sI (fun _ => ?_) | refine Ty.aR (fun _ => ?_) | refine Ty.cJ (fun _ _ => ?_) | refine Ty.dv ?_)
theorem ty_going (x1 : Int32) (x : Nat) (h : zH) : Ty isI (f_X9_going x x1 h) := by
  unfold f_X9_going
  repeat' (with_reducible first | exact Ty.rI | exact Ty.rJ | refine Ty.it ?_ ?_ | refine Ty.gR (fun _ => ?_) | refine Ty.oc ?_ | refine Ty.cI (fun _ _ => ?_) | refine Ty.gI (fun _ => ?_) | refine Ty.cV (fun _ => ?_) | refine Ty.aI (fun _ => ?_) | refine Ty.lt (fun _ => ?_) | refine Ty.gJ (fun _ => ?_) | refine Ty.pV (fun _ => ?_) | refine Ty.sI (fun _ => ?_) | refine Ty.aR (fun _ => ?_) | refine Ty.cJ (fun _ _ => ?_) | refine Ty.dv ?_)
theorem ty_outfits (x1 : Int32) (x : Nat) (h : zH) : Ty isI (f_X9_outfits x x1 h) := by
  unfold f_X9_outfits
  unfold f_X9_outfits_61
  repeat' (with_reducible first | exact Ty.rI | exact Ty.rJ | refine Ty.it ?_ ?_ | refine Ty.gR (fun _ => ?_) | refine Ty.oc ?_ | refine Ty.cI (fun _ _ => ?_) | refine Ty.gI (fun _ => ?_) | refine Ty.cV (fun _ => ?_) | refine Ty.aI (fun _ => ?_) | refine Ty.lt (fun _ => ?_) | refine Ty.gJ (fun _ => ?_) | refine Ty.pV (fun _ => ?_) | refine Ty.sI (fun _ => ?_) | refine Ty.aR (fun _ => ?_) | refine Ty.cJ (fun _ _ => ?_) | refine Ty.dv ?_)
theorem ty_lean (x1 : Int32) (x : Nat) (h : zH) : Ty isI (f_X9_lean x x1 h) := by
  unfold f_X9_lean
  unfold f_X9_lean_56
  repeat' (with_reducible first | exact Ty.rI | exact Ty.rJ | refine Ty.it ?_ ?_ | refine Ty.gR (fun _ => ?_) | refine Ty.oc ?_ | refine Ty.cI (fun _ _ => ?_) | refine Ty.gI (fun _ => ?_) | refine Ty.cV (fun _ => ?_) | refine Ty.aI (fun _ => ?_) | refine Ty.lt (fun _ => ?_) | refine Ty.gJ (fun _ => ?_) | refine Ty.pV (fun _ => ?_) | refine Ty.sI (fun _ => ?_) | refine Ty.aR (fun _ => ?_) | refine Ty.cJ (fun _ _ => ?_) | refine Ty.dv ?_)
theorem ty_days (x : Nat) (h : zH) : Ty isI (f_X9_days x h) := by
  unfold f_X9_days
  repeat' (with_reducible first | exact Ty.rI | exact Ty.rJ | refine Ty.it ?_ ?_ | refine Ty.gR (fun _ => ?_) | refine Ty.oc ?_ | refine Ty.cI (fun _ _ => ?_) | refine Ty.gI (fun _ => ?_) | refine Ty.cV (fun _ => ?_) | refine Ty.aI (fun _ => ?_) | refine Ty.lt (fun _ => ?_) | refine Ty.gJ (fun _ => ?_) | refine Ty.pV (fun _ => ?_) | refine Ty.sI (fun _ => ?_) | refine Ty.aR (fun _ => ?_) | refine Ty.cJ (fun _ _ => ?_) | refine Ty.dv ?_)
theorem ty_spared (x : Nat) (h : zH) : Ty isI (f_X9_spared x h) := by
  unfold f_X9_spared
  repeat' (with_reducible first | exact Ty.rI | exact Ty.rJ | refine Ty.it ?_ ?_ | refine Ty.gR (fun _ => ?_) | refine Ty.oc ?_ | refine Ty.cI (fun _ _ => ?_) | refine Ty.gI (fun _ => ?_) | refine Ty.cV (fun _ => ?_) | refine Ty.aI (fun _ => ?_) | refine Ty.lt (fun _ => ?_) | refine Ty.gJ (fun _ => ?_) | refine Ty.pV (fun _ => ?_) | refine Ty.sI (fun _ => ?_) | refine Ty.aR (fun _ => ?_) | refine Ty.cJ (fun _ _ => ?_) | refine Ty.dv ?_)
theorem ty_few (x1 : Int32) (x : Nat) (h : zH) : Ty isI (f_X9_few x x1 h) := by
  unfold f_X9_few
  unfold f_X9_few_59
  repeat' (with_reducible first | exact Ty.rI | exact Ty.rJ | refine Ty.it ?_ ?_ | refine Ty.gR (fun _ => ?_) | refine Ty.oc ?_ | refine Ty.cI (fun _ _ => ?_) | refine Ty.gI (fun _ => ?_) | refine Ty.cV (fun _ => ?_) | refine Ty.aI (fun _ => ?_) | refine Ty.lt (fun _ => ?_) | refine Ty.gJ (fun _ => ?_) | refine Ty.pV (fun _ => ?_) | refine Ty.sI (fun _ => ?_) | refine Ty.aR (fun _ => ?_) | refine Ty.cJ (fun _ _ => ?_) | refine Ty.dv ?_)
theorem ty_note (x1 x2 x3 : Int32) (x : Nat) (h : zH) : Ty isI (f_X9_note x x1 x2 x3 h) := by
  unfold f_X9_note
  unfold f_X9_note_27
  repeat' (with_reducible first | exact Ty.rI | exact Ty.rJ | refine Ty.it ?_ ?_ | refine Ty.gR (fun _ => ?_) | refine Ty.oc ?_ | refine Ty.cI (fun _ _ => ?_) | refine Ty.gI (fun _ => ?_) | refine Ty.cV (fun _ => ?_) | refine Ty.aI (fun _ => ?_) | refine Ty.lt (fun _ => ?_) | refine Ty.gJ (fun _ => ?_) | refine Ty.pV (fun _ => ?_) | refine Ty.sI (fun _ => ?_) | refine Ty.aR (fun _ => ?_) | refine Ty.cJ (fun _ _ => ?_) | refine Ty.dv ?_)
theorem ty_mark (x1 x2 x3 x4 : Int32) (x : Nat) (h : zH) : Ty isI (f_X9_mark x x1 x2 x3 x4 h) := by
  unfold f_X9_mark
  unfold f_X9_mark_43
  repeat' (with_reducible first | exact Ty.rI | exact Ty.rJ | refine Ty.it ?_ ?_ | refine Ty.gR (fun _ => ?_) | refine Ty.oc ?_ | refine Ty.cI (fun _ _ => ?_) | refine Ty.gI (fun _ => ?_) | refine Ty.cV (fun _ => ?_) | refine Ty.aI (fun _ => ?_) | refine Ty.lt (fun _ => ?_) | refine Ty.gJ (fun _ => ?_) | refine Ty.pV (fun _ => ?_) | refine Ty.sI (fun _ => ?_) | refine Ty.aR (fun _ => ?_) | refine Ty.cJ (fun _ _ => ?_) | refine Ty.dv ?_)
theorem ty_forget (x1 : Int32) (x : Nat) (h : zH) : Ty isI (f_X9_forget x x1 h) := by
  unfold f_X9_forget
  unfold f_X9_forget_55
  repeat' (with_reducible first | exact Ty.rI | exact Ty.rJ | refine Ty.it ?_ ?_ | refine Ty.gR (fun _ => ?_) | refine Ty.oc ?_ | refine Ty.cI (fun _ _ => ?_) | refine Ty.gI (fun _ => ?_) | refine Ty.cV (fun _ => ?_) | refine Ty.aI (fun _ => ?_) | refine Ty.lt (fun _ => ?_) | refine Ty.gJ (fun _ => ?_) | refine Ty.pV (fun _ => ?_) | refine Ty.sI (fun _ => ?_) | refine Ty.aR (fun _ => ?_) | refine Ty.cJ (fun _ _ => ?_) | refine Ty.dv ?_)
theorem ty_is (x : Nat) (h : zH) : Ty isI (f_X9_is x h) := by
  unfold f_X9_is
  repeat' (with_reducible first | exact Ty.rI | exact Ty.rJ | refine Ty.it ?_ ?_ | refine Ty.gR (fun _ => ?_) | refine Ty.oc ?_ | refine Ty.cI (fun _ _ => ?_) | refine Ty.gI (fun _ => ?_) | refine Ty.cV (fun _ => ?_) | refine Ty.aI (fun _ => ?_) | refine Ty.lt (fun _ => ?_) | refine Ty.gJ (fun _ => ?_) | refine Ty.pV (fun _ => ?_) | refine Ty.sI (fun _ => ?_) | refine Ty.aR (fun _ => ?_) | refine Ty.cJ (fun _ _ => ?_) | refine Ty.dv ?_)
theorem ty_look (x : Nat) (h : zH) : Ty isI (f_X9_look x h) := by
  unfold f_X9_look
  repeat' (with_reducible first | exact Ty.rI | exact Ty.rJ | refine Ty.it ?_ ?_ | refine Ty.gR (fun _ => ?_) | refine Ty.oc ?_ | refine Ty.cI (fun _ _ => ?_) | refine Ty.gI (fun _ => ?_) | refine Ty.cV (fun _ => ?_) | refine Ty.aI (fun _ => ?_) | refine Ty.lt (fun _ => ?_) | refine Ty.gJ (fun _ => ?_) | refine Ty.pV (fun _ => ?_) | refine Ty.sI (fun _ => ?_) | refine Ty.aR (fun _ => ?_) | refine Ty.cJ (fun _ _ => ?_) | refine Ty.dv ?_)
theorem ty_kinds (x1 : Int32) (x : Nat) (h : zH) : Ty isI (f_X9_kinds x x1 h) := by
  unfold f_X9_kinds
  repeat' (with_reducible first | exact Ty.rI | exact Ty.rJ | refine Ty.it ?_ ?_ | refine Ty.gR (fun _ => ?_) | refine Ty.oc ?_ | refine Ty.cI (fun _ _ => ?_) | refine Ty.gI (fun _ => ?_) | refine Ty.cV (fun _ => ?_) | refine Ty.aI (fun _ => ?_) | refine Ty.lt (fun _ => ?_) | refine Ty.gJ (fun _ => ?_) | refine Ty.pV (fun _ => ?_) | refine Ty.sI (fun _ => ?_) | refine Ty.aR (fun _ => ?_) | refine Ty.cJ (fun _ _ => ?_) | refine Ty.dv ?_)
theorem ty_ask (x1 : Int32) (x : Nat) (h : zH) : Ty isI (f_X9_ask x x1 h) := by
  unfold f_X9_ask
  repeat' (with_reducible first | exact Ty.rI | exact Ty.rJ | refine Ty.it ?_ ?_ | refine Ty.gR (fun _ => ?_) | refine Ty.oc ?_ | refine Ty.cI (fun _ _ => ?_) | refine Ty.gI (fun _ => ?_) | refine Ty.cV (fun _ => ?_) | refine Ty.aI (fun _ => ?_) | refine Ty.lt (fun _ => ?_) | refine Ty.gJ (fun _ => ?_) | refine Ty.pV (fun _ => ?_) | refine Ty.sI (fun _ => ?_) | refine Ty.aR (fun _ => ?_) | refine Ty.cJ (fun _ _ => ?_) | refine Ty.dv ?_)
theorem ty_f_X9_two_70 (k55 : Nat → Int32 → Int32 → Int32 → Int32 → Int32 → zH → zR) (hk : ∀ y0 y1 y2 y3 y4 y5 y6, Ty isI (k55 y0 y1 y2 y3 y4 y5 y6)) : ∀ (n : Nat) y0 y1 y2 y3 y4 y5 y6 y7, Ty isI (f_X9_two_70 k55 n y0 y1 y2 y3 y4 y5 y6 y7) := by
  intro n
  induction n with
  | zero => intros; exact Ty.no
  | succ n ih =>
    intros
    rw [f_X9_two_70]
    unfold f_X9_two_116
    repeat' (with_reducible first | exact hk _ _ _ _ _ _ _ | exact ih _ _ _ _ _ _ _ _ | exact Ty.rI | exact Ty.rJ | refine Ty.it ?_ ?_ | refine Ty.gR (fun _ => ?_) | refine Ty.oc ?_ | refine Ty.cI (fun _ _ => ?_) | refine Ty.gI (fun _ => ?_) | refine Ty.cV (fun _ => ?_) | refine Ty.aI (fun _ => ?_) | refine Ty.lt (fun _ => ?_) | refine Ty.gJ (fun _ => ?_) | refine Ty.pV (fun _ => ?_) | refine Ty.sI (fun _ => ?_) | refine Ty.aR (fun _ => ?_) | refine Ty.cJ (fun _ _ => ?_) | refine Ty.dv ?_)
theorem ty_f_X9_two_55 : ∀ (n : Nat) y0 y1 y2 y3 y4 y5 y6, Ty isI (f_X9_two_55 n y0 y1 y2 y3 y4 y5 y6) := by
  intro n
  induction n with
  | zero => intros; exact Ty.no
  | succ n ih =>
    intros
    rw [f_X9_two_55]
    unfold f_X9_two_140
    repeat' (with_reducible first | exact ih _ _ _ _ _ _ _ | exact ty_f_X9_two_70 _ (fun _ _ _ _ _ _ _ => ih _ _ _ _ _ _ _) _ _ _ _ _ _ _ _ _ | exact Ty.rI | exact Ty.rJ | refine Ty.it ?_ ?_ | refine Ty.gR (fun _ => ?_) | refine Ty.oc ?_ | refine Ty.cI (fun _ _ => ?_) | refine Ty.gI (fun _ => ?_) | refine Ty.cV (fun _ => ?_) | refine Ty.aI (fun _ => ?_) | refine Ty.lt (fun _ => ?_) | refine Ty.gJ (fun _ => ?_) | refine Ty.pV (fun _ => ?_) | refine Ty.sI (fun _ => ?_) | refine Ty.aR (fun _ => ?_) | refine Ty.cJ (fun _ _ => ?_) | refine Ty.dv ?_)
theorem ty_two (x1 : Int32) (x : Nat) (h : zH) : Ty isI (f_X9_two x x1 h) := by
  unfold f_X9_two
  repeat' (with_reducible first | exact ty_f_X9_two_55 _ _ _ _ _ _ _ _ | exact Ty.rI | exact Ty.rJ | refine Ty.it ?_ ?_ | refine Ty.gR (fun _ => ?_) | refine Ty.oc ?_ | refine Ty.cI (fun _ _ => ?_) | refine Ty.gI (fun _ => ?_) | refine Ty.cV (fun _ => ?_) | refine Ty.aI (fun _ => ?_) | refine Ty.lt (fun _ => ?_) | refine Ty.gJ (fun _ => ?_) | refine Ty.pV (fun _ => ?_) | refine Ty.sI (fun _ => ?_) | refine Ty.aR (fun _ => ?_) | refine Ty.cJ (fun _ _ => ?_) | refine Ty.dv ?_)
theorem ty_f_X9_luck_75 : ∀ (n : Nat) y0 y1 y2 y3 y4 y5 y6 y7 y8, Ty isI (f_X9_luck_75 n y0 y1 y2 y3 y4 y5 y6 y7 y8) := by
  intro n
  induction n with
  | zero => intros; exact Ty.no
  | succ n ih =>
    intros
    rw [f_X9_luck_75]
    unfold f_X9_luck_146
    repeat' (with_reducible first | exact ih _ _ _ _ _ _ _ _ _ | exact Ty.rI | exact Ty.rJ | refine Ty.it ?_ ?_ | refine Ty.gR (fun _ => ?_) | refine Ty.oc ?_ | refine Ty.cI (fun _ _ => ?_) | refine Ty.gI (fun _ => ?_) | refine Ty.cV (fun _ => ?_) | refine Ty.aI (fun _ => ?_) | refine Ty.lt (fun _ => ?_) | refine Ty.gJ (fun _ => ?_) | refine Ty.pV (fun _ => ?_) | refine Ty.sI (fun _ => ?_) | refine Ty.aR (fun _ => ?_) | refine Ty.cJ (fun _ _ => ?_) | refine Ty.dv ?_)
theorem ty_luck (x1 : Int32) (x : Nat) (h : zH) : Ty isI (f_X9_luck x x1 h) := by
  unfold f_X9_luck
  repeat' (with_reducible first | exact ty_f_X9_luck_75 _ _ _ _ _ _ _ _ _ _ | exact Ty.rI | exact Ty.rJ | refine Ty.it ?_ ?_ | refine Ty.gR (fun _ => ?_) | refine Ty.oc ?_ | refine Ty.cI (fun _ _ => ?_) | refine Ty.gI (fun _ => ?_) | refine Ty.cV (fun _ => ?_) | refine Ty.aI (fun _ => ?_) | refine Ty.lt (fun _ => ?_) | refine Ty.gJ (fun _ => ?_) | refine Ty.pV (fun _ => ?_) | refine Ty.sI (fun _ => ?_) | refine Ty.aR (fun _ => ?_) | refine Ty.cJ (fun _ _ => ?_) | refine Ty.dv ?_)
theorem ty_f_X9_evenings_50 : ∀ (n : Nat) y0 y1 y2 y3 y4 y5, Ty isI (f_X9_evenings_50 n y0 y1 y2 y3 y4 y5) := by
  intro n
  induction n with
  | zero => intros; exact Ty.no
  | succ n ih =>
    intros
    rw [f_X9_evenings_50]
    unfold f_X9_evenings_108
    repeat' (with_reducible first | exact ih _ _ _ _ _ _ | exact Ty.rI | exact Ty.rJ | refine Ty.it ?_ ?_ | refine Ty.gR (fun _ => ?_) | refine Ty.oc ?_ | refine Ty.cI (fun _ _ => ?_) | refine Ty.gI (fun _ => ?_) | refine Ty.cV (fun _ => ?_) | refine Ty.aI (fun _ => ?_) | refine Ty.lt (fun _ => ?_) | refine Ty.gJ (fun _ => ?_) | refine Ty.pV (fun _ => ?_) | refine Ty.sI (fun _ => ?_) | refine Ty.aR (fun _ => ?_) | refine Ty.cJ (fun _ _ => ?_) | refine Ty.dv ?_)
theorem ty_evenings (x1 x2 : Int32) (x : Nat) (h : zH) : Ty isI (f_X9_evenings x x1 x2 h) := by
  unfold f_X9_evenings
  unfold f_X9_evenings_20
  repeat' (with_reducible first | exact ty_f_X9_evenings_50 _ _ _ _ _ _ _ | exact Ty.rI | exact Ty.rJ | refine Ty.it ?_ ?_ | refine Ty.gR (fun _ => ?_) | refine Ty.oc ?_ | refine Ty.cI (fun _ _ => ?_) | refine Ty.gI (fun _ => ?_) | refine Ty.cV (fun _ => ?_) | refine Ty.aI (fun _ => ?_) | refine Ty.lt (fun _ => ?_) | refine Ty.gJ (fun _ => ?_) | refine Ty.pV (fun _ => ?_) | refine Ty.sI (fun _ => ?_) | refine Ty.aR (fun _ => ?_) | refine Ty.cJ (fun _ _ => ?_) | refine Ty.dv ?_)
theorem ty_part (x1 : Int32) (x : Nat) (h : zH) : Ty isJ (f_X9_part x x1 h) := by
  unfold f_X9_part
  unfold f_X9_part_32
  repeat' (with_reducible first | exact Ty.rI | exact Ty.rJ | refine Ty.it ?_ ?_ | refine Ty.gR (fun _ => ?_) | refine Ty.oc ?_ | refine Ty.cI (fun _ _ => ?_) | refine Ty.gI (fun _ => ?_) | refine Ty.cV (fun _ => ?_) | refine Ty.aI (fun _ => ?_) | refine Ty.lt (fun _ => ?_) | refine Ty.gJ (fun _ => ?_) | refine Ty.pV (fun _ => ?_) | refine Ty.sI (fun _ => ?_) | refine Ty.aR (fun _ => ?_) | refine Ty.cJ (fun _ _ => ?_) | refine Ty.dv ?_)
theorem ty_image (x1 : Int32) (x : Nat) (h : zH) : Ty isI (f_X9_image x x1 h) := by
  unfold f_X9_image
  repeat' (with_reducible first | exact Ty.rI | exact Ty.rJ | refine Ty.it ?_ ?_ | refine Ty.gR (fun _ => ?_) | refine Ty.oc ?_ | refine Ty.cI (fun _ _ => ?_) | refine Ty.gI (fun _ => ?_) | refine Ty.cV (fun _ => ?_) | refine Ty.aI (fun _ => ?_) | refine Ty.lt (fun _ => ?_) | refine Ty.gJ (fun _ => ?_) | refine Ty.pV (fun _ => ?_) | refine Ty.sI (fun _ => ?_) | refine Ty.aR (fun _ => ?_) | refine Ty.cJ (fun _ _ => ?_) | refine Ty.dv ?_)
theorem ty_from (x1 : Int32) (x : Nat) (h : zH) : Ty isI (f_X9_from x x1 h) := by
  unfold f_X9_from
  repeat' (with_reducible first | exact Ty.rI | exact Ty.rJ | refine Ty.it ?_ ?_ | refine Ty.gR (fun _ => ?_) | refine Ty.oc ?_ | refine Ty.cI (fun _ _ => ?_) | refine Ty.gI (fun _ => ?_) | refine Ty.cV (fun _ => ?_) | refine Ty.aI (fun _ => ?_) | refine Ty.lt (fun _ => ?_) | refine Ty.gJ (fun _ => ?_) | refine Ty.pV (fun _ => ?_) | refine Ty.sI (fun _ => ?_) | refine Ty.aR (fun _ => ?_) | refine Ty.cJ (fun _ _ => ?_) | refine Ty.dv ?_)
theorem ty_status (x1 : Int32) (x : Nat) (h : zH) : Ty isI (f_X9_status x x1 h) := by
  unfold f_X9_status
  repeat' (with_reducible first | exact Ty.rI | exact Ty.rJ | refine Ty.it ?_ ?_ | refine Ty.gR (fun _ => ?_) | refine Ty.oc ?_ | refine Ty.cI (fun _ _ => ?_) | refine Ty.gI (fun _ => ?_) | refine Ty.cV (fun _ => ?_) | refine Ty.aI (fun _ => ?_) | refine Ty.lt (fun _ => ?_) | refine Ty.gJ (fun _ => ?_) | refine Ty.pV (fun _ => ?_) | refine Ty.sI (fun _ => ?_) | refine Ty.aR (fun _ => ?_) | refine Ty.cJ (fun _ _ => ?_) | refine Ty.dv ?_)
theorem ty_count (x1 : Int32) (x : Nat) (h : zH) : Ty isI (f_X9_count x x1 h) := by
  unfold f_X9_count
  repeat' (with_reducible first | exact Ty.rI | exact Ty.rJ | refine Ty.it ?_ ?_ | refine Ty.gR (fun _ => ?_) | refine Ty.oc ?_ | refine Ty.cI (fun _ _ => ?_) | refine Ty.gI (fun _ => ?_) | refine Ty.cV (fun _ => ?_) | refine Ty.aI (fun _ => ?_) | refine Ty.lt (fun _ => ?_) | refine Ty.gJ (fun _ => ?_) | refine Ty.pV (fun _ => ?_) | refine Ty.sI (fun _ => ?_) | refine Ty.aR (fun _ => ?_) | refine Ty.cJ (fun _ _ => ?_) | refine Ty.dv ?_)
theorem ty_f_X9_digest_6 : ∀ (n : Nat) y0 y1 y2 y3, Ty isJ (f_X9_digest_6 n y0 y1 y2 y3) := by
  intro n
  induction n with
  | zero => intros; exact Ty.no
  | succ n ih =>
    intros
    rw [f_X9_digest_6]
    repeat' (with_reducible first | exact ih _ _ _ _ | exact Ty.rI | exact Ty.rJ | refine Ty.it ?_ ?_ | refine Ty.gR (fun _ => ?_) | refine Ty.oc ?_ | refine Ty.cI (fun _ _ => ?_) | refine Ty.gI (fun _ => ?_) | refine Ty.cV (fun _ => ?_) | refine Ty.aI (fun _ => ?_) | refine Ty.lt (fun _ => ?_) | refine Ty.gJ (fun _ => ?_) | refine Ty.pV (fun _ => ?_) | refine Ty.sI (fun _ => ?_) | refine Ty.aR (fun _ => ?_) | refine Ty.cJ (fun _ _ => ?_) | refine Ty.dv ?_)
theorem ty_digest (x : Nat) (h : zH) : Ty isJ (f_X9_digest x h) := by
  unfold f_X9_digest
  repeat' (with_reducible first | exact ty_f_X9_digest_6 _ _ _ _ _ | exact Ty.rI | exact Ty.rJ | refine Ty.it ?_ ?_ | refine Ty.gR (fun _ => ?_) | refine Ty.oc ?_ | refine Ty.cI (fun _ _ => ?_) | refine Ty.gI (fun _ => ?_) | refine Ty.cV (fun _ => ?_) | refine Ty.aI (fun _ => ?_) | refine Ty.lt (fun _ => ?_) | refine Ty.gJ (fun _ => ?_) | refine Ty.pV (fun _ => ?_) | refine Ty.sI (fun _ => ?_) | refine Ty.aR (fun _ => ?_) | refine Ty.cJ (fun _ _ => ?_) | refine Ty.dv ?_)
end
