/-! THE LAW'S OWN WALK -/
def zScr (Y : zY) (b L : Nat) (xs : Nat → Int32) : Prop := match Y with
  | ((_, _, _, _, s, _, _, _, _, _), _, A, _) => va_X b L xs s s.heap ∧ ¬ A b
def zsc (sN : Nat) (sx : Nat → Int32) (i : Int32) (K : Int32 → zR) : zR := if i < 0 ∨ sN ≤ i.toNatClampNeg then none else K (sx i.toNatClampNeg)
section ZL
variable {Y : zY} {M : zM} {cells slots pc : Nat} {lv lv' : List (Nat × Value)} {st : List Value} {h : zH} {r r1 r2 : zR}
theorem z_sld {sb sN : Nat} {sx : Nat → Int32} {i : Int32} {K : Int32 → zR} (hsc : zScr Y sb sN sx) (hd : decode M.1 pc = .ok (.iaload, 1)) (kk : ∀ x, Z Y M cells slots (pc + 1) lv (.int x :: st) h (K x)) : Z Y M cells slots pc lv (.int i :: .ref sb :: st) h (zsc sN sx i K) := by
  obtain ⟨⟨p, l, e, R, s, m, args, below, meth, c⟩, D, A, Q⟩ := Y
  intro o1 o2 v h' hr hz H locs ls hR hS hv
  unfold zsc at hr
  split at hr
  · cases hr
  · rename_i hin
    obtain ⟨z1, z2⟩ := hsc
    obtain ⟨scr, g1, g2, g3, g4, g5⟩ := z1
    have hlt : sb < s.heap.size := (Array.getElem?_eq_some_iff.mp g1).1
    refine W.iald o1.1 o1.2.1 (cell := scr) (v := .int (sx i.toNatClampNeg)) (by rw [hS.2.1 sb hlt z2]; exact g1) g2 g3 (by rw [g4]; exact hin) (g5 _ (by omega)) rfl rfl hd (kk _ o1 o2 v h' hr hz H locs ls hR hS hv)
theorem z_slen {sb sN : Nat} {sx : Nat → Int32} {K : Int32 → zR} (hsc : zScr Y sb sN sx) (hd : decode M.1 pc = .ok (.arraylength, 1)) (kk : ∀ x, Z Y M cells slots (pc + 1) lv (.int x :: st) h (K x)) : Z Y M cells slots pc lv (.ref sb :: st) h (zlt (Int32.ofNat sN) K) := by
  obtain ⟨⟨p, l, e, R, s, m, args, below, meth, c⟩, D, A, Q⟩ := Y
  intro o1 o2 v h' hr hz H locs ls hR hS hv
  obtain ⟨z1, z2⟩ := hsc
  obtain ⟨scr, g1, g2, g3, g4, g5⟩ := z1
  have hlt : sb < s.heap.size := (Array.getElem?_eq_some_iff.mp g1).1
  exact W.alen o1.1 o1.2.1 (cell := scr) (by rw [hS.2.1 sb hlt z2]; exact g1) g2 (n := Int32.ofNat sN) (by rw [g4]; rfl) rfl rfl hd (kk _ o1 o2 v h' hr hz H locs ls hR hS hv)
theorem z_callV_IL {y : MethodName} {M2 : zM} {n idx : Nat} {b : Nat} {K : Int32 → zH → zR} (av : List Value) {st0 : List Value} (hM : ∀ (l : Launch) (D : zD), l = Y.1.2.1 → D = Y.2.1 → zMet l D y M2 (.ref b :: av) h r) (hu : zCal y M2 n) (hl : Cond.methodLink M.2.1 idx y ∈ zTb) (hsx : Cond.instanceMethod y ∈ zTb) (hse : Cond.selects y.cls y y ∈ zTb) {ci : Nat} {T : u_T} {N : Nat} (hci : vwCl[ci]? = some (y.cls, T, N)) (hn : av.length = n) (hst0 : st0 = av.reverse ++ .ref b :: st) (hrm : (st.map fun v => v.category).sum ≤ 8) (hlev : M2.2.2.2.2.2.1 + 1 ≤ M.2.2.2.2.2.1) (hcs : cells ≤ M.2.2.2.2.2.2.1 ∧ slots ≤ M.2.2.2.2.2.2.2) (hm0 : M2.2.2.2.2.2.2.1 = 0) (hm1 : M2.2.2.2.2.2.2.2 = 0) (hd : decode M.1 pc = .ok (.invokevirtual idx, 3)) (kk : ∀ x h1, Z Y M cells slots (pc + 3) lv (.int x :: st) h1 (K x h1)) : Z Y M cells slots pc lv st0 h (zoc h b ci (zcI r K)) := z_callV_I av hM hu hl hsx hse hci hn hst0 hrm hlev (by rw [hm0, hm1]; exact hcs) hd (fun x h1 => by rw [hm0, hm1]; exact kk x h1)
theorem z_callV_JL {y : MethodName} {M2 : zM} {n idx : Nat} {b : Nat} {K : Int64 → zH → zR} (av : List Value) {st0 : List Value} (hM : ∀ (l : Launch) (D : zD), l = Y.1.2.1 → D = Y.2.1 → zMet l D y M2 (.ref b :: av) h r) (hu : zCal y M2 n) (hl : Cond.methodLink M.2.1 idx y ∈ zTb) (hsx : Cond.instanceMethod y ∈ zTb) (hse : Cond.selects y.cls y y ∈ zTb) {ci : Nat} {T : u_T} {N : Nat} (hci : vwCl[ci]? = some (y.cls, T, N)) (hn : av.length = n) (hst0 : st0 = av.reverse ++ .ref b :: st) (hrm : (st.map fun v => v.category).sum ≤ 8) (hlev : M2.2.2.2.2.2.1 + 1 ≤ M.2.2.2.2.2.1) (hcs : cells ≤ M.2.2.2.2.2.2.1 ∧ slots ≤ M.2.2.2.2.2.2.2) (hm0 : M2.2.2.2.2.2.2.1 = 0) (hm1 : M2.2.2.2.2.2.2.2 = 0) (hd : decode M.1 pc = .ok (.invokevirtual idx, 3)) (kk : ∀ x h1, Z Y M cells slots (pc + 3) lv (.long x :: st) h1 (K x h1)) : Z Y M cells slots pc lv st0 h (zoc h b ci (zcJ r K)) := z_callV_J av hM hu hl hsx hse hci hn hst0 hrm hlev (by rw [hm0, hm1]; exact hcs) hd (fun x h1 => by rw [hm0, hm1]; exact kk x h1)
end ZL
/-! PaperDollsLaw.law([I)Z -/
def L_L_law : List (Nat × Instr × Nat) := [(0, .new 7, 3), (3, .dup, 1), (4, .invokespecial 9, 3), (7, .astore_n 1, 1), (8, .new 10, 3), (11, .dup, 1), (12, .invokespecial 12, 3), (15, .astore_n 2, 1), (16, .iconst 0, 1), (17, .istore_n 3, 1), (18, .iload_n 3, 1), (19, .aload_n 0, 1), (20, .arraylength, 1), (21, .iconst 5, 1), (22, .isub, 1), (23, .if_icmp .gt 995, 3), (26, .aload_n 0, 1), (27, .iload_n 3, 1), (28, .iaload, 1), (29, .bipush 63, 2), (31, .iand, 1), (32, .tableswitch 980 0 35 #[160, 183, 206, 249, 272, 285, 298, 321, 344, 367, 380, 413, 436, 449, 462, 485, 508, 531, 544, 557, 580, 623, 676, 699, 712, 725, 748, 771, 794, 817, 850, 874, 897, 920, 943, 966], 160), (192, .aload_n 1, 1), (193, .aload_n 0, 1), (194, .iload_n 3, 1), (195, .iconst 1, 1), (196, .iadd, 1), (197, .iaload, 1), (198, .invokevirtual 13, 3), (201, .aload_n 2, 1), (202, .aload_n 0, 1), (203, .iload_n 3, 1), (204, .iconst 1, 1), (205, .iadd, 1), (206, .iaload, 1), (207, .invokevirtual 17, 3), (210, .if_icmp .eq 802, 3), (213, .iconst 0, 1), (214, .ireturn, 1), (215, .aload_n 1, 1), (216, .aload_n 0, 1), (217, .iload_n 3, 1), (218, .iconst 1, 1), (219, .iadd, 1), (220, .iaload, 1), (221, .invokevirtual 18, 3), (224, .aload_n 2, 1), (225, .aload_n 0, 1), (226, .iload_n 3, 1), (227, .iconst 1, 1), (228, .iadd, 1), (229, .iaload, 1), (230, .invokevirtual 21, 3), (233, .if_icmp .eq 779, 3), (236, .iconst 0, 1), (237, .ireturn, 1), (238, .aload_n 1, 1), (239, .aload_n 0, 1), (240, .iload_n 3, 1), (241, .iconst 1, 1), (242, .iadd, 1), (243, .iaload, 1), (244, .aload_n 0, 1), (245, .iload_n 3, 1), (246, .iconst 2, 1), (247, .iadd, 1), (248, .iaload, 1), (249, .aload_n 0, 1), (250, .iload_n 3, 1), (251, .iconst 3, 1), (252, .iadd, 1), (253, .iaload, 1), (254, .invokevirtual 22, 3), (257, .aload_n 2, 1), (258, .aload_n 0, 1), (259, .iload_n 3, 1), (260, .iconst 1, 1), (261, .iadd, 1), (262, .iaload, 1), (263, .aload_n 0, 1), (264, .iload_n 3, 1), (265, .iconst 2, 1), (266, .iadd, 1), (267, .iaload, 1), (268, .aload_n 0, 1), (269, .iload_n 3, 1), (270, .iconst 3, 1), (271, .iadd, 1), (272, .iaload, 1), (273, .invokevirtual 26, 3), (276, .if_icmp .eq 736, 3), (279, .iconst 0, 1), (280, .ireturn, 1), (281, .aload_n 1, 1), (282, .aload_n 0, 1), (283, .iload_n 3, 1), (284, .iconst 1, 1), (285, .iadd, 1), (286, .iaload, 1), (287, .invokevirtual 27, 3), (290, .aload_n 2, 1), (291, .aload_n 0, 1), (292, .iload_n 3, 1), (293, .iconst 1, 1), (294, .iadd, 1), (295, .iaload, 1), (296, .invokevirtual 30, 3), (299, .if_icmp .eq 713, 3), (302, .iconst 0, 1), (303, .ireturn, 1), (304, .aload_n 1, 1), (305, .invokevirtual 31, 3), (308, .aload_n 2, 1), (309, .invokevirtual 35, 3), (312, .if_icmp .eq 700, 3), (315, .iconst 0, 1), (316, .ireturn, 1), (317, .aload_n 1, 1), (318, .invokevirtual 36, 3), (321, .aload_n 2, 1), (322, .invokevirtual 39, 3), (325, .if_icmp .eq 687, 3), (328, .iconst 0, 1), (329, .ireturn, 1), (330, .aload_n 1, 1), (331, .aload_n 0, 1), (332, .iload_n 3, 1), (333, .iconst 1, 1), (334, .iadd, 1), (335, .iaload, 1), (336, .invokevirtual 40, 3), (339, .aload_n 2, 1), (340, .aload_n 0, 1), (341, .iload_n 3, 1), (342, .iconst 1, 1), (343, .iadd, 1), (344, .iaload, 1), (345, .invokevirtual 43, 3), (348, .if_icmp .eq 664, 3), (351, .iconst 0, 1), (352, .ireturn, 1), (353, .aload_n 1, 1), (354, .aload_n 0, 1), (355, .iload_n 3, 1), (356, .iconst 1, 1), (357, .iadd, 1), (358, .iaload, 1), (359, .invokevirtual 44, 3), (362, .aload_n 2, 1), (363, .aload_n 0, 1), (364, .iload_n 3, 1), (365, .iconst 1, 1), (366, .iadd, 1), (367, .iaload, 1), (368, .invokevirtual 47, 3), (371, .if_icmp .eq 641, 3), (374, .iconst 0, 1), (375, .ireturn, 1), (376, .aload_n 1, 1), (377, .aload_n 0, 1), (378, .iload_n 3, 1), (379, .iconst 1, 1), (380, .iadd, 1), (381, .iaload, 1), (382, .invokevirtual 48, 3), (385, .aload_n 2, 1), (386, .aload_n 0, 1), (387, .iload_n 3, 1), (388, .iconst 1, 1), (389, .iadd, 1), (390, .iaload, 1), (391, .invokevirtual 51, 3), (394, .if_icmp .eq 618, 3), (397, .iconst 0, 1), (398, .ireturn, 1), (399, .aload_n 1, 1), (400, .invokevirtual 52, 3), (403, .aload_n 2, 1), (404, .invokevirtual 55, 3), (407, .if_icmp .eq 605, 3), (410, .iconst 0, 1), (411, .ireturn, 1), (412, .aload_n 1, 1), (413, .aload_n 0, 1), (414, .iload_n 3, 1), (415, .iconst 1, 1), (416, .iadd, 1), (417, .iaload, 1), (418, .aload_n 0, 1), (419, .iload_n 3, 1), (420, .iconst 2, 1), (421, .iadd, 1), (422, .iaload, 1), (423, .invokevirtual 56, 3), (426, .aload_n 2, 1), (427, .aload_n 0, 1), (428, .iload_n 3, 1), (429, .iconst 1, 1), (430, .iadd, 1), (431, .iaload, 1), (432, .aload_n 0, 1), (433, .iload_n 3, 1), (434, .iconst 2, 1), (435, .iadd, 1), (436, .iaload, 1), (437, .invokevirtual 60, 3), (440, .if_icmp .eq 572, 3), (443, .iconst 0, 1), (444, .ireturn, 1), (445, .aload_n 1, 1), (446, .aload_n 0, 1), (447, .iload_n 3, 1), (448, .iconst 1, 1), (449, .iadd, 1), (450, .iaload, 1), (451, .invokevirtual 61, 3), (454, .aload_n 2, 1), (455, .aload_n 0, 1), (456, .iload_n 3, 1), (457, .iconst 1, 1), (458, .iadd, 1), (459, .iaload, 1), (460, .invokevirtual 64, 3), (463, .if_icmp .eq 549, 3), (466, .iconst 0, 1), (467, .ireturn, 1), (468, .aload_n 1, 1), (469, .invokevirtual 65, 3), (472, .aload_n 2, 1), (473, .invokevirtual 68, 3), (476, .if_icmp .eq 536, 3), (479, .iconst 0, 1), (480, .ireturn, 1), (481, .aload_n 1, 1), (482, .invokevirtual 69, 3), (485, .aload_n 2, 1), (486, .invokevirtual 72, 3), (489, .if_icmp .eq 523, 3), (492, .iconst 0, 1), (493, .ireturn, 1), (494, .aload_n 1, 1), (495, .aload_n 0, 1), (496, .iload_n 3, 1), (497, .iconst 1, 1), (498, .iadd, 1), (499, .iaload, 1), (500, .invokevirtual 73, 3), (503, .aload_n 2, 1), (504, .aload_n 0, 1), (505, .iload_n 3, 1), (506, .iconst 1, 1), (507, .iadd, 1), (508, .iaload, 1), (509, .invokevirtual 76, 3), (512, .if_icmp .eq 500, 3), (515, .iconst 0, 1), (516, .ireturn, 1), (517, .aload_n 1, 1), (518, .aload_n 0, 1), (519, .iload_n 3, 1), (520, .iconst 1, 1), (521, .iadd, 1), (522, .iaload, 1), (523, .invokevirtual 77, 3), (526, .aload_n 2, 1), (527, .aload_n 0, 1), (528, .iload_n 3, 1), (529, .iconst 1, 1), (530, .iadd, 1), (531, .iaload, 1), (532, .invokevirtual 80, 3), (535, .if_icmp .eq 477, 3), (538, .iconst 0, 1), (539, .ireturn, 1), (540, .aload_n 1, 1), (541, .aload_n 0, 1), (542, .iload_n 3, 1), (543, .iconst 1, 1), (544, .iadd, 1), (545, .iaload, 1), (546, .invokevirtual 81, 3), (549, .aload_n 2, 1), (550, .aload_n 0, 1), (551, .iload_n 3, 1), (552, .iconst 1, 1), (553, .iadd, 1), (554, .iaload, 1), (555, .invokevirtual 84, 3), (558, .if_icmp .eq 454, 3), (561, .iconst 0, 1), (562, .ireturn, 1), (563, .aload_n 1, 1), (564, .invokevirtual 85, 3), (567, .aload_n 2, 1), (568, .invokevirtual 88, 3), (571, .if_icmp .eq 441, 3), (574, .iconst 0, 1), (575, .ireturn, 1), (576, .aload_n 1, 1), (577, .invokevirtual 89, 3), (580, .aload_n 2, 1), (581, .invokevirtual 92, 3), (584, .if_icmp .eq 428, 3), (587, .iconst 0, 1), (588, .ireturn, 1), (589, .aload_n 1, 1), (590, .aload_n 0, 1), (591, .iload_n 3, 1), (592, .iconst 1, 1), (593, .iadd, 1), (594, .iaload, 1), (595, .invokevirtual 93, 3), (598, .aload_n 2, 1), (599, .aload_n 0, 1), (600, .iload_n 3, 1), (601, .iconst 1, 1), (602, .iadd, 1), (603, .iaload, 1), (604, .invokevirtual 96, 3), (607, .if_icmp .eq 405, 3), (610, .iconst 0, 1), (611, .ireturn, 1), (612, .aload_n 1, 1), (613, .aload_n 0, 1), (614, .iload_n 3, 1), (615, .iconst 1, 1), (616, .iadd, 1), (617, .iaload, 1), (618, .aload_n 0, 1), (619, .iload_n 3, 1), (620, .iconst 2, 1), (621, .iadd, 1), (622, .iaload, 1), (623, .aload_n 0, 1), (624, .iload_n 3, 1), (625, .iconst 3, 1), (626, .iadd, 1), (627, .iaload, 1), (628, .invokevirtual 97, 3), (631, .aload_n 2, 1), (632, .aload_n 0, 1), (633, .iload_n 3, 1), (634, .iconst 1, 1), (635, .iadd, 1), (636, .iaload, 1), (637, .aload_n 0, 1), (638, .iload_n 3, 1), (639, .iconst 2, 1), (640, .iadd, 1), (641, .iaload, 1), (642, .aload_n 0, 1), (643, .iload_n 3, 1), (644, .iconst 3, 1), (645, .iadd, 1), (646, .iaload, 1), (647, .invokevirtual 100, 3), (650, .if_icmp .eq 362, 3), (653, .iconst 0, 1), (654, .ireturn, 1), (655, .aload_n 1, 1), (656, .aload_n 0, 1), (657, .iload_n 3, 1), (658, .iconst 1, 1), (659, .iadd, 1), (660, .iaload, 1), (661, .aload_n 0, 1), (662, .iload_n 3, 1), (663, .iconst 2, 1), (664, .iadd, 1), (665, .iaload, 1), (666, .aload_n 0, 1), (667, .iload_n 3, 1), (668, .iconst 3, 1), (669, .iadd, 1), (670, .iaload, 1), (671, .aload_n 0, 1), (672, .iload_n 3, 1), (673, .iconst 4, 1), (674, .iadd, 1), (675, .iaload, 1), (676, .invokevirtual 101, 3), (679, .aload_n 2, 1), (680, .aload_n 0, 1), (681, .iload_n 3, 1), (682, .iconst 1, 1), (683, .iadd, 1), (684, .iaload, 1), (685, .aload_n 0, 1), (686, .iload_n 3, 1), (687, .iconst 2, 1), (688, .iadd, 1), (689, .iaload, 1), (690, .aload_n 0, 1), (691, .iload_n 3, 1), (692, .iconst 3, 1), (693, .iadd, 1), (694, .iaload, 1), (695, .aload_n 0, 1), (696, .iload_n 3, 1), (697, .iconst 4, 1), (698, .iadd, 1), (699, .iaload, 1), (700, .invokevirtual 105, 3), (703, .if_icmp .eq 309, 3), (706, .iconst 0, 1), (707, .ireturn, 1), (708, .aload_n 1, 1), (709, .aload_n 0, 1), (710, .iload_n 3, 1), (711, .iconst 1, 1), (712, .iadd, 1), (713, .iaload, 1), (714, .invokevirtual 106, 3), (717, .aload_n 2, 1), (718, .aload_n 0, 1), (719, .iload_n 3, 1), (720, .iconst 1, 1), (721, .iadd, 1), (722, .iaload, 1), (723, .invokevirtual 109, 3), (726, .if_icmp .eq 286, 3), (729, .iconst 0, 1), (730, .ireturn, 1), (731, .aload_n 1, 1), (732, .invokevirtual 110, 3), (735, .aload_n 2, 1), (736, .invokevirtual 113, 3), (739, .if_icmp .eq 273, 3), (742, .iconst 0, 1), (743, .ireturn, 1), (744, .aload_n 1, 1), (745, .invokevirtual 114, 3), (748, .aload_n 2, 1), (749, .invokevirtual 117, 3), (752, .if_icmp .eq 260, 3), (755, .iconst 0, 1), (756, .ireturn, 1), (757, .aload_n 1, 1), (758, .aload_n 0, 1), (759, .iload_n 3, 1), (760, .iconst 1, 1), (761, .iadd, 1), (762, .iaload, 1), (763, .invokevirtual 118, 3), (766, .aload_n 2, 1), (767, .aload_n 0, 1), (768, .iload_n 3, 1), (769, .iconst 1, 1), (770, .iadd, 1), (771, .iaload, 1), (772, .invokevirtual 121, 3), (775, .if_icmp .eq 237, 3), (778, .iconst 0, 1), (779, .ireturn, 1), (780, .aload_n 1, 1), (781, .aload_n 0, 1), (782, .iload_n 3, 1), (783, .iconst 1, 1), (784, .iadd, 1), (785, .iaload, 1), (786, .invokevirtual 122, 3), (789, .aload_n 2, 1), (790, .aload_n 0, 1), (791, .iload_n 3, 1), (792, .iconst 1, 1), (793, .iadd, 1), (794, .iaload, 1), (795, .invokevirtual 125, 3), (798, .if_icmp .eq 214, 3), (801, .iconst 0, 1), (802, .ireturn, 1), (803, .aload_n 1, 1), (804, .aload_n 0, 1), (805, .iload_n 3, 1), (806, .iconst 1, 1), (807, .iadd, 1), (808, .iaload, 1), (809, .invokevirtual 126, 3), (812, .aload_n 2, 1), (813, .aload_n 0, 1), (814, .iload_n 3, 1), (815, .iconst 1, 1), (816, .iadd, 1), (817, .iaload, 1), (818, .invokevirtual 129, 3), (821, .if_icmp .eq 191, 3), (824, .iconst 0, 1), (825, .ireturn, 1), (826, .aload_n 1, 1), (827, .aload_n 0, 1), (828, .iload_n 3, 1), (829, .iconst 1, 1), (830, .iadd, 1), (831, .iaload, 1), (832, .invokevirtual 130, 3), (835, .aload_n 2, 1), (836, .aload_n 0, 1), (837, .iload_n 3, 1), (838, .iconst 1, 1), (839, .iadd, 1), (840, .iaload, 1), (841, .invokevirtual 133, 3), (844, .if_icmp .eq 168, 3), (847, .iconst 0, 1), (848, .ireturn, 1), (849, .aload_n 1, 1), (850, .aload_n 0, 1), (851, .iload_n 3, 1), (852, .iconst 1, 1), (853, .iadd, 1), (854, .iaload, 1), (855, .aload_n 0, 1), (856, .iload_n 3, 1), (857, .iconst 2, 1), (858, .iadd, 1), (859, .iaload, 1), (860, .invokevirtual 134, 3), (863, .aload_n 2, 1), (864, .aload_n 0, 1), (865, .iload_n 3, 1), (866, .iconst 1, 1), (867, .iadd, 1), (868, .iaload, 1), (869, .aload_n 0, 1), (870, .iload_n 3, 1), (871, .iconst 2, 1), (872, .iadd, 1), (873, .iaload, 1), (874, .invokevirtual 137, 3), (877, .if_icmp .eq 135, 3), (880, .iconst 0, 1), (881, .ireturn, 1), (882, .aload_n 1, 1), (883, .aload_n 0, 1), (884, .iload_n 3, 1), (885, .iconst 1, 1), (886, .iadd, 1), (887, .iaload, 1), (888, .invokevirtual 138, 3), (891, .aload_n 2, 1), (892, .aload_n 0, 1), (893, .iload_n 3, 1), (894, .iconst 1, 1), (895, .iadd, 1), (896, .iaload, 1), (897, .invokevirtual 142, 3), (900, .lcmp, 1), (901, .ifCond .eq 111, 3), (904, .iconst 0, 1), (905, .ireturn, 1), (906, .aload_n 1, 1), (907, .aload_n 0, 1), (908, .iload_n 3, 1), (909, .iconst 1, 1), (910, .iadd, 1), (911, .iaload, 1), (912, .invokevirtual 143, 3), (915, .aload_n 2, 1), (916, .aload_n 0, 1), (917, .iload_n 3, 1), (918, .iconst 1, 1), (919, .iadd, 1), (920, .iaload, 1), (921, .invokevirtual 146, 3), (924, .if_icmp .eq 88, 3), (927, .iconst 0, 1), (928, .ireturn, 1), (929, .aload_n 1, 1), (930, .aload_n 0, 1), (931, .iload_n 3, 1), (932, .iconst 1, 1), (933, .iadd, 1), (934, .iaload, 1), (935, .invokevirtual 147, 3), (938, .aload_n 2, 1), (939, .aload_n 0, 1), (940, .iload_n 3, 1), (941, .iconst 1, 1), (942, .iadd, 1), (943, .iaload, 1), (944, .invokevirtual 150, 3), (947, .if_icmp .eq 65, 3), (950, .iconst 0, 1), (951, .ireturn, 1), (952, .aload_n 1, 1), (953, .aload_n 0, 1), (954, .iload_n 3, 1), (955, .iconst 1, 1), (956, .iadd, 1), (957, .iaload, 1), (958, .invokevirtual 151, 3), (961, .aload_n 2, 1), (962, .aload_n 0, 1), (963, .iload_n 3, 1), (964, .iconst 1, 1), (965, .iadd, 1), (966, .iaload, 1), (967, .invokevirtual 154, 3), (970, .if_icmp .eq 42, 3), (973, .iconst 0, 1), (974, .ireturn, 1), (975, .aload_n 1, 1), (976, .aload_n 0, 1), (977, .iload_n 3, 1), (978, .iconst 1, 1), (979, .iadd, 1), (980, .iaload, 1), (981, .invokevirtual 155, 3), (984, .aload_n 2, 1), (985, .aload_n 0, 1), (986, .iload_n 3, 1), (987, .iconst 1, 1), (988, .iadd, 1), (989, .iaload, 1), (990, .invokevirtual 158, 3), (993, .if_icmp .eq 19, 3), (996, .iconst 0, 1), (997, .ireturn, 1), (998, .aload_n 1, 1), (999, .invokevirtual 159, 3), (1002, .aload_n 2, 1), (1003, .invokevirtual 163, 3), (1006, .lcmp, 1), (1007, .ifCond .eq 5, 3), (1010, .iconst 0, 1), (1011, .ireturn, 1), (1012, .iinc 3 5, 3), (1015, .goto (-997), 3), (1018, .iconst 1, 1), (1019, .ireturn, 1)]
theorem dd_L_law : ∀ q ∈ L_L_law, decode cL_law q.1 = .ok q.2 := by decide +kernel
abbrev M_L_law : zM := (cL_law, RL, "law", 4, some .boolean, 13, 170, 2621)
def f_L_law_1012 (sN : Nat) (sx : Nat → Int32) (k18 : Nat → Nat → Int32 → zH → zR) (v1 : Nat) (v2 : Nat) (v3 : Int32) (h : zH) : zR :=
  k18 v1 v2 (v3 + 5) h
set_option maxRecDepth 100000 in
set_option maxHeartbeats 4000000 in
theorem zb_L_law_1012 (Y : zY) (sb sN : Nat) (sx : Nat → Int32) (hsc : zScr Y sb sN sx) (k18 : Nat → Nat → Int32 → zH → zR) (hk18 : ∀ (v1 : Nat) (v2 : Nat) (v3 : Int32) (h : zH), Z Y M_L_law 170 2621 18 [(0, .ref sb), (1, .ref v1), (2, .ref v2), (3, .int v3)] [] h (k18 v1 v2 v3 h)) (v1 : Nat) (v2 : Nat) (v3 : Int32) (h : zH) : Z Y M_L_law 170 2621 1012 [(0, .ref sb), (1, .ref v1), (2, .ref v2), (3, .int v3)] [] h (f_L_law_1012 sN sx k18 v1 v2 v3 h) := by
  rw [f_L_law_1012]
  refine z_iinc (y := v3 + 5) (lv' := [(3, .int (v3 + 5)), (0, .ref sb), (1, .ref v1), (2, .ref v2)]) 3 (zat dd_L_law 626 rfl) rfl rfl (Nat.le_of_ble_eq_true rfl) rfl ?_
  refine z_goto (tgt := 18) (zat dd_L_law 627 rfl) (by decide) ?_
  refine z_sub [1, 2, 3, 0] rfl ?_
  exact hk18 v1 v2 (v3 + 5) h
def f_L_law_18 (sN : Nat) (sx : Nat → Int32) : Nat → Nat → Nat → Int32 → zH → zR
  | 0, _, _, _, _ => none
  | n + 1, v1, v2, v3, h =>
  zlt (Int32.ofNat sN) fun x1 =>
  if (x1 - 5) < v3 then
  zrZ 1 h
  else
  zsc sN sx v3 fun x2 =>
  if (x2 &&& 63) = 0 then
  zsc sN sx (v3 + 1) fun x3 =>
  zoc h v1 5 <|
  zcI (f_X9_doll v1 x3 h) fun x4 h5 =>
  zsc sN sx (v3 + 1) fun x6 =>
  zoc h5 v2 6 <|
  zcI (f_X10_doll v2 x6 h5) fun x7 h8 =>
  if x4 = x7 then
  f_L_law_1012 sN sx (f_L_law_18 sN sx n) v1 v2 v3 h8
  else
  zrZ 0 h8
  else
  if (x2 &&& 63) = 1 then
  zsc sN sx (v3 + 1) fun x9 =>
  zoc h v1 5 <|
  zcI (f_X9_child v1 x9 h) fun x10 h11 =>
  zsc sN sx (v3 + 1) fun x12 =>
  zoc h11 v2 6 <|
  zcI (f_X10_child v2 x12 h11) fun x13 h14 =>
  if x10 = x13 then
  f_L_law_1012 sN sx (f_L_law_18 sN sx n) v1 v2 v3 h14
  else
  zrZ 0 h14
  else
  if (x2 &&& 63) = 2 then
  zsc sN sx (v3 + 1) fun x15 =>
  zsc sN sx (v3 + 2) fun x16 =>
  zsc sN sx (v3 + 3) fun x17 =>
  zoc h v1 5 <|
  zcI (f_X9_piece v1 x15 x16 x17 h) fun x18 h19 =>
  zsc sN sx (v3 + 1) fun x20 =>
  zsc sN sx (v3 + 2) fun x21 =>
  zsc sN sx (v3 + 3) fun x22 =>
  zoc h19 v2 6 <|
  zcI (f_X10_piece v2 x20 x21 x22 h19) fun x23 h24 =>
  if x18 = x23 then
  f_L_law_1012 sN sx (f_L_law_18 sN sx n) v1 v2 v3 h24
  else
  zrZ 0 h24
  else
  if (x2 &&& 63) = 3 then
  zsc sN sx (v3 + 1) fun x25 =>
  zoc h v1 5 <|
  zcI (f_X9_type v1 x25 h) fun x26 h27 =>
  zsc sN sx (v3 + 1) fun x28 =>
  zoc h27 v2 6 <|
  zcI (f_X10_type v2 x28 h27) fun x29 h30 =>
  if x26 = x29 then
  f_L_law_1012 sN sx (f_L_law_18 sN sx n) v1 v2 v3 h30
  else
  zrZ 0 h30
  else
  if (x2 &&& 63) = 4 then
  zoc h v1 5 <|
  zcI (f_X9_clear v1 h) fun x31 h32 =>
  zoc h32 v2 6 <|
  zcI (f_X10_clear v2 h32) fun x33 h34 =>
  if x31 = x33 then
  f_L_law_1012 sN sx (f_L_law_18 sN sx n) v1 v2 v3 h34
  else
  zrZ 0 h34
  else
  if (x2 &&& 63) = 5 then
  zoc h v1 5 <|
  zcI (f_X9_read v1 h) fun x35 h36 =>
  zoc h36 v2 6 <|
  zcI (f_X10_read v2 h36) fun x37 h38 =>
  if x35 = x37 then
  f_L_law_1012 sN sx (f_L_law_18 sN sx n) v1 v2 v3 h38
  else
  zrZ 0 h38
  else
  if (x2 &&& 63) = 6 then
  zsc sN sx (v3 + 1) fun x39 =>
  zoc h v1 5 <|
  zcI (f_X9_puts v1 x39 h) fun x40 h41 =>
  zsc sN sx (v3 + 1) fun x42 =>
  zoc h41 v2 6 <|
  zcI (f_X10_puts v2 x42 h41) fun x43 h44 =>
  if x40 = x43 then
  f_L_law_1012 sN sx (f_L_law_18 sN sx n) v1 v2 v3 h44
  else
  zrZ 0 h44
  else
  if (x2 &&& 63) = 7 then
  zsc sN sx (v3 + 1) fun x45 =>
  zoc h v1 5 <|
  zcI (f_X9_takes v1 x45 h) fun x46 h47 =>
  zsc sN sx (v3 + 1) fun x48 =>
  zoc h47 v2 6 <|
  zcI (f_X10_takes v2 x48 h47) fun x49 h50 =>
  if x46 = x49 then
  f_L_law_1012 sN sx (f_L_law_18 sN sx n) v1 v2 v3 h50
  else
  zrZ 0 h50
  else
  if (x2 &&& 63) = 8 then
  zsc sN sx (v3 + 1) fun x51 =>
  zoc h v1 5 <|
  zcI (f_X9_mends v1 x51 h) fun x52 h53 =>
  zsc sN sx (v3 + 1) fun x54 =>
  zoc h53 v2 6 <|
  zcI (f_X10_mends v2 x54 h53) fun x55 h56 =>
  if x52 = x55 then
  f_L_law_1012 sN sx (f_L_law_18 sN sx n) v1 v2 v3 h56
  else
  zrZ 0 h56
  else
  if (x2 &&& 63) = 9 then
  zoc h v1 5 <|
  zcI (f_X9_undo v1 h) fun x57 h58 =>
  zoc h58 v2 6 <|
  zcI (f_X10_undo v2 h58) fun x59 h60 =>
  if x57 = x59 then
  f_L_law_1012 sN sx (f_L_law_18 sN sx n) v1 v2 v3 h60
  else
  zrZ 0 h60
  else
  if (x2 &&& 63) = 10 then
  zsc sN sx (v3 + 1) fun x61 =>
  zsc sN sx (v3 + 2) fun x62 =>
  zoc h v1 5 <|
  zcI (f_X9_of v1 x61 x62 h) fun x63 h64 =>
  zsc sN sx (v3 + 1) fun x65 =>
  zsc sN sx (v3 + 2) fun x66 =>
  zoc h64 v2 6 <|
  zcI (f_X10_of v2 x65 x66 h64) fun x67 h68 =>
  if x63 = x67 then
  f_L_law_1012 sN sx (f_L_law_18 sN sx n) v1 v2 v3 h68
  else
  zrZ 0 h68
  else
  if (x2 &&& 63) = 11 then
  zsc sN sx (v3 + 1) fun x69 =>
  zoc h v1 5 <|
  zcI (f_X9_seen v1 x69 h) fun x70 h71 =>
  zsc sN sx (v3 + 1) fun x72 =>
  zoc h71 v2 6 <|
  zcI (f_X10_seen v2 x72 h71) fun x73 h74 =>
  if x70 = x73 then
  f_L_law_1012 sN sx (f_L_law_18 sN sx n) v1 v2 v3 h74
  else
  zrZ 0 h74
  else
  if (x2 &&& 63) = 12 then
  zoc h v1 5 <|
  zcI (f_X9_can v1 h) fun x75 h76 =>
  zoc h76 v2 6 <|
  zcI (f_X10_can v2 h76) fun x77 h78 =>
  if x75 = x77 then
  f_L_law_1012 sN sx (f_L_law_18 sN sx n) v1 v2 v3 h78
  else
  zrZ 0 h78
  else
  if (x2 &&& 63) = 13 then
  zoc h v1 5 <|
  zcI (f_X9_off v1 h) fun x79 h80 =>
  zoc h80 v2 6 <|
  zcI (f_X10_off v2 h80) fun x81 h82 =>
  if x79 = x81 then
  f_L_law_1012 sN sx (f_L_law_18 sN sx n) v1 v2 v3 h82
  else
  zrZ 0 h82
  else
  if (x2 &&& 63) = 14 then
  zsc sN sx (v3 + 1) fun x83 =>
  zoc h v1 5 <|
  zcI (f_X9_going v1 x83 h) fun x84 h85 =>
  zsc sN sx (v3 + 1) fun x86 =>
  zoc h85 v2 6 <|
  zcI (f_X10_going v2 x86 h85) fun x87 h88 =>
  if x84 = x87 then
  f_L_law_1012 sN sx (f_L_law_18 sN sx n) v1 v2 v3 h88
  else
  zrZ 0 h88
  else
  if (x2 &&& 63) = 15 then
  zsc sN sx (v3 + 1) fun x89 =>
  zoc h v1 5 <|
  zcI (f_X9_outfits v1 x89 h) fun x90 h91 =>
  zsc sN sx (v3 + 1) fun x92 =>
  zoc h91 v2 6 <|
  zcI (f_X10_outfits v2 x92 h91) fun x93 h94 =>
  if x90 = x93 then
  f_L_law_1012 sN sx (f_L_law_18 sN sx n) v1 v2 v3 h94
  else
  zrZ 0 h94
  else
  if (x2 &&& 63) = 16 then
  zsc sN sx (v3 + 1) fun x95 =>
  zoc h v1 5 <|
  zcI (f_X9_lean v1 x95 h) fun x96 h97 =>
  zsc sN sx (v3 + 1) fun x98 =>
  zoc h97 v2 6 <|
  zcI (f_X10_lean v2 x98 h97) fun x99 h100 =>
  if x96 = x99 then
  f_L_law_1012 sN sx (f_L_law_18 sN sx n) v1 v2 v3 h100
  else
  zrZ 0 h100
  else
  if (x2 &&& 63) = 17 then
  zoc h v1 5 <|
  zcI (f_X9_days v1 h) fun x101 h102 =>
  zoc h102 v2 6 <|
  zcI (f_X10_days v2 h102) fun x103 h104 =>
  if x101 = x103 then
  f_L_law_1012 sN sx (f_L_law_18 sN sx n) v1 v2 v3 h104
  else
  zrZ 0 h104
  else
  if (x2 &&& 63) = 18 then
  zoc h v1 5 <|
  zcI (f_X9_spared v1 h) fun x105 h106 =>
  zoc h106 v2 6 <|
  zcI (f_X10_spared v2 h106) fun x107 h108 =>
  if x105 = x107 then
  f_L_law_1012 sN sx (f_L_law_18 sN sx n) v1 v2 v3 h108
  else
  zrZ 0 h108
  else
  if (x2 &&& 63) = 19 then
  zsc sN sx (v3 + 1) fun x109 =>
  zoc h v1 5 <|
  zcI (f_X9_few v1 x109 h) fun x110 h111 =>
  zsc sN sx (v3 + 1) fun x112 =>
  zoc h111 v2 6 <|
  zcI (f_X10_few v2 x112 h111) fun x113 h114 =>
  if x110 = x113 then
  f_L_law_1012 sN sx (f_L_law_18 sN sx n) v1 v2 v3 h114
  else
  zrZ 0 h114
  else
  if (x2 &&& 63) = 20 then
  zsc sN sx (v3 + 1) fun x115 =>
  zsc sN sx (v3 + 2) fun x116 =>
  zsc sN sx (v3 + 3) fun x117 =>
  zoc h v1 5 <|
  zcI (f_X9_note v1 x115 x116 x117 h) fun x118 h119 =>
  zsc sN sx (v3 + 1) fun x120 =>
  zsc sN sx (v3 + 2) fun x121 =>
  zsc sN sx (v3 + 3) fun x122 =>
  zoc h119 v2 6 <|
  zcI (f_X10_note v2 x120 x121 x122 h119) fun x123 h124 =>
  if x118 = x123 then
  f_L_law_1012 sN sx (f_L_law_18 sN sx n) v1 v2 v3 h124
  else
  zrZ 0 h124
  else
  if (x2 &&& 63) = 21 then
  zsc sN sx (v3 + 1) fun x125 =>
  zsc sN sx (v3 + 2) fun x126 =>
  zsc sN sx (v3 + 3) fun x127 =>
  zsc sN sx (v3 + 4) fun x128 =>
  zoc h v1 5 <|
  zcI (f_X9_mark v1 x125 x126 x127 x128 h) fun x129 h130 =>
  zsc sN sx (v3 + 1) fun x131 =>
  zsc sN sx (v3 + 2) fun x132 =>
  zsc sN sx (v3 + 3) fun x133 =>
  zsc sN sx (v3 + 4) fun x134 =>
  zoc h130 v2 6 <|
  zcI (f_X10_mark v2 x131 x132 x133 x134 h130) fun x135 h136 =>
  if x129 = x135 then
  f_L_law_1012 sN sx (f_L_law_18 sN sx n) v1 v2 v3 h136
  else
  zrZ 0 h136
  else
  if (x2 &&& 63) = 22 then
  zsc sN sx (v3 + 1) fun x137 =>
  zoc h v1 5 <|
  zcI (f_X9_forget v1 x137 h) fun x138 h139 =>
  zsc sN sx (v3 + 1) fun x140 =>
  zoc h139 v2 6 <|
  zcI (f_X10_forget v2 x140 h139) fun x141 h142 =>
  if x138 = x141 then
  f_L_law_1012 sN sx (f_L_law_18 sN sx n) v1 v2 v3 h142
  else
  zrZ 0 h142
  else
  if (x2 &&& 63) = 23 then
  zoc h v1 5 <|
  zcI (f_X9_is v1 h) fun x143 h144 =>
  zoc h144 v2 6 <|
  zcI (f_X10_is v2 h144) fun x145 h146 =>
  if x143 = x145 then
  f_L_law_1012 sN sx (f_L_law_18 sN sx n) v1 v2 v3 h146
  else
  zrZ 0 h146
  else
  if (x2 &&& 63) = 24 then
  zoc h v1 5 <|
  zcI (f_X9_look v1 h) fun x147 h148 =>
  zoc h148 v2 6 <|
  zcI (f_X10_look v2 h148) fun x149 h150 =>
  if x147 = x149 then
  f_L_law_1012 sN sx (f_L_law_18 sN sx n) v1 v2 v3 h150
  else
  zrZ 0 h150
  else
  if (x2 &&& 63) = 25 then
  zsc sN sx (v3 + 1) fun x151 =>
  zoc h v1 5 <|
  zcI (f_X9_kinds v1 x151 h) fun x152 h153 =>
  zsc sN sx (v3 + 1) fun x154 =>
  zoc h153 v2 6 <|
  zcI (f_X10_kinds v2 x154 h153) fun x155 h156 =>
  if x152 = x155 then
  f_L_law_1012 sN sx (f_L_law_18 sN sx n) v1 v2 v3 h156
  else
  zrZ 0 h156
  else
  if (x2 &&& 63) = 26 then
  zsc sN sx (v3 + 1) fun x157 =>
  zoc h v1 5 <|
  zcI (f_X9_ask v1 x157 h) fun x158 h159 =>
  zsc sN sx (v3 + 1) fun x160 =>
  zoc h159 v2 6 <|
  zcI (f_X10_ask v2 x160 h159) fun x161 h162 =>
  if x158 = x161 then
  f_L_law_1012 sN sx (f_L_law_18 sN sx n) v1 v2 v3 h162
  else
  zrZ 0 h162
  else
  if (x2 &&& 63) = 27 then
  zsc sN sx (v3 + 1) fun x163 =>
  zoc h v1 5 <|
  zcI (f_X9_two v1 x163 h) fun x164 h165 =>
  zsc sN sx (v3 + 1) fun x166 =>
  zoc h165 v2 6 <|
  zcI (f_X10_two v2 x166 h165) fun x167 h168 =>
  if x164 = x167 then
  f_L_law_1012 sN sx (f_L_law_18 sN sx n) v1 v2 v3 h168
  else
  zrZ 0 h168
  else
  if (x2 &&& 63) = 28 then
  zsc sN sx (v3 + 1) fun x169 =>
  zoc h v1 5 <|
  zcI (f_X9_luck v1 x169 h) fun x170 h171 =>
  zsc sN sx (v3 + 1) fun x172 =>
  zoc h171 v2 6 <|
  zcI (f_X10_luck v2 x172 h171) fun x173 h174 =>
  if x170 = x173 then
  f_L_law_1012 sN sx (f_L_law_18 sN sx n) v1 v2 v3 h174
  else
  zrZ 0 h174
  else
  if (x2 &&& 63) = 29 then
  zsc sN sx (v3 + 1) fun x175 =>
  zsc sN sx (v3 + 2) fun x176 =>
  zoc h v1 5 <|
  zcI (f_X9_evenings v1 x175 x176 h) fun x177 h178 =>
  zsc sN sx (v3 + 1) fun x179 =>
  zsc sN sx (v3 + 2) fun x180 =>
  zoc h178 v2 6 <|
  zcI (f_X10_evenings v2 x179 x180 h178) fun x181 h182 =>
  if x177 = x181 then
  f_L_law_1012 sN sx (f_L_law_18 sN sx n) v1 v2 v3 h182
  else
  zrZ 0 h182
  else
  if (x2 &&& 63) = 30 then
  zsc sN sx (v3 + 1) fun x183 =>
  zoc h v1 5 <|
  zcJ (f_X9_part v1 x183 h) fun x184 h185 =>
  zsc sN sx (v3 + 1) fun x186 =>
  zoc h185 v2 6 <|
  zcJ (f_X10_part v2 x186 h185) fun x187 h188 =>
  if (lg_cmp x184 x187) = 0 then
  f_L_law_1012 sN sx (f_L_law_18 sN sx n) v1 v2 v3 h188
  else
  zrZ 0 h188
  else
  if (x2 &&& 63) = 31 then
  zsc sN sx (v3 + 1) fun x189 =>
  zoc h v1 5 <|
  zcI (f_X9_image v1 x189 h) fun x190 h191 =>
  zsc sN sx (v3 + 1) fun x192 =>
  zoc h191 v2 6 <|
  zcI (f_X10_image v2 x192 h191) fun x193 h194 =>
  if x190 = x193 then
  f_L_law_1012 sN sx (f_L_law_18 sN sx n) v1 v2 v3 h194
  else
  zrZ 0 h194
  else
  if (x2 &&& 63) = 32 then
  zsc sN sx (v3 + 1) fun x195 =>
  zoc h v1 5 <|
  zcI (f_X9_from v1 x195 h) fun x196 h197 =>
  zsc sN sx (v3 + 1) fun x198 =>
  zoc h197 v2 6 <|
  zcI (f_X10_from v2 x198 h197) fun x199 h200 =>
  if x196 = x199 then
  f_L_law_1012 sN sx (f_L_law_18 sN sx n) v1 v2 v3 h200
  else
  zrZ 0 h200
  else
  if (x2 &&& 63) = 33 then
  zsc sN sx (v3 + 1) fun x201 =>
  zoc h v1 5 <|
  zcI (f_X9_status v1 x201 h) fun x202 h203 =>
  zsc sN sx (v3 + 1) fun x204 =>
  zoc h203 v2 6 <|
  zcI (f_X10_status v2 x204 h203) fun x205 h206 =>
  if x202 = x205 then
  f_L_law_1012 sN sx (f_L_law_18 sN sx n) v1 v2 v3 h206
  else
  zrZ 0 h206
  else
  if (x2 &&& 63) = 34 then
  zsc sN sx (v3 + 1) fun x207 =>
  zoc h v1 5 <|
  zcI (f_X9_count v1 x207 h) fun x208 h209 =>
  zsc sN sx (v3 + 1) fun x210 =>
  zoc h209 v2 6 <|
  zcI (f_X10_count v2 x210 h209) fun x211 h212 =>
  if x208 = x211 then
  f_L_law_1012 sN sx (f_L_law_18 sN sx n) v1 v2 v3 h212
  else
  zrZ 0 h212
  else
  if (x2 &&& 63) = 35 then
  zoc h v1 5 <|
  zcJ (f_X9_digest v1 h) fun x213 h214 =>
  zoc h214 v2 6 <|
  zcJ (f_X10_digest v2 h214) fun x215 h216 =>
  if (lg_cmp x213 x215) = 0 then
  f_L_law_1012 sN sx (f_L_law_18 sN sx n) v1 v2 v3 h216
  else
  zrZ 0 h216
  else
  f_L_law_1012 sN sx (f_L_law_18 sN sx n) v1 v2 v3 h
set_option maxRecDepth 100000 in
set_option maxHeartbeats 4000000 in
theorem zb_L_law_18 (Y : zY) (sb sN : Nat) (sx : Nat → Int32) (hsc : zScr Y sb sN sx) : ∀ (n : Nat) (v1 : Nat) (v2 : Nat) (v3 : Int32) (h : zH), Z Y M_L_law 170 2621 18 [(0, .ref sb), (1, .ref v1), (2, .ref v2), (3, .int v3)] [] h (f_L_law_18 sN sx n v1 v2 v3 h) := by
  intro n
  induction n with
  | zero =>
    intro v1 v2 v3 h
    rw [f_L_law_18]
    exact z_none
  | succ n ih =>
    intro v1 v2 v3 h
    rw [f_L_law_18]
    refine z_iload_n 3 (zat dd_L_law 10 rfl) rfl rfl ?_
    refine z_aload_n 0 (zat dd_L_law 11 rfl) rfl rfl ?_
    refine z_slen hsc (zat dd_L_law 12 rfl) (fun x1 => ?_)
    refine z_iconst (x := 5) (zat dd_L_law 13 rfl) (by decide) ?_
    refine z_isub (zat dd_L_law 14 rfl) ?_
    refine z_icmp_gt (tgt := 1018) (zat dd_L_law 15 rfl) (by decide) ?_ ?_
    · refine z_iconst (x := 1) (zat dd_L_law 628 rfl) (by decide) ?_
      exact z_zret rfl (zat dd_L_law 629 rfl)
    · refine z_aload_n 0 (zat dd_L_law 16 rfl) rfl rfl ?_
      refine z_iload_n 3 (zat dd_L_law 17 rfl) rfl rfl ?_
      refine z_sld hsc (zat dd_L_law 18 rfl) (fun x2 => ?_)
      refine z_bipush (x := 63) (zat dd_L_law 19 rfl) (by decide) ?_
      refine z_iand (zat dd_L_law 20 rfl) ?_
      refine z_ite (fun c0 => ?_) (fun c0 => ?_)
      · refine z_tabIn (tgt := 192) 0 c0 (zat dd_L_law 21 rfl) (by decide) (by decide) rfl (by decide) ?_
        refine z_aload_n 1 (zat dd_L_law 22 rfl) rfl rfl ?_
        refine z_aload_n 0 (zat dd_L_law 23 rfl) rfl rfl ?_
        refine z_iload_n 3 (zat dd_L_law 24 rfl) rfl rfl ?_
        refine z_iconst (x := 1) (zat dd_L_law 25 rfl) (by decide) ?_
        refine z_iadd (zat dd_L_law 26 rfl) ?_
        refine z_sld hsc (zat dd_L_law 27 rfl) (fun x3 => ?_)
        refine z_callV_IL (M2 := M_X9_doll) [.int x3] (fun l D _ _ => m_X9_doll l D v1 x3 h) u_X9_doll ql_L_13 qi_X9_doll qs_X9_doll (ci := 5) rfl rfl rfl (Nat.le_of_ble_eq_true rfl) (by decide) (by decide) rfl rfl (zat dd_L_law 28 rfl) (fun x4 h5 => ?_)
        refine z_aload_n 2 (zat dd_L_law 29 rfl) rfl rfl ?_
        refine z_aload_n 0 (zat dd_L_law 30 rfl) rfl rfl ?_
        refine z_iload_n 3 (zat dd_L_law 31 rfl) rfl rfl ?_
        refine z_iconst (x := 1) (zat dd_L_law 32 rfl) (by decide) ?_
        refine z_iadd (zat dd_L_law 33 rfl) ?_
        refine z_sld hsc (zat dd_L_law 34 rfl) (fun x6 => ?_)
        refine z_callV_IL (M2 := M_X10_doll) [.int x6] (fun l D _ _ => m_X10_doll l D v2 x6 h5) u_X10_doll ql_L_17 qi_X10_doll qs_X10_doll (ci := 6) rfl rfl rfl (Nat.le_of_ble_eq_true rfl) (by decide) (by decide) rfl rfl (zat dd_L_law 35 rfl) (fun x7 h8 => ?_)
        refine z_icmp_eq (tgt := 1012) (zat dd_L_law 36 rfl) (by decide) ?_ ?_
        · exact zb_L_law_1012 Y sb sN sx hsc (f_L_law_18 sN sx n) ih v1 v2 v3 h8
        · refine z_iconst (x := 0) (zat dd_L_law 37 rfl) (by decide) ?_
          exact z_zret rfl (zat dd_L_law 38 rfl)
      refine z_ite (fun c1 => ?_) (fun c1 => ?_)
      · refine z_tabIn (tgt := 215) 1 c1 (zat dd_L_law 21 rfl) (by decide) (by decide) rfl (by decide) ?_
        refine z_aload_n 1 (zat dd_L_law 39 rfl) rfl rfl ?_
        refine z_aload_n 0 (zat dd_L_law 40 rfl) rfl rfl ?_
        refine z_iload_n 3 (zat dd_L_law 41 rfl) rfl rfl ?_
        refine z_iconst (x := 1) (zat dd_L_law 42 rfl) (by decide) ?_
        refine z_iadd (zat dd_L_law 43 rfl) ?_
        refine z_sld hsc (zat dd_L_law 44 rfl) (fun x9 => ?_)
        refine z_callV_IL (M2 := M_X9_child) [.int x9] (fun l D _ _ => m_X9_child l D v1 x9 h) u_X9_child ql_L_18 qi_X9_child qs_X9_child (ci := 5) rfl rfl rfl (Nat.le_of_ble_eq_true rfl) (by decide) (by decide) rfl rfl (zat dd_L_law 45 rfl) (fun x10 h11 => ?_)
        refine z_aload_n 2 (zat dd_L_law 46 rfl) rfl rfl ?_
        refine z_aload_n 0 (zat dd_L_law 47 rfl) rfl rfl ?_
        refine z_iload_n 3 (zat dd_L_law 48 rfl) rfl rfl ?_
        refine z_iconst (x := 1) (zat dd_L_law 49 rfl) (by decide) ?_
        refine z_iadd (zat dd_L_law 50 rfl) ?_
        refine z_sld hsc (zat dd_L_law 51 rfl) (fun x12 => ?_)
        refine z_callV_IL (M2 := M_X10_child) [.int x12] (fun l D _ _ => m_X10_child l D v2 x12 h11) u_X10_child ql_L_21 qi_X10_child qs_X10_child (ci := 6) rfl rfl rfl (Nat.le_of_ble_eq_true rfl) (by decide) (by decide) rfl rfl (zat dd_L_law 52 rfl) (fun x13 h14 => ?_)
        refine z_icmp_eq (tgt := 1012) (zat dd_L_law 53 rfl) (by decide) ?_ ?_
        · exact zb_L_law_1012 Y sb sN sx hsc (f_L_law_18 sN sx n) ih v1 v2 v3 h14
        · refine z_iconst (x := 0) (zat dd_L_law 54 rfl) (by decide) ?_
          exact z_zret rfl (zat dd_L_law 55 rfl)
      refine z_ite (fun c2 => ?_) (fun c2 => ?_)
      · refine z_tabIn (tgt := 238) 2 c2 (zat dd_L_law 21 rfl) (by decide) (by decide) rfl (by decide) ?_
        refine z_aload_n 1 (zat dd_L_law 56 rfl) rfl rfl ?_
        refine z_aload_n 0 (zat dd_L_law 57 rfl) rfl rfl ?_
        refine z_iload_n 3 (zat dd_L_law 58 rfl) rfl rfl ?_
        refine z_iconst (x := 1) (zat dd_L_law 59 rfl) (by decide) ?_
        refine z_iadd (zat dd_L_law 60 rfl) ?_
        refine z_sld hsc (zat dd_L_law 61 rfl) (fun x15 => ?_)
        refine z_aload_n 0 (zat dd_L_law 62 rfl) rfl rfl ?_
        refine z_iload_n 3 (zat dd_L_law 63 rfl) rfl rfl ?_
        refine z_iconst (x := 2) (zat dd_L_law 64 rfl) (by decide) ?_
        refine z_iadd (zat dd_L_law 65 rfl) ?_
        refine z_sld hsc (zat dd_L_law 66 rfl) (fun x16 => ?_)
        refine z_aload_n 0 (zat dd_L_law 67 rfl) rfl rfl ?_
        refine z_iload_n 3 (zat dd_L_law 68 rfl) rfl rfl ?_
        refine z_iconst (x := 3) (zat dd_L_law 69 rfl) (by decide) ?_
        refine z_iadd (zat dd_L_law 70 rfl) ?_
        refine z_sld hsc (zat dd_L_law 71 rfl) (fun x17 => ?_)
        refine z_callV_IL (M2 := M_X9_piece) [.int x15, .int x16, .int x17] (fun l D _ _ => m_X9_piece l D v1 x15 x16 x17 h) u_X9_piece ql_L_22 qi_X9_piece qs_X9_piece (ci := 5) rfl rfl rfl (Nat.le_of_ble_eq_true rfl) (by decide) (by decide) rfl rfl (zat dd_L_law 72 rfl) (fun x18 h19 => ?_)
        refine z_aload_n 2 (zat dd_L_law 73 rfl) rfl rfl ?_
        refine z_aload_n 0 (zat dd_L_law 74 rfl) rfl rfl ?_
        refine z_iload_n 3 (zat dd_L_law 75 rfl) rfl rfl ?_
        refine z_iconst (x := 1) (zat dd_L_law 76 rfl) (by decide) ?_
        refine z_iadd (zat dd_L_law 77 rfl) ?_
        refine z_sld hsc (zat dd_L_law 78 rfl) (fun x20 => ?_)
        refine z_aload_n 0 (zat dd_L_law 79 rfl) rfl rfl ?_
        refine z_iload_n 3 (zat dd_L_law 80 rfl) rfl rfl ?_
        refine z_iconst (x := 2) (zat dd_L_law 81 rfl) (by decide) ?_
        refine z_iadd (zat dd_L_law 82 rfl) ?_
        refine z_sld hsc (zat dd_L_law 83 rfl) (fun x21 => ?_)
        refine z_aload_n 0 (zat dd_L_law 84 rfl) rfl rfl ?_
        refine z_iload_n 3 (zat dd_L_law 85 rfl) rfl rfl ?_
        refine z_iconst (x := 3) (zat dd_L_law 86 rfl) (by decide) ?_
        refine z_iadd (zat dd_L_law 87 rfl) ?_
        refine z_sld hsc (zat dd_L_law 88 rfl) (fun x22 => ?_)
        refine z_callV_IL (M2 := M_X10_piece) [.int x20, .int x21, .int x22] (fun l D _ _ => m_X10_piece l D v2 x20 x21 x22 h19) u_X10_piece ql_L_26 qi_X10_piece qs_X10_piece (ci := 6) rfl rfl rfl (Nat.le_of_ble_eq_true rfl) (by decide) (by decide) rfl rfl (zat dd_L_law 89 rfl) (fun x23 h24 => ?_)
        refine z_icmp_eq (tgt := 1012) (zat dd_L_law 90 rfl) (by decide) ?_ ?_
        · exact zb_L_law_1012 Y sb sN sx hsc (f_L_law_18 sN sx n) ih v1 v2 v3 h24
        · refine z_iconst (x := 0) (zat dd_L_law 91 rfl) (by decide) ?_
          exact z_zret rfl (zat dd_L_law 92 rfl)
      refine z_ite (fun c3 => ?_) (fun c3 => ?_)
      · refine z_tabIn (tgt := 281) 3 c3 (zat dd_L_law 21 rfl) (by decide) (by decide) rfl (by decide) ?_
        refine z_aload_n 1 (zat dd_L_law 93 rfl) rfl rfl ?_
        refine z_aload_n 0 (zat dd_L_law 94 rfl) rfl rfl ?_
        refine z_iload_n 3 (zat dd_L_law 95 rfl) rfl rfl ?_
        refine z_iconst (x := 1) (zat dd_L_law 96 rfl) (by decide) ?_
        refine z_iadd (zat dd_L_law 97 rfl) ?_
        refine z_sld hsc (zat dd_L_law 98 rfl) (fun x25 => ?_)
        refine z_callV_IL (M2 := M_X9_type) [.int x25] (fun l D _ _ => m_X9_type l D v1 x25 h) u_X9_type ql_L_27 qi_X9_type qs_X9_type (ci := 5) rfl rfl rfl (Nat.le_of_ble_eq_true rfl) (by decide) (by decide) rfl rfl (zat dd_L_law 99 rfl) (fun x26 h27 => ?_)
        refine z_aload_n 2 (zat dd_L_law 100 rfl) rfl rfl ?_
        refine z_aload_n 0 (zat dd_L_law 101 rfl) rfl rfl ?_
        refine z_iload_n 3 (zat dd_L_law 102 rfl) rfl rfl ?_
        refine z_iconst (x := 1) (zat dd_L_law 103 rfl) (by decide) ?_
        refine z_iadd (zat dd_L_law 104 rfl) ?_
        refine z_sld hsc (zat dd_L_law 105 rfl) (fun x28 => ?_)
        refine z_callV_IL (M2 := M_X10_type) [.int x28] (fun l D _ _ => m_X10_type l D v2 x28 h27) u_X10_type ql_L_30 qi_X10_type qs_X10_type (ci := 6) rfl rfl rfl (Nat.le_of_ble_eq_true rfl) (by decide) (by decide) rfl rfl (zat dd_L_law 106 rfl) (fun x29 h30 => ?_)
        refine z_icmp_eq (tgt := 1012) (zat dd_L_law 107 rfl) (by decide) ?_ ?_
        · exact zb_L_law_1012 Y sb sN sx hsc (f_L_law_18 sN sx n) ih v1 v2 v3 h30
        · refine z_iconst (x := 0) (zat dd_L_law 108 rfl) (by decide) ?_
          exact z_zret rfl (zat dd_L_law 109 rfl)
      refine z_ite (fun c4 => ?_) (fun c4 => ?_)
      · refine z_tabIn (tgt := 304) 4 c4 (zat dd_L_law 21 rfl) (by decide) (by decide) rfl (by decide) ?_
        refine z_aload_n 1 (zat dd_L_law 110 rfl) rfl rfl ?_
        refine z_callV_IL (M2 := M_X9_clear) [] (fun l D _ _ => m_X9_clear l D v1 h) u_X9_clear ql_L_31 qi_X9_clear qs_X9_clear (ci := 5) rfl rfl rfl (Nat.le_of_ble_eq_true rfl) (by decide) (by decide) rfl rfl (zat dd_L_law 111 rfl) (fun x31 h32 => ?_)
        refine z_aload_n 2 (zat dd_L_law 112 rfl) rfl rfl ?_
        refine z_callV_IL (M2 := M_X10_clear) [] (fun l D _ _ => m_X10_clear l D v2 h32) u_X10_clear ql_L_35 qi_X10_clear qs_X10_clear (ci := 6) rfl rfl rfl (Nat.le_of_ble_eq_true rfl) (by decide) (by decide) rfl rfl (zat dd_L_law 113 rfl) (fun x33 h34 => ?_)
        refine z_icmp_eq (tgt := 1012) (zat dd_L_law 114 rfl) (by decide) ?_ ?_
        · exact zb_L_law_1012 Y sb sN sx hsc (f_L_law_18 sN sx n) ih v1 v2 v3 h34
        · refine z_iconst (x := 0) (zat dd_L_law 115 rfl) (by decide) ?_
          exact z_zret rfl (zat dd_L_law 116 rfl)
      refine z_ite (fun c5 => ?_) (fun c5 => ?_)
      · refine z_tabIn (tgt := 317) 5 c5 (zat dd_L_law 21 rfl) (by decide) (by decide) rfl (by decide) ?_
        refine z_aload_n 1 (zat dd_L_law 117 rfl) rfl rfl ?_
        refine z_callV_IL (M2 := M_X9_read) [] (fun l D _ _ => m_X9_read l D v1 h) u_X9_read ql_L_36 qi_X9_read qs_X9_read (ci := 5) rfl rfl rfl (Nat.le_of_ble_eq_true rfl) (by decide) (by decide) rfl rfl (zat dd_L_law 118 rfl) (fun x35 h36 => ?_)
        refine z_aload_n 2 (zat dd_L_law 119 rfl) rfl rfl ?_
        refine z_callV_IL (M2 := M_X10_read) [] (fun l D _ _ => m_X10_read l D v2 h36) u_X10_read ql_L_39 qi_X10_read qs_X10_read (ci := 6) rfl rfl rfl (Nat.le_of_ble_eq_true rfl) (by decide) (by decide) rfl rfl (zat dd_L_law 120 rfl) (fun x37 h38 => ?_)
        refine z_icmp_eq (tgt := 1012) (zat dd_L_law 121 rfl) (by decide) ?_ ?_
        · exact zb_L_law_1012 Y sb sN sx hsc (f_L_law_18 sN sx n) ih v1 v2 v3 h38
        · refine z_iconst (x := 0) (zat dd_L_law 122 rfl) (by decide) ?_
          exact z_zret rfl (zat dd_L_law 123 rfl)
      refine z_ite (fun c6 => ?_) (fun c6 => ?_)
      · refine z_tabIn (tgt := 330) 6 c6 (zat dd_L_law 21 rfl) (by decide) (by decide) rfl (by decide) ?_
        refine z_aload_n 1 (zat dd_L_law 124 rfl) rfl rfl ?_
        refine z_aload_n 0 (zat dd_L_law 125 rfl) rfl rfl ?_
        refine z_iload_n 3 (zat dd_L_law 126 rfl) rfl rfl ?_
        refine z_iconst (x := 1) (zat dd_L_law 127 rfl) (by decide) ?_
        refine z_iadd (zat dd_L_law 128 rfl) ?_
        refine z_sld hsc (zat dd_L_law 129 rfl) (fun x39 => ?_)
        refine z_callV_IL (M2 := M_X9_puts) [.int x39] (fun l D _ _ => m_X9_puts l D v1 x39 h) u_X9_puts ql_L_40 qi_X9_puts qs_X9_puts (ci := 5) rfl rfl rfl (Nat.le_of_ble_eq_true rfl) (by decide) (by decide) rfl rfl (zat dd_L_law 130 rfl) (fun x40 h41 => ?_)
        refine z_aload_n 2 (zat dd_L_law 131 rfl) rfl rfl ?_
        refine z_aload_n 0 (zat dd_L_law 132 rfl) rfl rfl ?_
        refine z_iload_n 3 (zat dd_L_law 133 rfl) rfl rfl ?_
        refine z_iconst (x := 1) (zat dd_L_law 134 rfl) (by decide) ?_
        refine z_iadd (zat dd_L_law 135 rfl) ?_
        refine z_sld hsc (zat dd_L_law 136 rfl) (fun x42 => ?_)
        refine z_callV_IL (M2 := M_X10_puts) [.int x42] (fun l D _ _ => m_X10_puts l D v2 x42 h41) u_X10_puts ql_L_43 qi_X10_puts qs_X10_puts (ci := 6) rfl rfl rfl (Nat.le_of_ble_eq_true rfl) (by decide) (by decide) rfl rfl (zat dd_L_law 137 rfl) (fun x43 h44 => ?_)
        refine z_icmp_eq (tgt := 1012) (zat dd_L_law 138 rfl) (by decide) ?_ ?_
        · exact zb_L_law_1012 Y sb sN sx hsc (f_L_law_18 sN sx n) ih v1 v2 v3 h44
        · refine z_iconst (x := 0) (zat dd_L_law 139 rfl) (by decide) ?_
          exact z_zret rfl (zat dd_L_law 140 rfl)
      refine z_ite (fun c7 => ?_) (fun c7 => ?_)
      · refine z_tabIn (tgt := 353) 7 c7 (zat dd_L_law 21 rfl) (by decide) (by decide) rfl (by decide) ?_
        refine z_aload_n 1 (zat dd_L_law 141 rfl) rfl rfl ?_
        refine z_aload_n 0 (zat dd_L_law 142 rfl) rfl rfl ?_
        refine z_iload_n 3 (zat dd_L_law 143 rfl) rfl rfl ?_
        refine z_iconst (x := 1) (zat dd_L_law 144 rfl) (by decide) ?_
        refine z_iadd (zat dd_L_law 145 rfl) ?_
        refine z_sld hsc (zat dd_L_law 146 rfl) (fun x45 => ?_)
        refine z_callV_IL (M2 := M_X9_takes) [.int x45] (fun l D _ _ => m_X9_takes l D v1 x45 h) u_X9_takes ql_L_44 qi_X9_takes qs_X9_takes (ci := 5) rfl rfl rfl (Nat.le_of_ble_eq_true rfl) (by decide) (by decide) rfl rfl (zat dd_L_law 147 rfl) (fun x46 h47 => ?_)
        refine z_aload_n 2 (zat dd_L_law 148 rfl) rfl rfl ?_
        refine z_aload_n 0 (zat dd_L_law 149 rfl) rfl rfl ?_
        refine z_iload_n 3 (zat dd_L_law 150 rfl) rfl rfl ?_
        refine z_iconst (x := 1) (zat dd_L_law 151 rfl) (by decide) ?_
        refine z_iadd (zat dd_L_law 152 rfl) ?_
        refine z_sld hsc (zat dd_L_law 153 rfl) (fun x48 => ?_)
        refine z_callV_IL (M2 := M_X10_takes) [.int x48] (fun l D _ _ => m_X10_takes l D v2 x48 h47) u_X10_takes ql_L_47 qi_X10_takes qs_X10_takes (ci := 6) rfl rfl rfl (Nat.le_of_ble_eq_true rfl) (by decide) (by decide) rfl rfl (zat dd_L_law 154 rfl) (fun x49 h50 => ?_)
        refine z_icmp_eq (tgt := 1012) (zat dd_L_law 155 rfl) (by decide) ?_ ?_
        · exact zb_L_law_1012 Y sb sN sx hsc (f_L_law_18 sN sx n) ih v1 v2 v3 h50
        · refine z_iconst (x := 0) (zat dd_L_law 156 rfl) (by decide) ?_
          exact z_zret rfl (zat dd_L_law 157 rfl)
      refine z_ite (fun c8 => ?_) (fun c8 => ?_)
      · refine z_tabIn (tgt := 376) 8 c8 (zat dd_L_law 21 rfl) (by decide) (by decide) rfl (by decide) ?_
        refine z_aload_n 1 (zat dd_L_law 158 rfl) rfl rfl ?_
        refine z_aload_n 0 (zat dd_L_law 159 rfl) rfl rfl ?_
        refine z_iload_n 3 (zat dd_L_law 160 rfl) rfl rfl ?_
        refine z_iconst (x := 1) (zat dd_L_law 161 rfl) (by decide) ?_
        refine z_iadd (zat dd_L_law 162 rfl) ?_
        refine z_sld hsc (zat dd_L_law 163 rfl) (fun x51 => ?_)
        refine z_callV_IL (M2 := M_X9_mends) [.int x51] (fun l D _ _ => m_X9_mends l D v1 x51 h) u_X9_mends ql_L_48 qi_X9_mends qs_X9_mends (ci := 5) rfl rfl rfl (Nat.le_of_ble_eq_true rfl) (by decide) (by decide) rfl rfl (zat dd_L_law 164 rfl) (fun x52 h53 => ?_)
        refine z_aload_n 2 (zat dd_L_law 165 rfl) rfl rfl ?_
        refine z_aload_n 0 (zat dd_L_law 166 rfl) rfl rfl ?_
        refine z_iload_n 3 (zat dd_L_law 167 rfl) rfl rfl ?_
        refine z_iconst (x := 1) (zat dd_L_law 168 rfl) (by decide) ?_
        refine z_iadd (zat dd_L_law 169 rfl) ?_
        refine z_sld hsc (zat dd_L_law 170 rfl) (fun x54 => ?_)
        refine z_callV_IL (M2 := M_X10_mends) [.int x54] (fun l D _ _ => m_X10_mends l D v2 x54 h53) u_X10_mends ql_L_51 qi_X10_mends qs_X10_mends (ci := 6) rfl rfl rfl (Nat.le_of_ble_eq_true rfl) (by decide) (by decide) rfl rfl (zat dd_L_law 171 rfl) (fun x55 h56 => ?_)
        refine z_icmp_eq (tgt := 1012) (zat dd_L_law 172 rfl) (by decide) ?_ ?_
        · exact zb_L_law_1012 Y sb sN sx hsc (f_L_law_18 sN sx n) ih v1 v2 v3 h56
        · refine z_iconst (x := 0) (zat dd_L_law 173 rfl) (by decide) ?_
          exact z_zret rfl (zat dd_L_law 174 rfl)
      refine z_ite (fun c9 => ?_) (fun c9 => ?_)
      · refine z_tabIn (tgt := 399) 9 c9 (zat dd_L_law 21 rfl) (by decide) (by decide) rfl (by decide) ?_
        refine z_aload_n 1 (zat dd_L_law 175 rfl) rfl rfl ?_
        refine z_callV_IL (M2 := M_X9_undo) [] (fun l D _ _ => m_X9_undo l D v1 h) u_X9_undo ql_L_52 qi_X9_undo qs_X9_undo (ci := 5) rfl rfl rfl (Nat.le_of_ble_eq_true rfl) (by decide) (by decide) rfl rfl (zat dd_L_law 176 rfl) (fun x57 h58 => ?_)
        refine z_aload_n 2 (zat dd_L_law 177 rfl) rfl rfl ?_
        refine z_callV_IL (M2 := M_X10_undo) [] (fun l D _ _ => m_X10_undo l D v2 h58) u_X10_undo ql_L_55 qi_X10_undo qs_X10_undo (ci := 6) rfl rfl rfl (Nat.le_of_ble_eq_true rfl) (by decide) (by decide) rfl rfl (zat dd_L_law 178 rfl) (fun x59 h60 => ?_)
        refine z_icmp_eq (tgt := 1012) (zat dd_L_law 179 rfl) (by decide) ?_ ?_
        · exact zb_L_law_1012 Y sb sN sx hsc (f_L_law_18 sN sx n) ih v1 v2 v3 h60
        · refine z_iconst (x := 0) (zat dd_L_law 180 rfl) (by decide) ?_
          exact z_zret rfl (zat dd_L_law 181 rfl)
      refine z_ite (fun c10 => ?_) (fun c10 => ?_)
      · refine z_tabIn (tgt := 412) 10 c10 (zat dd_L_law 21 rfl) (by decide) (by decide) rfl (by decide) ?_
        refine z_aload_n 1 (zat dd_L_law 182 rfl) rfl rfl ?_
        refine z_aload_n 0 (zat dd_L_law 183 rfl) rfl rfl ?_
        refine z_iload_n 3 (zat dd_L_law 184 rfl) rfl rfl ?_
        refine z_iconst (x := 1) (zat dd_L_law 185 rfl) (by decide) ?_
        refine z_iadd (zat dd_L_law 186 rfl) ?_
        refine z_sld hsc (zat dd_L_law 187 rfl) (fun x61 => ?_)
        refine z_aload_n 0 (zat dd_L_law 188 rfl) rfl rfl ?_
        refine z_iload_n 3 (zat dd_L_law 189 rfl) rfl rfl ?_
        refine z_iconst (x := 2) (zat dd_L_law 190 rfl) (by decide) ?_
        refine z_iadd (zat dd_L_law 191 rfl) ?_
        refine z_sld hsc (zat dd_L_law 192 rfl) (fun x62 => ?_)
        refine z_callV_IL (M2 := M_X9_of) [.int x61, .int x62] (fun l D _ _ => m_X9_of l D v1 x61 x62 h) u_X9_of ql_L_56 qi_X9_of qs_X9_of (ci := 5) rfl rfl rfl (Nat.le_of_ble_eq_true rfl) (by decide) (by decide) rfl rfl (zat dd_L_law 193 rfl) (fun x63 h64 => ?_)
        refine z_aload_n 2 (zat dd_L_law 194 rfl) rfl rfl ?_
        refine z_aload_n 0 (zat dd_L_law 195 rfl) rfl rfl ?_
        refine z_iload_n 3 (zat dd_L_law 196 rfl) rfl rfl ?_
        refine z_iconst (x := 1) (zat dd_L_law 197 rfl) (by decide) ?_
        refine z_iadd (zat dd_L_law 198 rfl) ?_
        refine z_sld hsc (zat dd_L_law 199 rfl) (fun x65 => ?_)
        refine z_aload_n 0 (zat dd_L_law 200 rfl) rfl rfl ?_
        refine z_iload_n 3 (zat dd_L_law 201 rfl) rfl rfl ?_
        refine z_iconst (x := 2) (zat dd_L_law 202 rfl) (by decide) ?_
        refine z_iadd (zat dd_L_law 203 rfl) ?_
        refine z_sld hsc (zat dd_L_law 204 rfl) (fun x66 => ?_)
        refine z_callV_IL (M2 := M_X10_of) [.int x65, .int x66] (fun l D _ _ => m_X10_of l D v2 x65 x66 h64) u_X10_of ql_L_60 qi_X10_of qs_X10_of (ci := 6) rfl rfl rfl (Nat.le_of_ble_eq_true rfl) (by decide) (by decide) rfl rfl (zat dd_L_law 205 rfl) (fun x67 h68 => ?_)
        refine z_icmp_eq (tgt := 1012) (zat dd_L_law 206 rfl) (by decide) ?_ ?_
        · exact zb_L_law_1012 Y sb sN sx hsc (f_L_law_18 sN sx n) ih v1 v2 v3 h68
        · refine z_iconst (x := 0) (zat dd_L_law 207 rfl) (by decide) ?_
          exact z_zret rfl (zat dd_L_law 208 rfl)
      refine z_ite (fun c11 => ?_) (fun c11 => ?_)
      · refine z_tabIn (tgt := 445) 11 c11 (zat dd_L_law 21 rfl) (by decide) (by decide) rfl (by decide) ?_
        refine z_aload_n 1 (zat dd_L_law 209 rfl) rfl rfl ?_
        refine z_aload_n 0 (zat dd_L_law 210 rfl) rfl rfl ?_
        refine z_iload_n 3 (zat dd_L_law 211 rfl) rfl rfl ?_
        refine z_iconst (x := 1) (zat dd_L_law 212 rfl) (by decide) ?_
        refine z_iadd (zat dd_L_law 213 rfl) ?_
        refine z_sld hsc (zat dd_L_law 214 rfl) (fun x69 => ?_)
        refine z_callV_IL (M2 := M_X9_seen) [.int x69] (fun l D _ _ => m_X9_seen l D v1 x69 h) u_X9_seen ql_L_61 qi_X9_seen qs_X9_seen (ci := 5) rfl rfl rfl (Nat.le_of_ble_eq_true rfl) (by decide) (by decide) rfl rfl (zat dd_L_law 215 rfl) (fun x70 h71 => ?_)
        refine z_aload_n 2 (zat dd_L_law 216 rfl) rfl rfl ?_
        refine z_aload_n 0 (zat dd_L_law 217 rfl) rfl rfl ?_
        refine z_iload_n 3 (zat dd_L_law 218 rfl) rfl rfl ?_
        refine z_iconst (x := 1) (zat dd_L_law 219 rfl) (by decide) ?_
        refine z_iadd (zat dd_L_law 220 rfl) ?_
        refine z_sld hsc (zat dd_L_law 221 rfl) (fun x72 => ?_)
        refine z_callV_IL (M2 := M_X10_seen) [.int x72] (fun l D _ _ => m_X10_seen l D v2 x72 h71) u_X10_seen ql_L_64 qi_X10_seen qs_X10_seen (ci := 6) rfl rfl rfl (Nat.le_of_ble_eq_true rfl) (by decide) (by decide) rfl rfl (zat dd_L_law 222 rfl) (fun x73 h74 => ?_)
        refine z_icmp_eq (tgt := 1012) (zat dd_L_law 223 rfl) (by decide) ?_ ?_
        · exact zb_L_law_1012 Y sb sN sx hsc (f_L_law_18 sN sx n) ih v1 v2 v3 h74
        · refine z_iconst (x := 0) (zat dd_L_law 224 rfl) (by decide) ?_
          exact z_zret rfl (zat dd_L_law 225 rfl)
      refine z_ite (fun c12 => ?_) (fun c12 => ?_)
      · refine z_tabIn (tgt := 468) 12 c12 (zat dd_L_law 21 rfl) (by decide) (by decide) rfl (by decide) ?_
        refine z_aload_n 1 (zat dd_L_law 226 rfl) rfl rfl ?_
        refine z_callV_IL (M2 := M_X9_can) [] (fun l D _ _ => m_X9_can l D v1 h) u_X9_can ql_L_65 qi_X9_can qs_X9_can (ci := 5) rfl rfl rfl (Nat.le_of_ble_eq_true rfl) (by decide) (by decide) rfl rfl (zat dd_L_law 227 rfl) (fun x75 h76 => ?_)
        refine z_aload_n 2 (zat dd_L_law 228 rfl) rfl rfl ?_
        refine z_callV_IL (M2 := M_X10_can) [] (fun l D _ _ => m_X10_can l D v2 h76) u_X10_can ql_L_68 qi_X10_can qs_X10_can (ci := 6) rfl rfl rfl (Nat.le_of_ble_eq_true rfl) (by decide) (by decide) rfl rfl (zat dd_L_law 229 rfl) (fun x77 h78 => ?_)
        refine z_icmp_eq (tgt := 1012) (zat dd_L_law 230 rfl) (by decide) ?_ ?_
        · exact zb_L_law_1012 Y sb sN sx hsc (f_L_law_18 sN sx n) ih v1 v2 v3 h78
        · refine z_iconst (x := 0) (zat dd_L_law 231 rfl) (by decide) ?_
          exact z_zret rfl (zat dd_L_law 232 rfl)
      refine z_ite (fun c13 => ?_) (fun c13 => ?_)
      · refine z_tabIn (tgt := 481) 13 c13 (zat dd_L_law 21 rfl) (by decide) (by decide) rfl (by decide) ?_
        refine z_aload_n 1 (zat dd_L_law 233 rfl) rfl rfl ?_
        refine z_callV_IL (M2 := M_X9_off) [] (fun l D _ _ => m_X9_off l D v1 h) u_X9_off ql_L_69 qi_X9_off qs_X9_off (ci := 5) rfl rfl rfl (Nat.le_of_ble_eq_true rfl) (by decide) (by decide) rfl rfl (zat dd_L_law 234 rfl) (fun x79 h80 => ?_)
        refine z_aload_n 2 (zat dd_L_law 235 rfl) rfl rfl ?_
        refine z_callV_IL (M2 := M_X10_off) [] (fun l D _ _ => m_X10_off l D v2 h80) u_X10_off ql_L_72 qi_X10_off qs_X10_off (ci := 6) rfl rfl rfl (Nat.le_of_ble_eq_true rfl) (by decide) (by decide) rfl rfl (zat dd_L_law 236 rfl) (fun x81 h82 => ?_)
        refine z_icmp_eq (tgt := 1012) (zat dd_L_law 237 rfl) (by decide) ?_ ?_
        · exact zb_L_law_1012 Y sb sN sx hsc (f_L_law_18 sN sx n) ih v1 v2 v3 h82
        · refine z_iconst (x := 0) (zat dd_L_law 238 rfl) (by decide) ?_
          exact z_zret rfl (zat dd_L_law 239 rfl)
      refine z_ite (fun c14 => ?_) (fun c14 => ?_)
      · refine z_tabIn (tgt := 494) 14 c14 (zat dd_L_law 21 rfl) (by decide) (by decide) rfl (by decide) ?_
        refine z_aload_n 1 (zat dd_L_law 240 rfl) rfl rfl ?_
        refine z_aload_n 0 (zat dd_L_law 241 rfl) rfl rfl ?_
        refine z_iload_n 3 (zat dd_L_law 242 rfl) rfl rfl ?_
        refine z_iconst (x := 1) (zat dd_L_law 243 rfl) (by decide) ?_
        refine z_iadd (zat dd_L_law 244 rfl) ?_
        refine z_sld hsc (zat dd_L_law 245 rfl) (fun x83 => ?_)
        refine z_callV_IL (M2 := M_X9_going) [.int x83] (fun l D _ _ => m_X9_going l D v1 x83 h) u_X9_going ql_L_73 qi_X9_going qs_X9_going (ci := 5) rfl rfl rfl (Nat.le_of_ble_eq_true rfl) (by decide) (by decide) rfl rfl (zat dd_L_law 246 rfl) (fun x84 h85 => ?_)
        refine z_aload_n 2 (zat dd_L_law 247 rfl) rfl rfl ?_
        refine z_aload_n 0 (zat dd_L_law 248 rfl) rfl rfl ?_
        refine z_iload_n 3 (zat dd_L_law 249 rfl) rfl rfl ?_
        refine z_iconst (x := 1) (zat dd_L_law 250 rfl) (by decide) ?_
        refine z_iadd (zat dd_L_law 251 rfl) ?_
        refine z_sld hsc (zat dd_L_law 252 rfl) (fun x86 => ?_)
        refine z_callV_IL (M2 := M_X10_going) [.int x86] (fun l D _ _ => m_X10_going l D v2 x86 h85) u_X10_going ql_L_76 qi_X10_going qs_X10_going (ci := 6) rfl rfl rfl (Nat.le_of_ble_eq_true rfl) (by decide) (by decide) rfl rfl (zat dd_L_law 253 rfl) (fun x87 h88 => ?_)
        refine z_icmp_eq (tgt := 1012) (zat dd_L_law 254 rfl) (by decide) ?_ ?_
        · exact zb_L_law_1012 Y sb sN sx hsc (f_L_law_18 sN sx n) ih v1 v2 v3 h88
        · refine z_iconst (x := 0) (zat dd_L_law 255 rfl) (by decide) ?_
          exact z_zret rfl (zat dd_L_law 256 rfl)
      refine z_ite (fun c15 => ?_) (fun c15 => ?_)
      · refine z_tabIn (tgt := 517) 15 c15 (zat dd_L_law 21 rfl) (by decide) (by decide) rfl (by decide) ?_
        refine z_aload_n 1 (zat dd_L_law 257 rfl) rfl rfl ?_
        refine z_aload_n 0 (zat dd_L_law 258 rfl) rfl rfl ?_
        refine z_iload_n 3 (zat dd_L_law 259 rfl) rfl rfl ?_
        refine z_iconst (x := 1) (zat dd_L_law 260 rfl) (by decide) ?_
        refine z_iadd (zat dd_L_law 261 rfl) ?_
        refine z_sld hsc (zat dd_L_law 262 rfl) (fun x89 => ?_)
        refine z_callV_IL (M2 := M_X9_outfits) [.int x89] (fun l D _ _ => m_X9_outfits l D v1 x89 h) u_X9_outfits ql_L_77 qi_X9_outfits qs_X9_outfits (ci := 5) rfl rfl rfl (Nat.le_of_ble_eq_true rfl) (by decide) (by decide) rfl rfl (zat dd_L_law 263 rfl) (fun x90 h91 => ?_)
        refine z_aload_n 2 (zat dd_L_law 264 rfl) rfl rfl ?_
        refine z_aload_n 0 (zat dd_L_law 265 rfl) rfl rfl ?_
        refine z_iload_n 3 (zat dd_L_law 266 rfl) rfl rfl ?_
        refine z_iconst (x := 1) (zat dd_L_law 267 rfl) (by decide) ?_
        refine z_iadd (zat dd_L_law 268 rfl) ?_
        refine z_sld hsc (zat dd_L_law 269 rfl) (fun x92 => ?_)
        refine z_callV_IL (M2 := M_X10_outfits) [.int x92] (fun l D _ _ => m_X10_outfits l D v2 x92 h91) u_X10_outfits ql_L_80 qi_X10_outfits qs_X10_outfits (ci := 6) rfl rfl rfl (Nat.le_of_ble_eq_true rfl) (by decide) (by decide) rfl rfl (zat dd_L_law 270 rfl) (fun x93 h94 => ?_)
        refine z_icmp_eq (tgt := 1012) (zat dd_L_law 271 rfl) (by decide) ?_ ?_
        · exact zb_L_law_1012 Y sb sN sx hsc (f_L_law_18 sN sx n) ih v1 v2 v3 h94
        · refine z_iconst (x := 0) (zat dd_L_law 272 rfl) (by decide) ?_
          exact z_zret rfl (zat dd_L_law 273 rfl)
      refine z_ite (fun c16 => ?_) (fun c16 => ?_)
      · refine z_tabIn (tgt := 540) 16 c16 (zat dd_L_law 21 rfl) (by decide) (by decide) rfl (by decide) ?_
        refine z_aload_n 1 (zat dd_L_law 274 rfl) rfl rfl ?_
        refine z_aload_n 0 (zat dd_L_law 275 rfl) rfl rfl ?_
        refine z_iload_n 3 (zat dd_L_law 276 rfl) rfl rfl ?_
        refine z_iconst (x := 1) (zat dd_L_law 277 rfl) (by decide) ?_
        refine z_iadd (zat dd_L_law 278 rfl) ?_
        refine z_sld hsc (zat dd_L_law 279 rfl) (fun x95 => ?_)
        refine z_callV_IL (M2 := M_X9_lean) [.int x95] (fun l D _ _ => m_X9_lean l D v1 x95 h) u_X9_lean ql_L_81 qi_X9_lean qs_X9_lean (ci := 5) rfl rfl rfl (Nat.le_of_ble_eq_true rfl) (by decide) (by decide) rfl rfl (zat dd_L_law 280 rfl) (fun x96 h97 => ?_)
        refine z_aload_n 2 (zat dd_L_law 281 rfl) rfl rfl ?_
        refine z_aload_n 0 (zat dd_L_law 282 rfl) rfl rfl ?_
        refine z_iload_n 3 (zat dd_L_law 283 rfl) rfl rfl ?_
        refine z_iconst (x := 1) (zat dd_L_law 284 rfl) (by decide) ?_
        refine z_iadd (zat dd_L_law 285 rfl) ?_
        refine z_sld hsc (zat dd_L_law 286 rfl) (fun x98 => ?_)
        refine z_callV_IL (M2 := M_X10_lean) [.int x98] (fun l D _ _ => m_X10_lean l D v2 x98 h97) u_X10_lean ql_L_84 qi_X10_lean qs_X10_lean (ci := 6) rfl rfl rfl (Nat.le_of_ble_eq_true rfl) (by decide) (by decide) rfl rfl (zat dd_L_law 287 rfl) (fun x99 h100 => ?_)
        refine z_icmp_eq (tgt := 1012) (zat dd_L_law 288 rfl) (by decide) ?_ ?_
        · exact zb_L_law_1012 Y sb sN sx hsc (f_L_law_18 sN sx n) ih v1 v2 v3 h100
        · refine z_iconst (x := 0) (zat dd_L_law 289 rfl) (by decide) ?_
          exact z_zret rfl (zat dd_L_law 290 rfl)
      refine z_ite (fun c17 => ?_) (fun c17 => ?_)
      · refine z_tabIn (tgt := 563) 17 c17 (zat dd_L_law 21 rfl) (by decide) (by decide) rfl (by decide) ?_
        refine z_aload_n 1 (zat dd_L_law 291 rfl) rfl rfl ?_
        refine z_callV_IL (M2 := M_X9_days) [] (fun l D _ _ => m_X9_days l D v1 h) u_X9_days ql_L_85 qi_X9_days qs_X9_days (ci := 5) rfl rfl rfl (Nat.le_of_ble_eq_true rfl) (by decide) (by decide) rfl rfl (zat dd_L_law 292 rfl) (fun x101 h102 => ?_)
        refine z_aload_n 2 (zat dd_L_law 293 rfl) rfl rfl ?_
        refine z_callV_IL (M2 := M_X10_days) [] (fun l D _ _ => m_X10_days l D v2 h102) u_X10_days ql_L_88 qi_X10_days qs_X10_days (ci := 6) rfl rfl rfl (Nat.le_of_ble_eq_true rfl) (by decide) (by decide) rfl rfl (zat dd_L_law 294 rfl) (fun x103 h104 => ?_)
        refine z_icmp_eq (tgt := 1012) (zat dd_L_law 295 rfl) (by decide) ?_ ?_
        · exact zb_L_law_1012 Y sb sN sx hsc (f_L_law_18 sN sx n) ih v1 v2 v3 h104
        · refine z_iconst (x := 0) (zat dd_L_law 296 rfl) (by decide) ?_
          exact z_zret rfl (zat dd_L_law 297 rfl)
      refine z_ite (fun c18 => ?_) (fun c18 => ?_)
      · refine z_tabIn (tgt := 576) 18 c18 (zat dd_L_law 21 rfl) (by decide) (by decide) rfl (by decide) ?_
        refine z_aload_n 1 (zat dd_L_law 298 rfl) rfl rfl ?_
        refine z_callV_IL (M2 := M_X9_spared) [] (fun l D _ _ => m_X9_spared l D v1 h) u_X9_spared ql_L_89 qi_X9_spared qs_X9_spared (ci := 5) rfl rfl rfl (Nat.le_of_ble_eq_true rfl) (by decide) (by decide) rfl rfl (zat dd_L_law 299 rfl) (fun x105 h106 => ?_)
        refine z_aload_n 2 (zat dd_L_law 300 rfl) rfl rfl ?_
        refine z_callV_IL (M2 := M_X10_spared) [] (fun l D _ _ => m_X10_spared l D v2 h106) u_X10_spared ql_L_92 qi_X10_spared qs_X10_spared (ci := 6) rfl rfl rfl (Nat.le_of_ble_eq_true rfl) (by decide) (by decide) rfl rfl (zat dd_L_law 301 rfl) (fun x107 h108 => ?_)
        refine z_icmp_eq (tgt := 1012) (zat dd_L_law 302 rfl) (by decide) ?_ ?_
        · exact zb_L_law_1012 Y sb sN sx hsc (f_L_law_18 sN sx n) ih v1 v2 v3 h108
        · refine z_iconst (x := 0) (zat dd_L_law 303 rfl) (by decide) ?_
          exact z_zret rfl (zat dd_L_law 304 rfl)
      refine z_ite (fun c19 => ?_) (fun c19 => ?_)
      · refine z_tabIn (tgt := 589) 19 c19 (zat dd_L_law 21 rfl) (by decide) (by decide) rfl (by decide) ?_
        refine z_aload_n 1 (zat dd_L_law 305 rfl) rfl rfl ?_
        refine z_aload_n 0 (zat dd_L_law 306 rfl) rfl rfl ?_
        refine z_iload_n 3 (zat dd_L_law 307 rfl) rfl rfl ?_
        refine z_iconst (x := 1) (zat dd_L_law 308 rfl) (by decide) ?_
        refine z_iadd (zat dd_L_law 309 rfl) ?_
        refine z_sld hsc (zat dd_L_law 310 rfl) (fun x109 => ?_)
        refine z_callV_IL (M2 := M_X9_few) [.int x109] (fun l D _ _ => m_X9_few l D v1 x109 h) u_X9_few ql_L_93 qi_X9_few qs_X9_few (ci := 5) rfl rfl rfl (Nat.le_of_ble_eq_true rfl) (by decide) (by decide) rfl rfl (zat dd_L_law 311 rfl) (fun x110 h111 => ?_)
        refine z_aload_n 2 (zat dd_L_law 312 rfl) rfl rfl ?_
        refine z_aload_n 0 (zat dd_L_law 313 rfl) rfl rfl ?_
        refine z_iload_n 3 (zat dd_L_law 314 rfl) rfl rfl ?_
        refine z_iconst (x := 1) (zat dd_L_law 315 rfl) (by decide) ?_
        refine z_iadd (zat dd_L_law 316 rfl) ?_
        refine z_sld hsc (zat dd_L_law 317 rfl) (fun x112 => ?_)
        refine z_callV_IL (M2 := M_X10_few) [.int x112] (fun l D _ _ => m_X10_few l D v2 x112 h111) u_X10_few ql_L_96 qi_X10_few qs_X10_few (ci := 6) rfl rfl rfl (Nat.le_of_ble_eq_true rfl) (by decide) (by decide) rfl rfl (zat dd_L_law 318 rfl) (fun x113 h114 => ?_)
        refine z_icmp_eq (tgt := 1012) (zat dd_L_law 319 rfl) (by decide) ?_ ?_
        · exact zb_L_law_1012 Y sb sN sx hsc (f_L_law_18 sN sx n) ih v1 v2 v3 h114
        · refine z_iconst (x := 0) (zat dd_L_law 320 rfl) (by decide) ?_
          exact z_zret rfl (zat dd_L_law 321 rfl)
      refine z_ite (fun c20 => ?_) (fun c20 => ?_)
      · refine z_tabIn (tgt := 612) 20 c20 (zat dd_L_law 21 rfl) (by decide) (by decide) rfl (by decide) ?_
        refine z_aload_n 1 (zat dd_L_law 322 rfl) rfl rfl ?_
        refine z_aload_n 0 (zat dd_L_law 323 rfl) rfl rfl ?_
        refine z_iload_n 3 (zat dd_L_law 324 rfl) rfl rfl ?_
        refine z_iconst (x := 1) (zat dd_L_law 325 rfl) (by decide) ?_
        refine z_iadd (zat dd_L_law 326 rfl) ?_
        refine z_sld hsc (zat dd_L_law 327 rfl) (fun x115 => ?_)
        refine z_aload_n 0 (zat dd_L_law 328 rfl) rfl rfl ?_
        refine z_iload_n 3 (zat dd_L_law 329 rfl) rfl rfl ?_
        refine z_iconst (x := 2) (zat dd_L_law 330 rfl) (by decide) ?_
        refine z_iadd (zat dd_L_law 331 rfl) ?_
        refine z_sld hsc (zat dd_L_law 332 rfl) (fun x116 => ?_)
        refine z_aload_n 0 (zat dd_L_law 333 rfl) rfl rfl ?_
        refine z_iload_n 3 (zat dd_L_law 334 rfl) rfl rfl ?_
        refine z_iconst (x := 3) (zat dd_L_law 335 rfl) (by decide) ?_
        refine z_iadd (zat dd_L_law 336 rfl) ?_
        refine z_sld hsc (zat dd_L_law 337 rfl) (fun x117 => ?_)
        refine z_callV_IL (M2 := M_X9_note) [.int x115, .int x116, .int x117] (fun l D _ _ => m_X9_note l D v1 x115 x116 x117 h) u_X9_note ql_L_97 qi_X9_note qs_X9_note (ci := 5) rfl rfl rfl (Nat.le_of_ble_eq_true rfl) (by decide) (by decide) rfl rfl (zat dd_L_law 338 rfl) (fun x118 h119 => ?_)
        refine z_aload_n 2 (zat dd_L_law 339 rfl) rfl rfl ?_
        refine z_aload_n 0 (zat dd_L_law 340 rfl) rfl rfl ?_
        refine z_iload_n 3 (zat dd_L_law 341 rfl) rfl rfl ?_
        refine z_iconst (x := 1) (zat dd_L_law 342 rfl) (by decide) ?_
        refine z_iadd (zat dd_L_law 343 rfl) ?_
        refine z_sld hsc (zat dd_L_law 344 rfl) (fun x120 => ?_)
        refine z_aload_n 0 (zat dd_L_law 345 rfl) rfl rfl ?_
        refine z_iload_n 3 (zat dd_L_law 346 rfl) rfl rfl ?_
        refine z_iconst (x := 2) (zat dd_L_law 347 rfl) (by decide) ?_
        refine z_iadd (zat dd_L_law 348 rfl) ?_
        refine z_sld hsc (zat dd_L_law 349 rfl) (fun x121 => ?_)
        refine z_aload_n 0 (zat dd_L_law 350 rfl) rfl rfl ?_
        refine z_iload_n 3 (zat dd_L_law 351 rfl) rfl rfl ?_
        refine z_iconst (x := 3) (zat dd_L_law 352 rfl) (by decide) ?_
        refine z_iadd (zat dd_L_law 353 rfl) ?_
        refine z_sld hsc (zat dd_L_law 354 rfl) (fun x122 => ?_)
        refine z_callV_IL (M2 := M_X10_note) [.int x120, .int x121, .int x122] (fun l D _ _ => m_X10_note l D v2 x120 x121 x122 h119) u_X10_note ql_L_100 qi_X10_note qs_X10_note (ci := 6) rfl rfl rfl (Nat.le_of_ble_eq_true rfl) (by decide) (by decide) rfl rfl (zat dd_L_law 355 rfl) (fun x123 h124 => ?_)
        refine z_icmp_eq (tgt := 1012) (zat dd_L_law 356 rfl) (by decide) ?_ ?_
        · exact zb_L_law_1012 Y sb sN sx hsc (f_L_law_18 sN sx n) ih v1 v2 v3 h124
        · refine z_iconst (x := 0) (zat dd_L_law 357 rfl) (by decide) ?_
          exact z_zret rfl (zat dd_L_law 358 rfl)
      refine z_ite (fun c21 => ?_) (fun c21 => ?_)
      · refine z_tabIn (tgt := 655) 21 c21 (zat dd_L_law 21 rfl) (by decide) (by decide) rfl (by decide) ?_
        refine z_aload_n 1 (zat dd_L_law 359 rfl) rfl rfl ?_
        refine z_aload_n 0 (zat dd_L_law 360 rfl) rfl rfl ?_
        refine z_iload_n 3 (zat dd_L_law 361 rfl) rfl rfl ?_
        refine z_iconst (x := 1) (zat dd_L_law 362 rfl) (by decide) ?_
        refine z_iadd (zat dd_L_law 363 rfl) ?_
        refine z_sld hsc (zat dd_L_law 364 rfl) (fun x125 => ?_)
        refine z_aload_n 0 (zat dd_L_law 365 rfl) rfl rfl ?_
        refine z_iload_n 3 (zat dd_L_law 366 rfl) rfl rfl ?_
        refine z_iconst (x := 2) (zat dd_L_law 367 rfl) (by decide) ?_
        refine z_iadd (zat dd_L_law 368 rfl) ?_
        refine z_sld hsc (zat dd_L_law 369 rfl) (fun x126 => ?_)
        refine z_aload_n 0 (zat dd_L_law 370 rfl) rfl rfl ?_
        refine z_iload_n 3 (zat dd_L_law 371 rfl) rfl rfl ?_
        refine z_iconst (x := 3) (zat dd_L_law 372 rfl) (by decide) ?_
        refine z_iadd (zat dd_L_law 373 rfl) ?_
        refine z_sld hsc (zat dd_L_law 374 rfl) (fun x127 => ?_)
        refine z_aload_n 0 (zat dd_L_law 375 rfl) rfl rfl ?_
        refine z_iload_n 3 (zat dd_L_law 376 rfl) rfl rfl ?_
        refine z_iconst (x := 4) (zat dd_L_law 377 rfl) (by decide) ?_
        refine z_iadd (zat dd_L_law 378 rfl) ?_
        refine z_sld hsc (zat dd_L_law 379 rfl) (fun x128 => ?_)
        refine z_callV_IL (M2 := M_X9_mark) [.int x125, .int x126, .int x127, .int x128] (fun l D _ _ => m_X9_mark l D v1 x125 x126 x127 x128 h) u_X9_mark ql_L_101 qi_X9_mark qs_X9_mark (ci := 5) rfl rfl rfl (Nat.le_of_ble_eq_true rfl) (by decide) (by decide) rfl rfl (zat dd_L_law 380 rfl) (fun x129 h130 => ?_)
        refine z_aload_n 2 (zat dd_L_law 381 rfl) rfl rfl ?_
        refine z_aload_n 0 (zat dd_L_law 382 rfl) rfl rfl ?_
        refine z_iload_n 3 (zat dd_L_law 383 rfl) rfl rfl ?_
        refine z_iconst (x := 1) (zat dd_L_law 384 rfl) (by decide) ?_
        refine z_iadd (zat dd_L_law 385 rfl) ?_
        refine z_sld hsc (zat dd_L_law 386 rfl) (fun x131 => ?_)
        refine z_aload_n 0 (zat dd_L_law 387 rfl) rfl rfl ?_
        refine z_iload_n 3 (zat dd_L_law 388 rfl) rfl rfl ?_
        refine z_iconst (x := 2) (zat dd_L_law 389 rfl) (by decide) ?_
        refine z_iadd (zat dd_L_law 390 rfl) ?_
        refine z_sld hsc (zat dd_L_law 391 rfl) (fun x132 => ?_)
        refine z_aload_n 0 (zat dd_L_law 392 rfl) rfl rfl ?_
        refine z_iload_n 3 (zat dd_L_law 393 rfl) rfl rfl ?_
        refine z_iconst (x := 3) (zat dd_L_law 394 rfl) (by decide) ?_
        refine z_iadd (zat dd_L_law 395 rfl) ?_
        refine z_sld hsc (zat dd_L_law 396 rfl) (fun x133 => ?_)
        refine z_aload_n 0 (zat dd_L_law 397 rfl) rfl rfl ?_
        refine z_iload_n 3 (zat dd_L_law 398 rfl) rfl rfl ?_
        refine z_iconst (x := 4) (zat dd_L_law 399 rfl) (by decide) ?_
        refine z_iadd (zat dd_L_law 400 rfl) ?_
        refine z_sld hsc (zat dd_L_law 401 rfl) (fun x134 => ?_)
        refine z_callV_IL (M2 := M_X10_mark) [.int x131, .int x132, .int x133, .int x134] (fun l D _ _ => m_X10_mark l D v2 x131 x132 x133 x134 h130) u_X10_mark ql_L_105 qi_X10_mark qs_X10_mark (ci := 6) rfl rfl rfl (Nat.le_of_ble_eq_true rfl) (by decide) (by decide) rfl rfl (zat dd_L_law 402 rfl) (fun x135 h136 => ?_)
        refine z_icmp_eq (tgt := 1012) (zat dd_L_law 403 rfl) (by decide) ?_ ?_
        · exact zb_L_law_1012 Y sb sN sx hsc (f_L_law_18 sN sx n) ih v1 v2 v3 h136
        · refine z_iconst (x := 0) (zat dd_L_law 404 rfl) (by decide) ?_
          exact z_zret rfl (zat dd_L_law 405 rfl)
      refine z_ite (fun c22 => ?_) (fun c22 => ?_)
      · refine z_tabIn (tgt := 708) 22 c22 (zat dd_L_law 21 rfl) (by decide) (by decide) rfl (by decide) ?_
        refine z_aload_n 1 (zat dd_L_law 406 rfl) rfl rfl ?_
        refine z_aload_n 0 (zat dd_L_law 407 rfl) rfl rfl ?_
        refine z_iload_n 3 (zat dd_L_law 408 rfl) rfl rfl ?_
        refine z_iconst (x := 1) (zat dd_L_law 409 rfl) (by decide) ?_
        refine z_iadd (zat dd_L_law 410 rfl) ?_
        refine z_sld hsc (zat dd_L_law 411 rfl) (fun x137 => ?_)
        refine z_callV_IL (M2 := M_X9_forget) [.int x137] (fun l D _ _ => m_X9_forget l D v1 x137 h) u_X9_forget ql_L_106 qi_X9_forget qs_X9_forget (ci := 5) rfl rfl rfl (Nat.le_of_ble_eq_true rfl) (by decide) (by decide) rfl rfl (zat dd_L_law 412 rfl) (fun x138 h139 => ?_)
        refine z_aload_n 2 (zat dd_L_law 413 rfl) rfl rfl ?_
        refine z_aload_n 0 (zat dd_L_law 414 rfl) rfl rfl ?_
        refine z_iload_n 3 (zat dd_L_law 415 rfl) rfl rfl ?_
        refine z_iconst (x := 1) (zat dd_L_law 416 rfl) (by decide) ?_
        refine z_iadd (zat dd_L_law 417 rfl) ?_
        refine z_sld hsc (zat dd_L_law 418 rfl) (fun x140 => ?_)
        refine z_callV_IL (M2 := M_X10_forget) [.int x140] (fun l D _ _ => m_X10_forget l D v2 x140 h139) u_X10_forget ql_L_109 qi_X10_forget qs_X10_forget (ci := 6) rfl rfl rfl (Nat.le_of_ble_eq_true rfl) (by decide) (by decide) rfl rfl (zat dd_L_law 419 rfl) (fun x141 h142 => ?_)
        refine z_icmp_eq (tgt := 1012) (zat dd_L_law 420 rfl) (by decide) ?_ ?_
        · exact zb_L_law_1012 Y sb sN sx hsc (f_L_law_18 sN sx n) ih v1 v2 v3 h142
        · refine z_iconst (x := 0) (zat dd_L_law 421 rfl) (by decide) ?_
          exact z_zret rfl (zat dd_L_law 422 rfl)
      refine z_ite (fun c23 => ?_) (fun c23 => ?_)
      · refine z_tabIn (tgt := 731) 23 c23 (zat dd_L_law 21 rfl) (by decide) (by decide) rfl (by decide) ?_
        refine z_aload_n 1 (zat dd_L_law 423 rfl) rfl rfl ?_
        refine z_callV_IL (M2 := M_X9_is) [] (fun l D _ _ => m_X9_is l D v1 h) u_X9_is ql_L_110 qi_X9_is qs_X9_is (ci := 5) rfl rfl rfl (Nat.le_of_ble_eq_true rfl) (by decide) (by decide) rfl rfl (zat dd_L_law 424 rfl) (fun x143 h144 => ?_)
        refine z_aload_n 2 (zat dd_L_law 425 rfl) rfl rfl ?_
        refine z_callV_IL (M2 := M_X10_is) [] (fun l D _ _ => m_X10_is l D v2 h144) u_X10_is ql_L_113 qi_X10_is qs_X10_is (ci := 6) rfl rfl rfl (Nat.le_of_ble_eq_true rfl) (by decide) (by decide) rfl rfl (zat dd_L_law 426 rfl) (fun x145 h146 => ?_)
        refine z_icmp_eq (tgt := 1012) (zat dd_L_law 427 rfl) (by decide) ?_ ?_
        · exact zb_L_law_1012 Y sb sN sx hsc (f_L_law_18 sN sx n) ih v1 v2 v3 h146
        · refine z_iconst (x := 0) (zat dd_L_law 428 rfl) (by decide) ?_
          exact z_zret rfl (zat dd_L_law 429 rfl)
      refine z_ite (fun c24 => ?_) (fun c24 => ?_)
      · refine z_tabIn (tgt := 744) 24 c24 (zat dd_L_law 21 rfl) (by decide) (by decide) rfl (by decide) ?_
        refine z_aload_n 1 (zat dd_L_law 430 rfl) rfl rfl ?_
        refine z_callV_IL (M2 := M_X9_look) [] (fun l D _ _ => m_X9_look l D v1 h) u_X9_look ql_L_114 qi_X9_look qs_X9_look (ci := 5) rfl rfl rfl (Nat.le_of_ble_eq_true rfl) (by decide) (by decide) rfl rfl (zat dd_L_law 431 rfl) (fun x147 h148 => ?_)
        refine z_aload_n 2 (zat dd_L_law 432 rfl) rfl rfl ?_
        refine z_callV_IL (M2 := M_X10_look) [] (fun l D _ _ => m_X10_look l D v2 h148) u_X10_look ql_L_117 qi_X10_look qs_X10_look (ci := 6) rfl rfl rfl (Nat.le_of_ble_eq_true rfl) (by decide) (by decide) rfl rfl (zat dd_L_law 433 rfl) (fun x149 h150 => ?_)
        refine z_icmp_eq (tgt := 1012) (zat dd_L_law 434 rfl) (by decide) ?_ ?_
        · exact zb_L_law_1012 Y sb sN sx hsc (f_L_law_18 sN sx n) ih v1 v2 v3 h150
        · refine z_iconst (x := 0) (zat dd_L_law 435 rfl) (by decide) ?_
          exact z_zret rfl (zat dd_L_law 436 rfl)
      refine z_ite (fun c25 => ?_) (fun c25 => ?_)
      · refine z_tabIn (tgt := 757) 25 c25 (zat dd_L_law 21 rfl) (by decide) (by decide) rfl (by decide) ?_
        refine z_aload_n 1 (zat dd_L_law 437 rfl) rfl rfl ?_
        refine z_aload_n 0 (zat dd_L_law 438 rfl) rfl rfl ?_
        refine z_iload_n 3 (zat dd_L_law 439 rfl) rfl rfl ?_
        refine z_iconst (x := 1) (zat dd_L_law 440 rfl) (by decide) ?_
        refine z_iadd (zat dd_L_law 441 rfl) ?_
        refine z_sld hsc (zat dd_L_law 442 rfl) (fun x151 => ?_)
        refine z_callV_IL (M2 := M_X9_kinds) [.int x151] (fun l D _ _ => m_X9_kinds l D v1 x151 h) u_X9_kinds ql_L_118 qi_X9_kinds qs_X9_kinds (ci := 5) rfl rfl rfl (Nat.le_of_ble_eq_true rfl) (by decide) (by decide) rfl rfl (zat dd_L_law 443 rfl) (fun x152 h153 => ?_)
        refine z_aload_n 2 (zat dd_L_law 444 rfl) rfl rfl ?_
        refine z_aload_n 0 (zat dd_L_law 445 rfl) rfl rfl ?_
        refine z_iload_n 3 (zat dd_L_law 446 rfl) rfl rfl ?_
        refine z_iconst (x := 1) (zat dd_L_law 447 rfl) (by decide) ?_
        refine z_iadd (zat dd_L_law 448 rfl) ?_
        refine z_sld hsc (zat dd_L_law 449 rfl) (fun x154 => ?_)
        refine z_callV_IL (M2 := M_X10_kinds) [.int x154] (fun l D _ _ => m_X10_kinds l D v2 x154 h153) u_X10_kinds ql_L_121 qi_X10_kinds qs_X10_kinds (ci := 6) rfl rfl rfl (Nat.le_of_ble_eq_true rfl) (by decide) (by decide) rfl rfl (zat dd_L_law 450 rfl) (fun x155 h156 => ?_)
        refine z_icmp_eq (tgt := 1012) (zat dd_L_law 451 rfl) (by decide) ?_ ?_
        · exact zb_L_law_1012 Y sb sN sx hsc (f_L_law_18 sN sx n) ih v1 v2 v3 h156
        · refine z_iconst (x := 0) (zat dd_L_law 452 rfl) (by decide) ?_
          exact z_zret rfl (zat dd_L_law 453 rfl)
      refine z_ite (fun c26 => ?_) (fun c26 => ?_)
      · refine z_tabIn (tgt := 780) 26 c26 (zat dd_L_law 21 rfl) (by decide) (by decide) rfl (by decide) ?_
        refine z_aload_n 1 (zat dd_L_law 454 rfl) rfl rfl ?_
        refine z_aload_n 0 (zat dd_L_law 455 rfl) rfl rfl ?_
        refine z_iload_n 3 (zat dd_L_law 456 rfl) rfl rfl ?_
        refine z_iconst (x := 1) (zat dd_L_law 457 rfl) (by decide) ?_
        refine z_iadd (zat dd_L_law 458 rfl) ?_
        refine z_sld hsc (zat dd_L_law 459 rfl) (fun x157 => ?_)
        refine z_callV_IL (M2 := M_X9_ask) [.int x157] (fun l D _ _ => m_X9_ask l D v1 x157 h) u_X9_ask ql_L_122 qi_X9_ask qs_X9_ask (ci := 5) rfl rfl rfl (Nat.le_of_ble_eq_true rfl) (by decide) (by decide) rfl rfl (zat dd_L_law 460 rfl) (fun x158 h159 => ?_)
        refine z_aload_n 2 (zat dd_L_law 461 rfl) rfl rfl ?_
        refine z_aload_n 0 (zat dd_L_law 462 rfl) rfl rfl ?_
        refine z_iload_n 3 (zat dd_L_law 463 rfl) rfl rfl ?_
        refine z_iconst (x := 1) (zat dd_L_law 464 rfl) (by decide) ?_
        refine z_iadd (zat dd_L_law 465 rfl) ?_
        refine z_sld hsc (zat dd_L_law 466 rfl) (fun x160 => ?_)
        refine z_callV_IL (M2 := M_X10_ask) [.int x160] (fun l D _ _ => m_X10_ask l D v2 x160 h159) u_X10_ask ql_L_125 qi_X10_ask qs_X10_ask (ci := 6) rfl rfl rfl (Nat.le_of_ble_eq_true rfl) (by decide) (by decide) rfl rfl (zat dd_L_law 467 rfl) (fun x161 h162 => ?_)
        refine z_icmp_eq (tgt := 1012) (zat dd_L_law 468 rfl) (by decide) ?_ ?_
        · exact zb_L_law_1012 Y sb sN sx hsc (f_L_law_18 sN sx n) ih v1 v2 v3 h162
        · refine z_iconst (x := 0) (zat dd_L_law 469 rfl) (by decide) ?_
          exact z_zret rfl (zat dd_L_law 470 rfl)
      refine z_ite (fun c27 => ?_) (fun c27 => ?_)
      · refine z_tabIn (tgt := 803) 27 c27 (zat dd_L_law 21 rfl) (by decide) (by decide) rfl (by decide) ?_
        refine z_aload_n 1 (zat dd_L_law 471 rfl) rfl rfl ?_
        refine z_aload_n 0 (zat dd_L_law 472 rfl) rfl rfl ?_
        refine z_iload_n 3 (zat dd_L_law 473 rfl) rfl rfl ?_
        refine z_iconst (x := 1) (zat dd_L_law 474 rfl) (by decide) ?_
        refine z_iadd (zat dd_L_law 475 rfl) ?_
        refine z_sld hsc (zat dd_L_law 476 rfl) (fun x163 => ?_)
        refine z_callV_IL (M2 := M_X9_two) [.int x163] (fun l D _ _ => m_X9_two l D v1 x163 h) u_X9_two ql_L_126 qi_X9_two qs_X9_two (ci := 5) rfl rfl rfl (Nat.le_of_ble_eq_true rfl) (by decide) (by decide) rfl rfl (zat dd_L_law 477 rfl) (fun x164 h165 => ?_)
        refine z_aload_n 2 (zat dd_L_law 478 rfl) rfl rfl ?_
        refine z_aload_n 0 (zat dd_L_law 479 rfl) rfl rfl ?_
        refine z_iload_n 3 (zat dd_L_law 480 rfl) rfl rfl ?_
        refine z_iconst (x := 1) (zat dd_L_law 481 rfl) (by decide) ?_
        refine z_iadd (zat dd_L_law 482 rfl) ?_
        refine z_sld hsc (zat dd_L_law 483 rfl) (fun x166 => ?_)
        refine z_callV_IL (M2 := M_X10_two) [.int x166] (fun l D _ _ => m_X10_two l D v2 x166 h165) u_X10_two ql_L_129 qi_X10_two qs_X10_two (ci := 6) rfl rfl rfl (Nat.le_of_ble_eq_true rfl) (by decide) (by decide) rfl rfl (zat dd_L_law 484 rfl) (fun x167 h168 => ?_)
        refine z_icmp_eq (tgt := 1012) (zat dd_L_law 485 rfl) (by decide) ?_ ?_
        · exact zb_L_law_1012 Y sb sN sx hsc (f_L_law_18 sN sx n) ih v1 v2 v3 h168
        · refine z_iconst (x := 0) (zat dd_L_law 486 rfl) (by decide) ?_
          exact z_zret rfl (zat dd_L_law 487 rfl)
      refine z_ite (fun c28 => ?_) (fun c28 => ?_)
      · refine z_tabIn (tgt := 826) 28 c28 (zat dd_L_law 21 rfl) (by decide) (by decide) rfl (by decide) ?_
        refine z_aload_n 1 (zat dd_L_law 488 rfl) rfl rfl ?_
        refine z_aload_n 0 (zat dd_L_law 489 rfl) rfl rfl ?_
        refine z_iload_n 3 (zat dd_L_law 490 rfl) rfl rfl ?_
        refine z_iconst (x := 1) (zat dd_L_law 491 rfl) (by decide) ?_
        refine z_iadd (zat dd_L_law 492 rfl) ?_
        refine z_sld hsc (zat dd_L_law 493 rfl) (fun x169 => ?_)
        refine z_callV_IL (M2 := M_X9_luck) [.int x169] (fun l D _ _ => m_X9_luck l D v1 x169 h) u_X9_luck ql_L_130 qi_X9_luck qs_X9_luck (ci := 5) rfl rfl rfl (Nat.le_of_ble_eq_true rfl) (by decide) (by decide) rfl rfl (zat dd_L_law 494 rfl) (fun x170 h171 => ?_)
        refine z_aload_n 2 (zat dd_L_law 495 rfl) rfl rfl ?_
        refine z_aload_n 0 (zat dd_L_law 496 rfl) rfl rfl ?_
        refine z_iload_n 3 (zat dd_L_law 497 rfl) rfl rfl ?_
        refine z_iconst (x := 1) (zat dd_L_law 498 rfl) (by decide) ?_
        refine z_iadd (zat dd_L_law 499 rfl) ?_
        refine z_sld hsc (zat dd_L_law 500 rfl) (fun x172 => ?_)
        refine z_callV_IL (M2 := M_X10_luck) [.int x172] (fun l D _ _ => m_X10_luck l D v2 x172 h171) u_X10_luck ql_L_133 qi_X10_luck qs_X10_luck (ci := 6) rfl rfl rfl (Nat.le_of_ble_eq_true rfl) (by decide) (by decide) rfl rfl (zat dd_L_law 501 rfl) (fun x173 h174 => ?_)
        refine z_icmp_eq (tgt := 1012) (zat dd_L_law 502 rfl) (by decide) ?_ ?_
        · exact zb_L_law_1012 Y sb sN sx hsc (f_L_law_18 sN sx n) ih v1 v2 v3 h174
        · refine z_iconst (x := 0) (zat dd_L_law 503 rfl) (by decide) ?_
          exact z_zret rfl (zat dd_L_law 504 rfl)
      refine z_ite (fun c29 => ?_) (fun c29 => ?_)
      · refine z_tabIn (tgt := 849) 29 c29 (zat dd_L_law 21 rfl) (by decide) (by decide) rfl (by decide) ?_
        refine z_aload_n 1 (zat dd_L_law 505 rfl) rfl rfl ?_
        refine z_aload_n 0 (zat dd_L_law 506 rfl) rfl rfl ?_
        refine z_iload_n 3 (zat dd_L_law 507 rfl) rfl rfl ?_
        refine z_iconst (x := 1) (zat dd_L_law 508 rfl) (by decide) ?_
        refine z_iadd (zat dd_L_law 509 rfl) ?_
        refine z_sld hsc (zat dd_L_law 510 rfl) (fun x175 => ?_)
        refine z_aload_n 0 (zat dd_L_law 511 rfl) rfl rfl ?_
        refine z_iload_n 3 (zat dd_L_law 512 rfl) rfl rfl ?_
        refine z_iconst (x := 2) (zat dd_L_law 513 rfl) (by decide) ?_
        refine z_iadd (zat dd_L_law 514 rfl) ?_
        refine z_sld hsc (zat dd_L_law 515 rfl) (fun x176 => ?_)
        refine z_callV_IL (M2 := M_X9_evenings) [.int x175, .int x176] (fun l D _ _ => m_X9_evenings l D v1 x175 x176 h) u_X9_evenings ql_L_134 qi_X9_evenings qs_X9_evenings (ci := 5) rfl rfl rfl (Nat.le_of_ble_eq_true rfl) (by decide) (by decide) rfl rfl (zat dd_L_law 516 rfl) (fun x177 h178 => ?_)
        refine z_aload_n 2 (zat dd_L_law 517 rfl) rfl rfl ?_
        refine z_aload_n 0 (zat dd_L_law 518 rfl) rfl rfl ?_
        refine z_iload_n 3 (zat dd_L_law 519 rfl) rfl rfl ?_
        refine z_iconst (x := 1) (zat dd_L_law 520 rfl) (by decide) ?_
        refine z_iadd (zat dd_L_law 521 rfl) ?_
        refine z_sld hsc (zat dd_L_law 522 rfl) (fun x179 => ?_)
        refine z_aload_n 0 (zat dd_L_law 523 rfl) rfl rfl ?_
        refine z_iload_n 3 (zat dd_L_law 524 rfl) rfl rfl ?_
        refine z_iconst (x := 2) (zat dd_L_law 525 rfl) (by decide) ?_
        refine z_iadd (zat dd_L_law 526 rfl) ?_
        refine z_sld hsc (zat dd_L_law 527 rfl) (fun x180 => ?_)
        refine z_callV_IL (M2 := M_X10_evenings) [.int x179, .int x180] (fun l D _ _ => m_X10_evenings l D v2 x179 x180 h178) u_X10_evenings ql_L_137 qi_X10_evenings qs_X10_evenings (ci := 6) rfl rfl rfl (Nat.le_of_ble_eq_true rfl) (by decide) (by decide) rfl rfl (zat dd_L_law 528 rfl) (fun x181 h182 => ?_)
        refine z_icmp_eq (tgt := 1012) (zat dd_L_law 529 rfl) (by decide) ?_ ?_
        · exact zb_L_law_1012 Y sb sN sx hsc (f_L_law_18 sN sx n) ih v1 v2 v3 h182
        · refine z_iconst (x := 0) (zat dd_L_law 530 rfl) (by decide) ?_
          exact z_zret rfl (zat dd_L_law 531 rfl)
      refine z_ite (fun c30 => ?_) (fun c30 => ?_)
      · refine z_tabIn (tgt := 882) 30 c30 (zat dd_L_law 21 rfl) (by decide) (by decide) rfl (by decide) ?_
        refine z_aload_n 1 (zat dd_L_law 532 rfl) rfl rfl ?_
        refine z_aload_n 0 (zat dd_L_law 533 rfl) rfl rfl ?_
        refine z_iload_n 3 (zat dd_L_law 534 rfl) rfl rfl ?_
        refine z_iconst (x := 1) (zat dd_L_law 535 rfl) (by decide) ?_
        refine z_iadd (zat dd_L_law 536 rfl) ?_
        refine z_sld hsc (zat dd_L_law 537 rfl) (fun x183 => ?_)
        refine z_callV_JL (M2 := M_X9_part) [.int x183] (fun l D _ _ => m_X9_part l D v1 x183 h) u_X9_part ql_L_138 qi_X9_part qs_X9_part (ci := 5) rfl rfl rfl (Nat.le_of_ble_eq_true rfl) (by decide) (by decide) rfl rfl (zat dd_L_law 538 rfl) (fun x184 h185 => ?_)
        refine z_aload_n 2 (zat dd_L_law 539 rfl) rfl rfl ?_
        refine z_aload_n 0 (zat dd_L_law 540 rfl) rfl rfl ?_
        refine z_iload_n 3 (zat dd_L_law 541 rfl) rfl rfl ?_
        refine z_iconst (x := 1) (zat dd_L_law 542 rfl) (by decide) ?_
        refine z_iadd (zat dd_L_law 543 rfl) ?_
        refine z_sld hsc (zat dd_L_law 544 rfl) (fun x186 => ?_)
        refine z_callV_JL (M2 := M_X10_part) [.int x186] (fun l D _ _ => m_X10_part l D v2 x186 h185) u_X10_part ql_L_142 qi_X10_part qs_X10_part (ci := 6) rfl rfl rfl (Nat.le_of_ble_eq_true rfl) (by decide) (by decide) rfl rfl (zat dd_L_law 545 rfl) (fun x187 h188 => ?_)
        refine z_lcmp (zat dd_L_law 546 rfl) ?_
        refine z_if_eq (tgt := 1012) (zat dd_L_law 547 rfl) (by decide) ?_ ?_
        · exact zb_L_law_1012 Y sb sN sx hsc (f_L_law_18 sN sx n) ih v1 v2 v3 h188
        · refine z_iconst (x := 0) (zat dd_L_law 548 rfl) (by decide) ?_
          exact z_zret rfl (zat dd_L_law 549 rfl)
      refine z_ite (fun c31 => ?_) (fun c31 => ?_)
      · refine z_tabIn (tgt := 906) 31 c31 (zat dd_L_law 21 rfl) (by decide) (by decide) rfl (by decide) ?_
        refine z_aload_n 1 (zat dd_L_law 550 rfl) rfl rfl ?_
        refine z_aload_n 0 (zat dd_L_law 551 rfl) rfl rfl ?_
        refine z_iload_n 3 (zat dd_L_law 552 rfl) rfl rfl ?_
        refine z_iconst (x := 1) (zat dd_L_law 553 rfl) (by decide) ?_
        refine z_iadd (zat dd_L_law 554 rfl) ?_
        refine z_sld hsc (zat dd_L_law 555 rfl) (fun x189 => ?_)
        refine z_callV_IL (M2 := M_X9_image) [.int x189] (fun l D _ _ => m_X9_image l D v1 x189 h) u_X9_image ql_L_143 qi_X9_image qs_X9_image (ci := 5) rfl rfl rfl (Nat.le_of_ble_eq_true rfl) (by decide) (by decide) rfl rfl (zat dd_L_law 556 rfl) (fun x190 h191 => ?_)
        refine z_aload_n 2 (zat dd_L_law 557 rfl) rfl rfl ?_
        refine z_aload_n 0 (zat dd_L_law 558 rfl) rfl rfl ?_
        refine z_iload_n 3 (zat dd_L_law 559 rfl) rfl rfl ?_
        refine z_iconst (x := 1) (zat dd_L_law 560 rfl) (by decide) ?_
        refine z_iadd (zat dd_L_law 561 rfl) ?_
        refine z_sld hsc (zat dd_L_law 562 rfl) (fun x192 => ?_)
        refine z_callV_IL (M2 := M_X10_image) [.int x192] (fun l D _ _ => m_X10_image l D v2 x192 h191) u_X10_image ql_L_146 qi_X10_image qs_X10_image (ci := 6) rfl rfl rfl (Nat.le_of_ble_eq_true rfl) (by decide) (by decide) rfl rfl (zat dd_L_law 563 rfl) (fun x193 h194 => ?_)
        refine z_icmp_eq (tgt := 1012) (zat dd_L_law 564 rfl) (by decide) ?_ ?_
        · exact zb_L_law_1012 Y sb sN sx hsc (f_L_law_18 sN sx n) ih v1 v2 v3 h194
        · refine z_iconst (x := 0) (zat dd_L_law 565 rfl) (by decide) ?_
          exact z_zret rfl (zat dd_L_law 566 rfl)
      refine z_ite (fun c32 => ?_) (fun c32 => ?_)
      · refine z_tabIn (tgt := 929) 32 c32 (zat dd_L_law 21 rfl) (by decide) (by decide) rfl (by decide) ?_
        refine z_aload_n 1 (zat dd_L_law 567 rfl) rfl rfl ?_
        refine z_aload_n 0 (zat dd_L_law 568 rfl) rfl rfl ?_
        refine z_iload_n 3 (zat dd_L_law 569 rfl) rfl rfl ?_
        refine z_iconst (x := 1) (zat dd_L_law 570 rfl) (by decide) ?_
        refine z_iadd (zat dd_L_law 571 rfl) ?_
        refine z_sld hsc (zat dd_L_law 572 rfl) (fun x195 => ?_)
        refine z_callV_IL (M2 := M_X9_from) [.int x195] (fun l D _ _ => m_X9_from l D v1 x195 h) u_X9_from ql_L_147 qi_X9_from qs_X9_from (ci := 5) rfl rfl rfl (Nat.le_of_ble_eq_true rfl) (by decide) (by decide) rfl rfl (zat dd_L_law 573 rfl) (fun x196 h197 => ?_)
        refine z_aload_n 2 (zat dd_L_law 574 rfl) rfl rfl ?_
        refine z_aload_n 0 (zat dd_L_law 575 rfl) rfl rfl ?_
        refine z_iload_n 3 (zat dd_L_law 576 rfl) rfl rfl ?_
        refine z_iconst (x := 1) (zat dd_L_law 577 rfl) (by decide) ?_
        refine z_iadd (zat dd_L_law 578 rfl) ?_
        refine z_sld hsc (zat dd_L_law 579 rfl) (fun x198 => ?_)
        refine z_callV_IL (M2 := M_X10_from) [.int x198] (fun l D _ _ => m_X10_from l D v2 x198 h197) u_X10_from ql_L_150 qi_X10_from qs_X10_from (ci := 6) rfl rfl rfl (Nat.le_of_ble_eq_true rfl) (by decide) (by decide) rfl rfl (zat dd_L_law 580 rfl) (fun x199 h200 => ?_)
        refine z_icmp_eq (tgt := 1012) (zat dd_L_law 581 rfl) (by decide) ?_ ?_
        · exact zb_L_law_1012 Y sb sN sx hsc (f_L_law_18 sN sx n) ih v1 v2 v3 h200
        · refine z_iconst (x := 0) (zat dd_L_law 582 rfl) (by decide) ?_
          exact z_zret rfl (zat dd_L_law 583 rfl)
      refine z_ite (fun c33 => ?_) (fun c33 => ?_)
      · refine z_tabIn (tgt := 952) 33 c33 (zat dd_L_law 21 rfl) (by decide) (by decide) rfl (by decide) ?_
        refine z_aload_n 1 (zat dd_L_law 584 rfl) rfl rfl ?_
        refine z_aload_n 0 (zat dd_L_law 585 rfl) rfl rfl ?_
        refine z_iload_n 3 (zat dd_L_law 586 rfl) rfl rfl ?_
        refine z_iconst (x := 1) (zat dd_L_law 587 rfl) (by decide) ?_
        refine z_iadd (zat dd_L_law 588 rfl) ?_
        refine z_sld hsc (zat dd_L_law 589 rfl) (fun x201 => ?_)
        refine z_callV_IL (M2 := M_X9_status) [.int x201] (fun l D _ _ => m_X9_status l D v1 x201 h) u_X9_status ql_L_151 qi_X9_status qs_X9_status (ci := 5) rfl rfl rfl (Nat.le_of_ble_eq_true rfl) (by decide) (by decide) rfl rfl (zat dd_L_law 590 rfl) (fun x202 h203 => ?_)
        refine z_aload_n 2 (zat dd_L_law 591 rfl) rfl rfl ?_
        refine z_aload_n 0 (zat dd_L_law 592 rfl) rfl rfl ?_
        refine z_iload_n 3 (zat dd_L_law 593 rfl) rfl rfl ?_
        refine z_iconst (x := 1) (zat dd_L_law 594 rfl) (by decide) ?_
        refine z_iadd (zat dd_L_law 595 rfl) ?_
        refine z_sld hsc (zat dd_L_law 596 rfl) (fun x204 => ?_)
        refine z_callV_IL (M2 := M_X10_status) [.int x204] (fun l D _ _ => m_X10_status l D v2 x204 h203) u_X10_status ql_L_154 qi_X10_status qs_X10_status (ci := 6) rfl rfl rfl (Nat.le_of_ble_eq_true rfl) (by decide) (by decide) rfl rfl (zat dd_L_law 597 rfl) (fun x205 h206 => ?_)
        refine z_icmp_eq (tgt := 1012) (zat dd_L_law 598 rfl) (by decide) ?_ ?_
        · exact zb_L_law_1012 Y sb sN sx hsc (f_L_law_18 sN sx n) ih v1 v2 v3 h206
        · refine z_iconst (x := 0) (zat dd_L_law 599 rfl) (by decide) ?_
          exact z_zret rfl (zat dd_L_law 600 rfl)
      refine z_ite (fun c34 => ?_) (fun c34 => ?_)
      · refine z_tabIn (tgt := 975) 34 c34 (zat dd_L_law 21 rfl) (by decide) (by decide) rfl (by decide) ?_
        refine z_aload_n 1 (zat dd_L_law 601 rfl) rfl rfl ?_
        refine z_aload_n 0 (zat dd_L_law 602 rfl) rfl rfl ?_
        refine z_iload_n 3 (zat dd_L_law 603 rfl) rfl rfl ?_
        refine z_iconst (x := 1) (zat dd_L_law 604 rfl) (by decide) ?_
        refine z_iadd (zat dd_L_law 605 rfl) ?_
        refine z_sld hsc (zat dd_L_law 606 rfl) (fun x207 => ?_)
        refine z_callV_IL (M2 := M_X9_count) [.int x207] (fun l D _ _ => m_X9_count l D v1 x207 h) u_X9_count ql_L_155 qi_X9_count qs_X9_count (ci := 5) rfl rfl rfl (Nat.le_of_ble_eq_true rfl) (by decide) (by decide) rfl rfl (zat dd_L_law 607 rfl) (fun x208 h209 => ?_)
        refine z_aload_n 2 (zat dd_L_law 608 rfl) rfl rfl ?_
        refine z_aload_n 0 (zat dd_L_law 609 rfl) rfl rfl ?_
        refine z_iload_n 3 (zat dd_L_law 610 rfl) rfl rfl ?_
        refine z_iconst (x := 1) (zat dd_L_law 611 rfl) (by decide) ?_
        refine z_iadd (zat dd_L_law 612 rfl) ?_
        refine z_sld hsc (zat dd_L_law 613 rfl) (fun x210 => ?_)
        refine z_callV_IL (M2 := M_X10_count) [.int x210] (fun l D _ _ => m_X10_count l D v2 x210 h209) u_X10_count ql_L_158 qi_X10_count qs_X10_count (ci := 6) rfl rfl rfl (Nat.le_of_ble_eq_true rfl) (by decide) (by decide) rfl rfl (zat dd_L_law 614 rfl) (fun x211 h212 => ?_)
        refine z_icmp_eq (tgt := 1012) (zat dd_L_law 615 rfl) (by decide) ?_ ?_
        · exact zb_L_law_1012 Y sb sN sx hsc (f_L_law_18 sN sx n) ih v1 v2 v3 h212
        · refine z_iconst (x := 0) (zat dd_L_law 616 rfl) (by decide) ?_
          exact z_zret rfl (zat dd_L_law 617 rfl)
      refine z_ite (fun c35 => ?_) (fun c35 => ?_)
      · refine z_tabIn (tgt := 998) 35 c35 (zat dd_L_law 21 rfl) (by decide) (by decide) rfl (by decide) ?_
        refine z_aload_n 1 (zat dd_L_law 618 rfl) rfl rfl ?_
        refine z_callV_JL (M2 := M_X9_digest) [] (fun l D _ _ => m_X9_digest l D v1 h) u_X9_digest ql_L_159 qi_X9_digest qs_X9_digest (ci := 5) rfl rfl rfl (Nat.le_of_ble_eq_true rfl) (by decide) (by decide) rfl rfl (zat dd_L_law 619 rfl) (fun x213 h214 => ?_)
        refine z_aload_n 2 (zat dd_L_law 620 rfl) rfl rfl ?_
        refine z_callV_JL (M2 := M_X10_digest) [] (fun l D _ _ => m_X10_digest l D v2 h214) u_X10_digest ql_L_163 qi_X10_digest qs_X10_digest (ci := 6) rfl rfl rfl (Nat.le_of_ble_eq_true rfl) (by decide) (by decide) rfl rfl (zat dd_L_law 621 rfl) (fun x215 h216 => ?_)
        refine z_lcmp (zat dd_L_law 622 rfl) ?_
        refine z_if_eq (tgt := 1012) (zat dd_L_law 623 rfl) (by decide) ?_ ?_
        · exact zb_L_law_1012 Y sb sN sx hsc (f_L_law_18 sN sx n) ih v1 v2 v3 h216
        · refine z_iconst (x := 0) (zat dd_L_law 624 rfl) (by decide) ?_
          exact z_zret rfl (zat dd_L_law 625 rfl)
      refine z_tabOut (tgt := 1012) (zat dd_L_law 21 rfl) (by have g0 := lv_neT (a := 0) c0 rfl; have g1 := lv_neT (a := 1) c1 rfl; have g2 := lv_neT (a := 2) c2 rfl; have g3 := lv_neT (a := 3) c3 rfl; have g4 := lv_neT (a := 4) c4 rfl; have g5 := lv_neT (a := 5) c5 rfl; have g6 := lv_neT (a := 6) c6 rfl; have g7 := lv_neT (a := 7) c7 rfl; have g8 := lv_neT (a := 8) c8 rfl; have g9 := lv_neT (a := 9) c9 rfl; have g10 := lv_neT (a := 10) c10 rfl; have g11 := lv_neT (a := 11) c11 rfl; have g12 := lv_neT (a := 12) c12 rfl; have g13 := lv_neT (a := 13) c13 rfl; have g14 := lv_neT (a := 14) c14 rfl; have g15 := lv_neT (a := 15) c15 rfl; have g16 := lv_neT (a := 16) c16 rfl; have g17 := lv_neT (a := 17) c17 rfl; have g18 := lv_neT (a := 18) c18 rfl; have g19 := lv_neT (a := 19) c19 rfl; have g20 := lv_neT (a := 20) c20 rfl; have g21 := lv_neT (a := 21) c21 rfl; have g22 := lv_neT (a := 22) c22 rfl; have g23 := lv_neT (a := 23) c23 rfl; have g24 := lv_neT (a := 24) c24 rfl; have g25 := lv_neT (a := 25) c25 rfl; have g26 := lv_neT (a := 26) c26 rfl; have g27 := lv_neT (a := 27) c27 rfl; have g28 := lv_neT (a := 28) c28 rfl; have g29 := lv_neT (a := 29) c29 rfl; have g30 := lv_neT (a := 30) c30 rfl; have g31 := lv_neT (a := 31) c31 rfl; have g32 := lv_neT (a := 32) c32 rfl; have g33 := lv_neT (a := 33) c33 rfl; have g34 := lv_neT (a := 34) c34 rfl; have g35 := lv_neT (a := 35) c35 rfl; omega) (by decide) ?_
      exact zb_L_law_1012 Y sb sN sx hsc (f_L_law_18 sN sx n) ih v1 v2 v3 h
def f_L_law (sN : Nat) (sx : Nat → Int32) (h : zH) : zR :=
  zN h (.inr (5, [.null, .null, .null, .null, .null, .null, .null, .null, .null, .int 0, .long 0, .long 0, .int 0, .int 0, .int 0])) fun a1 h2 =>
  zcV (f_X9_init a1 h2) fun h3 =>
  zN h3 (.inr (6, [.null, .null, .null, .int 0, .null, .null, .null, .int 0, .int 0, .null, .long 0, .long 0, .null, .int 0, .int 0, .int 0, .int 0, .null, .null])) fun a4 h5 =>
  zcV (f_X10_init a4 h5) fun h6 =>
  f_L_law_18 sN sx zF a1 a4 0 h6
set_option maxRecDepth 100000 in
set_option maxHeartbeats 4000000 in
theorem m_L_law (Y : zY) (sb sN : Nat) (sx : Nat → Int32) (hsc : zScr Y sb sN sx) (h : zH) : Z Y M_L_law 0 0 0 [(0, .ref sb)] [] h (f_L_law sN sx h) := by
  rw [f_L_law]
  refine z_newN (cells2 := 1) (slots2 := 15) nw_L_7 (by decide) (by decide) rfl rfl (zat dd_L_law 0 rfl) (fun a1 h2 => ?_)
  refine z_dup (zat dd_L_law 1 rfl) rfl ?_
  refine z_callI_VA (cells2 := 159) (slots2 := 1399) (M2 := M_X9_init) [] (fun l D _ _ => m_X9_init l D a1 h2) u_X9_init ql_L_9 qi_X9_init rfl rfl rfl rfl (Nat.le_of_ble_eq_true rfl) (by decide) (by decide) (by decide) rfl rfl (zat dd_L_law 2 rfl) (fun h3 => ?_)
  refine z_astore_n (lv' := [(1, .ref a1), (0, .ref sb)]) (zat dd_L_law 3 rfl) rfl (Nat.le_of_ble_eq_true rfl) rfl ?_
  refine z_newN (cells2 := 160) (slots2 := 1418) nw_L_10 (by decide) (by decide) rfl rfl (zat dd_L_law 4 rfl) (fun a4 h5 => ?_)
  refine z_dup (zat dd_L_law 5 rfl) rfl ?_
  refine z_callI_VA (cells2 := 170) (slots2 := 2621) (M2 := M_X10_init) [] (fun l D _ _ => m_X10_init l D a4 h5) u_X10_init ql_L_12 qi_X10_init rfl rfl rfl rfl (Nat.le_of_ble_eq_true rfl) (by decide) (by decide) (by decide) rfl rfl (zat dd_L_law 6 rfl) (fun h6 => ?_)
  refine z_astore_n (lv' := [(2, .ref a4), (1, .ref a1), (0, .ref sb)]) (zat dd_L_law 7 rfl) rfl (Nat.le_of_ble_eq_true rfl) rfl ?_
  refine z_iconst (x := 0) (zat dd_L_law 8 rfl) (by decide) ?_
  refine z_istore_n (lv' := [(3, .int 0), (2, .ref a4), (1, .ref a1), (0, .ref sb)]) (zat dd_L_law 9 rfl) rfl (Nat.le_of_ble_eq_true rfl) rfl ?_
  refine z_sub [3, 2, 1, 0] rfl ?_
  exact zb_L_law_18 Y sb sN sx hsc zF a1 a4 0 h6
