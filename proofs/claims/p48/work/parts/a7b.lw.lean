/-! its cases, its links -/
theorem zeTb_app {M : xMi} {nL : Nat} {b : List xEn} {cb : List zeEn} (hb : zeTb M nL b = some cb) : ∀ {a : List xEn} {ca : List zeEn}, zeTb M nL a = some ca → zeTb M nL (a ++ b) = some (ca ++ cb)
  | [], ca, h => by cases h; exact hb
  | q :: r, ca, h => by
    have h : (match zeN M nL q.1 q.2.1, zeTb M nL r with
      | some i, some t => some ((q.1, i, q.2.2.1) :: t)
      | _, _ => none) = some ca := h
    show (match zeN M nL q.1 q.2.1, zeTb M nL (r ++ b) with
      | some i, some t => some ((q.1, i, q.2.2.1) :: t)
      | _, _ => none) = some (ca ++ cb)
    cases h1 : zeN M nL q.1 q.2.1 with
    | none => rw [h1] at h; cases h
    | some i =>
      cases h2 : zeTb M nL r with
      | none => rw [h1, h2] at h; cases h
      | some t =>
        rw [h1, h2] at h
        cases h
        rw [zeTb_app hb h2]
        rfl
def zeLt (u : Nat) (a : List zeEn) : Bool := a.all (fun q => Nat.blt q.1 u)
theorem zeSk_lt {u t : Nat} (hu : u ≤ t) {b : List zeEn} : ∀ {a : List zeEn}, zeLt u a = true → zeSk t (a ++ b) = zeSk t b
  | [], _ => rfl
  | q :: r, h => by
    unfold zeLt at h
    rw [List.all_cons, Bool.and_eq_true] at h
    have hq : q.1 < u := Nat.blt_eq.mp h.1
    show zeSk t (q :: (r ++ b)) = _
    rw [show zeSk t (q :: (r ++ b)) = (bif q.1 == t then q :: (r ++ b) else zeSk t (r ++ b)) from rfl, show (q.1 == t) = false by simp; omega, cond_false]
    exact zeSk_lt hu (a := r) h.2
theorem zeSk_hd {t : Nat} {q : zeEn} {r : List zeEn} (h : (q.1 == t) = true) : zeSk t (q :: r) = q :: r := by unfold zeSk; rw [h, cond_true]
noncomputable def zcc0 : List zeEn := [(23, .iload 4, 2), (25, .aload 0, 1), (26, .arraylength, 1), (27, .bipush 6, 2), (29, .isub, 1), (30, .if_icmp .gt 2295, 3), (33, .aload 0, 1), (34, .iload 4, 2), (36, .iaload, 1), (37, .bipush 63, 2), (39, .iand, 1), (40, .tableswitch 2289 0 49 #[256, 281, 306, 319, 332, 345, 370, 407, 432, 457, 518, 555, 568, 593, 642, 691, 740, 777, 814, 863, 924, 949, 986, 1011, 1036, 1061, 1134, 1183, 1220, 1257, 1270, 1295, 1320, 1357, 1430, 1491, 1564, 1625, 1698, 1747, 1808, 1881, 1906, 1979, 2040, 2113, 2186, 2211, 2236, 2261], 216)]
theorem zct0 : zeTb xI_lw 8 lT0 = some zcc0 := by decide +kernel
theorem zcl0 : zeLt 256 zcc0 = true := by decide +kernel
noncomputable def zcc1 : List zeEn := [(256, .aload 1, 1), (257, .aload 0, 1), (258, .iload 4, 2), (260, .bipush 1, 1), (261, .iadd, 1), (262, .iaload, 1), (263, .invokevirtual 19, 3), (266, .pop, 1), (267, .aload 2, 1), (268, .aload 0, 1), (269, .iload 4, 2), (271, .bipush 1, 1), (272, .iadd, 1), (273, .iaload, 1), (274, .invokevirtual 23, 3), (277, .pop, 1), (278, .goto 2289, 3)]
theorem zct1 : zeTb xI_lw 8 lT1 = some zcc1 := by decide +kernel
theorem zcl1 : zeLt 281 zcc1 = true := by decide +kernel
noncomputable def zcc2 : List zeEn := [(281, .aload 1, 1), (282, .aload 0, 1), (283, .iload 4, 2), (285, .bipush 1, 1), (286, .iadd, 1), (287, .iaload, 1), (288, .invokevirtual 24, 3), (291, .pop, 1), (292, .aload 2, 1), (293, .aload 0, 1), (294, .iload 4, 2), (296, .bipush 1, 1), (297, .iadd, 1), (298, .iaload, 1), (299, .invokevirtual 28, 3), (302, .pop, 1), (303, .goto 2289, 3)]
theorem zct2 : zeTb xI_lw 8 lT2 = some zcc2 := by decide +kernel
theorem zcl2 : zeLt 306 zcc2 = true := by decide +kernel
noncomputable def zcc3 : List zeEn := [(306, .aload 1, 1), (307, .invokevirtual 29, 3), (310, .pop, 1), (311, .aload 2, 1), (312, .invokevirtual 33, 3), (315, .pop, 1), (316, .goto 2289, 3)]
theorem zct3 : zeTb xI_lw 8 lT3 = some zcc3 := by decide +kernel
theorem zcl3 : zeLt 319 zcc3 = true := by decide +kernel
noncomputable def zcc4 : List zeEn := [(319, .aload 1, 1), (320, .invokevirtual 34, 3), (323, .pop, 1), (324, .aload 2, 1), (325, .invokevirtual 37, 3), (328, .pop, 1), (329, .goto 2289, 3)]
theorem zct4 : zeTb xI_lw 8 lT4 = some zcc4 := by decide +kernel
theorem zcl4 : zeLt 332 zcc4 = true := by decide +kernel
noncomputable def zcc5 : List zeEn := [(332, .aload 1, 1), (333, .invokevirtual 38, 3), (336, .pop, 1), (337, .aload 2, 1), (338, .invokevirtual 41, 3), (341, .pop, 1), (342, .goto 2289, 3)]
theorem zct5 : zeTb xI_lw 8 lT5 = some zcc5 := by decide +kernel
theorem zcl5 : zeLt 345 zcc5 = true := by decide +kernel
noncomputable def zcc6 : List zeEn := [(345, .aload 1, 1), (346, .aload 0, 1), (347, .iload 4, 2), (349, .bipush 1, 1), (350, .iadd, 1), (351, .iaload, 1), (352, .invokevirtual 42, 3), (355, .pop, 1), (356, .aload 2, 1), (357, .aload 0, 1), (358, .iload 4, 2), (360, .bipush 1, 1), (361, .iadd, 1), (362, .iaload, 1), (363, .invokevirtual 45, 3), (366, .pop, 1), (367, .goto 2289, 3)]
theorem zct6 : zeTb xI_lw 8 lT6 = some zcc6 := by decide +kernel
theorem zcl6 : zeLt 370 zcc6 = true := by decide +kernel
noncomputable def zcc7 : List zeEn := [(370, .aload 1, 1), (371, .aload 0, 1), (372, .iload 4, 2), (374, .bipush 1, 1), (375, .iadd, 1), (376, .iaload, 1), (377, .aload 0, 1), (378, .iload 4, 2), (380, .bipush 2, 1), (381, .iadd, 1), (382, .iaload, 1), (383, .invokevirtual 46, 3), (386, .pop, 1), (387, .aload 2, 1), (388, .aload 0, 1), (389, .iload 4, 2), (391, .bipush 1, 1), (392, .iadd, 1), (393, .iaload, 1), (394, .aload 0, 1), (395, .iload 4, 2), (397, .bipush 2, 1), (398, .iadd, 1), (399, .iaload, 1), (400, .invokevirtual 50, 3), (403, .pop, 1), (404, .goto 2289, 3)]
theorem zct7 : zeTb xI_lw 8 lT7 = some zcc7 := by decide +kernel
theorem zcl7 : zeLt 407 zcc7 = true := by decide +kernel
noncomputable def zcc8 : List zeEn := [(407, .aload 1, 1), (408, .aload 0, 1), (409, .iload 4, 2), (411, .bipush 1, 1), (412, .iadd, 1), (413, .iaload, 1), (414, .invokevirtual 51, 3), (417, .pop, 1), (418, .aload 2, 1), (419, .aload 0, 1), (420, .iload 4, 2), (422, .bipush 1, 1), (423, .iadd, 1), (424, .iaload, 1), (425, .invokevirtual 54, 3), (428, .pop, 1), (429, .goto 2289, 3)]
theorem zct8 : zeTb xI_lw 8 lT8 = some zcc8 := by decide +kernel
theorem zcl8 : zeLt 432 zcc8 = true := by decide +kernel
noncomputable def zcc9 : List zeEn := [(432, .aload 1, 1), (433, .aload 0, 1), (434, .iload 4, 2), (436, .bipush 1, 1), (437, .iadd, 1), (438, .iaload, 1), (439, .invokevirtual 55, 3), (442, .pop, 1), (443, .aload 2, 1), (444, .aload 0, 1), (445, .iload 4, 2), (447, .bipush 1, 1), (448, .iadd, 1), (449, .iaload, 1), (450, .invokevirtual 58, 3), (453, .pop, 1), (454, .goto 2289, 3)]
theorem zct9 : zeTb xI_lw 8 lT9 = some zcc9 := by decide +kernel
theorem zcl9 : zeLt 457 zcc9 = true := by decide +kernel
noncomputable def zcc10 : List zeEn := [(457, .aload 1, 1), (458, .aload 0, 1), (459, .iload 4, 2), (461, .bipush 1, 1), (462, .iadd, 1), (463, .iaload, 1), (464, .aload 0, 1), (465, .iload 4, 2), (467, .bipush 2, 1), (468, .iadd, 1), (469, .iaload, 1), (470, .aload 0, 1), (471, .iload 4, 2), (473, .bipush 3, 1), (474, .iadd, 1), (475, .iaload, 1), (476, .aload 0, 1), (477, .iload 4, 2), (479, .bipush 4, 1), (480, .iadd, 1), (481, .iaload, 1), (482, .invokevirtual 59, 3), (485, .pop, 1), (486, .aload 2, 1), (487, .aload 0, 1), (488, .iload 4, 2), (490, .bipush 1, 1), (491, .iadd, 1), (492, .iaload, 1), (493, .aload 0, 1), (494, .iload 4, 2), (496, .bipush 2, 1), (497, .iadd, 1), (498, .iaload, 1), (499, .aload 0, 1), (500, .iload 4, 2), (502, .bipush 3, 1), (503, .iadd, 1), (504, .iaload, 1), (505, .aload 0, 1), (506, .iload 4, 2), (508, .bipush 4, 1), (509, .iadd, 1), (510, .iaload, 1), (511, .invokevirtual 63, 3), (514, .pop, 1), (515, .goto 2289, 3)]
theorem zct10 : zeTb xI_lw 8 lT10 = some zcc10 := by decide +kernel
theorem zcl10 : zeLt 518 zcc10 = true := by decide +kernel
noncomputable def zcc11 : List zeEn := [(518, .aload 1, 1), (519, .aload 0, 1), (520, .iload 4, 2), (522, .bipush 1, 1), (523, .iadd, 1), (524, .iaload, 1), (525, .aload 0, 1), (526, .iload 4, 2), (528, .bipush 2, 1), (529, .iadd, 1), (530, .iaload, 1), (531, .invokevirtual 64, 3), (534, .pop, 1), (535, .aload 2, 1), (536, .aload 0, 1), (537, .iload 4, 2), (539, .bipush 1, 1), (540, .iadd, 1), (541, .iaload, 1), (542, .aload 0, 1), (543, .iload 4, 2), (545, .bipush 2, 1), (546, .iadd, 1), (547, .iaload, 1), (548, .invokevirtual 67, 3), (551, .pop, 1), (552, .goto 2289, 3)]
theorem zct11 : zeTb xI_lw 8 lT11 = some zcc11 := by decide +kernel
theorem zcl11 : zeLt 555 zcc11 = true := by decide +kernel
noncomputable def zcc12 : List zeEn := [(555, .aload 1, 1), (556, .invokevirtual 68, 3), (559, .pop, 1), (560, .aload 2, 1), (561, .invokevirtual 71, 3), (564, .pop, 1), (565, .goto 2289, 3)]
theorem zct12 : zeTb xI_lw 8 lT12 = some zcc12 := by decide +kernel
theorem zcl12 : zeLt 568 zcc12 = true := by decide +kernel
noncomputable def zcc13 : List zeEn := [(568, .aload 1, 1), (569, .aload 0, 1), (570, .iload 4, 2), (572, .bipush 1, 1), (573, .iadd, 1), (574, .iaload, 1), (575, .invokevirtual 72, 3), (578, .pop, 1), (579, .aload 2, 1), (580, .aload 0, 1), (581, .iload 4, 2), (583, .bipush 1, 1), (584, .iadd, 1), (585, .iaload, 1), (586, .invokevirtual 75, 3), (589, .pop, 1), (590, .goto 2289, 3)]
theorem zct13 : zeTb xI_lw 8 lT13 = some zcc13 := by decide +kernel
theorem zcl13 : zeLt 593 zcc13 = true := by decide +kernel
noncomputable def zcc14 : List zeEn := [(593, .aload 1, 1), (594, .aload 0, 1), (595, .iload 4, 2), (597, .bipush 1, 1), (598, .iadd, 1), (599, .iaload, 1), (600, .aload 0, 1), (601, .iload 4, 2), (603, .bipush 2, 1), (604, .iadd, 1), (605, .iaload, 1), (606, .aload 0, 1), (607, .iload 4, 2), (609, .bipush 3, 1), (610, .iadd, 1), (611, .iaload, 1), (612, .invokevirtual 76, 3), (615, .pop, 1), (616, .aload 2, 1), (617, .aload 0, 1), (618, .iload 4, 2), (620, .bipush 1, 1), (621, .iadd, 1), (622, .iaload, 1), (623, .aload 0, 1), (624, .iload 4, 2), (626, .bipush 2, 1), (627, .iadd, 1), (628, .iaload, 1), (629, .aload 0, 1), (630, .iload 4, 2), (632, .bipush 3, 1), (633, .iadd, 1), (634, .iaload, 1), (635, .invokevirtual 80, 3), (638, .pop, 1), (639, .goto 2289, 3)]
theorem zct14 : zeTb xI_lw 8 lT14 = some zcc14 := by decide +kernel
theorem zcl14 : zeLt 642 zcc14 = true := by decide +kernel
noncomputable def zcc15 : List zeEn := [(642, .aload 1, 1), (643, .aload 0, 1), (644, .iload 4, 2), (646, .bipush 1, 1), (647, .iadd, 1), (648, .iaload, 1), (649, .aload 0, 1), (650, .iload 4, 2), (652, .bipush 2, 1), (653, .iadd, 1), (654, .iaload, 1), (655, .aload 0, 1), (656, .iload 4, 2), (658, .bipush 3, 1), (659, .iadd, 1), (660, .iaload, 1), (661, .invokevirtual 81, 3), (664, .pop, 1), (665, .aload 2, 1), (666, .aload 0, 1), (667, .iload 4, 2), (669, .bipush 1, 1), (670, .iadd, 1), (671, .iaload, 1), (672, .aload 0, 1), (673, .iload 4, 2), (675, .bipush 2, 1), (676, .iadd, 1), (677, .iaload, 1), (678, .aload 0, 1), (679, .iload 4, 2), (681, .bipush 3, 1), (682, .iadd, 1), (683, .iaload, 1), (684, .invokevirtual 84, 3), (687, .pop, 1), (688, .goto 2289, 3)]
theorem zct15 : zeTb xI_lw 8 lT15 = some zcc15 := by decide +kernel
theorem zcl15 : zeLt 691 zcc15 = true := by decide +kernel
noncomputable def zcc16 : List zeEn := [(691, .aload 1, 1), (692, .aload 0, 1), (693, .iload 4, 2), (695, .bipush 1, 1), (696, .iadd, 1), (697, .iaload, 1), (698, .aload 0, 1), (699, .iload 4, 2), (701, .bipush 2, 1), (702, .iadd, 1), (703, .iaload, 1), (704, .aload 0, 1), (705, .iload 4, 2), (707, .bipush 3, 1), (708, .iadd, 1), (709, .iaload, 1), (710, .invokevirtual 85, 3), (713, .pop, 1), (714, .aload 2, 1), (715, .aload 0, 1), (716, .iload 4, 2), (718, .bipush 1, 1), (719, .iadd, 1), (720, .iaload, 1), (721, .aload 0, 1), (722, .iload 4, 2), (724, .bipush 2, 1), (725, .iadd, 1), (726, .iaload, 1), (727, .aload 0, 1), (728, .iload 4, 2), (730, .bipush 3, 1), (731, .iadd, 1), (732, .iaload, 1), (733, .invokevirtual 88, 3), (736, .pop, 1), (737, .goto 2289, 3)]
theorem zct16 : zeTb xI_lw 8 lT16 = some zcc16 := by decide +kernel
theorem zcl16 : zeLt 740 zcc16 = true := by decide +kernel
noncomputable def zcc17 : List zeEn := [(740, .aload 1, 1), (741, .aload 0, 1), (742, .iload 4, 2), (744, .bipush 1, 1), (745, .iadd, 1), (746, .iaload, 1), (747, .aload 0, 1), (748, .iload 4, 2), (750, .bipush 2, 1), (751, .iadd, 1), (752, .iaload, 1), (753, .invokevirtual 89, 3), (756, .pop, 1), (757, .aload 2, 1), (758, .aload 0, 1), (759, .iload 4, 2), (761, .bipush 1, 1), (762, .iadd, 1), (763, .iaload, 1), (764, .aload 0, 1), (765, .iload 4, 2), (767, .bipush 2, 1), (768, .iadd, 1), (769, .iaload, 1), (770, .invokevirtual 92, 3), (773, .pop, 1), (774, .goto 2289, 3)]
theorem zct17 : zeTb xI_lw 8 lT17 = some zcc17 := by decide +kernel
theorem zcl17 : zeLt 777 zcc17 = true := by decide +kernel
noncomputable def zcc18 : List zeEn := [(777, .aload 1, 1), (778, .aload 0, 1), (779, .iload 4, 2), (781, .bipush 1, 1), (782, .iadd, 1), (783, .iaload, 1), (784, .aload 0, 1), (785, .iload 4, 2), (787, .bipush 2, 1), (788, .iadd, 1), (789, .iaload, 1), (790, .invokevirtual 93, 3), (793, .pop, 1), (794, .aload 2, 1), (795, .aload 0, 1), (796, .iload 4, 2), (798, .bipush 1, 1), (799, .iadd, 1), (800, .iaload, 1), (801, .aload 0, 1), (802, .iload 4, 2), (804, .bipush 2, 1), (805, .iadd, 1), (806, .iaload, 1), (807, .invokevirtual 96, 3), (810, .pop, 1), (811, .goto 2289, 3)]
theorem zct18 : zeTb xI_lw 8 lT18 = some zcc18 := by decide +kernel
theorem zcl18 : zeLt 814 zcc18 = true := by decide +kernel
noncomputable def zcc19 : List zeEn := [(814, .aload 1, 1), (815, .aload 0, 1), (816, .iload 4, 2), (818, .bipush 1, 1), (819, .iadd, 1), (820, .iaload, 1), (821, .aload 0, 1), (822, .iload 4, 2), (824, .bipush 2, 1), (825, .iadd, 1), (826, .iaload, 1), (827, .aload 0, 1), (828, .iload 4, 2), (830, .bipush 3, 1), (831, .iadd, 1), (832, .iaload, 1), (833, .invokevirtual 97, 3), (836, .pop, 1), (837, .aload 2, 1), (838, .aload 0, 1), (839, .iload 4, 2), (841, .bipush 1, 1), (842, .iadd, 1), (843, .iaload, 1), (844, .aload 0, 1), (845, .iload 4, 2), (847, .bipush 2, 1), (848, .iadd, 1), (849, .iaload, 1), (850, .aload 0, 1), (851, .iload 4, 2), (853, .bipush 3, 1), (854, .iadd, 1), (855, .iaload, 1), (856, .invokevirtual 100, 3), (859, .pop, 1), (860, .goto 2289, 3)]
theorem zct19 : zeTb xI_lw 8 lT19 = some zcc19 := by decide +kernel
theorem zcl19 : zeLt 863 zcc19 = true := by decide +kernel
noncomputable def zcc20 : List zeEn := [(863, .aload 1, 1), (864, .aload 0, 1), (865, .iload 4, 2), (867, .bipush 1, 1), (868, .iadd, 1), (869, .iaload, 1), (870, .aload 0, 1), (871, .iload 4, 2), (873, .bipush 2, 1), (874, .iadd, 1), (875, .iaload, 1), (876, .aload 0, 1), (877, .iload 4, 2), (879, .bipush 3, 1), (880, .iadd, 1), (881, .iaload, 1), (882, .aload 0, 1), (883, .iload 4, 2), (885, .bipush 4, 1), (886, .iadd, 1), (887, .iaload, 1), (888, .invokevirtual 101, 3), (891, .pop, 1), (892, .aload 2, 1), (893, .aload 0, 1), (894, .iload 4, 2), (896, .bipush 1, 1), (897, .iadd, 1), (898, .iaload, 1), (899, .aload 0, 1), (900, .iload 4, 2), (902, .bipush 2, 1), (903, .iadd, 1), (904, .iaload, 1), (905, .aload 0, 1), (906, .iload 4, 2), (908, .bipush 3, 1), (909, .iadd, 1), (910, .iaload, 1), (911, .aload 0, 1), (912, .iload 4, 2), (914, .bipush 4, 1), (915, .iadd, 1), (916, .iaload, 1), (917, .invokevirtual 104, 3), (920, .pop, 1), (921, .goto 2289, 3)]
theorem zct20 : zeTb xI_lw 8 lT20 = some zcc20 := by decide +kernel
theorem zcl20 : zeLt 924 zcc20 = true := by decide +kernel
noncomputable def zcc21 : List zeEn := [(924, .aload 1, 1), (925, .aload 0, 1), (926, .iload 4, 2), (928, .bipush 1, 1), (929, .iadd, 1), (930, .iaload, 1), (931, .invokevirtual 105, 3), (934, .pop, 1), (935, .aload 2, 1), (936, .aload 0, 1), (937, .iload 4, 2), (939, .bipush 1, 1), (940, .iadd, 1), (941, .iaload, 1), (942, .invokevirtual 108, 3), (945, .pop, 1), (946, .goto 2289, 3)]
theorem zct21 : zeTb xI_lw 8 lT21 = some zcc21 := by decide +kernel
theorem zcl21 : zeLt 949 zcc21 = true := by decide +kernel
noncomputable def zcc22 : List zeEn := [(949, .aload 1, 1), (950, .aload 0, 1), (951, .iload 4, 2), (953, .bipush 1, 1), (954, .iadd, 1), (955, .iaload, 1), (956, .aload 0, 1), (957, .iload 4, 2), (959, .bipush 2, 1), (960, .iadd, 1), (961, .iaload, 1), (962, .invokevirtual 109, 3), (965, .pop, 1), (966, .aload 2, 1), (967, .aload 0, 1), (968, .iload 4, 2), (970, .bipush 1, 1), (971, .iadd, 1), (972, .iaload, 1), (973, .aload 0, 1), (974, .iload 4, 2), (976, .bipush 2, 1), (977, .iadd, 1), (978, .iaload, 1), (979, .invokevirtual 112, 3), (982, .pop, 1), (983, .goto 2289, 3)]
theorem zct22 : zeTb xI_lw 8 lT22 = some zcc22 := by decide +kernel
theorem zcl22 : zeLt 986 zcc22 = true := by decide +kernel
noncomputable def zcc23 : List zeEn := [(986, .aload 1, 1), (987, .aload 0, 1), (988, .iload 4, 2), (990, .bipush 1, 1), (991, .iadd, 1), (992, .iaload, 1), (993, .invokevirtual 113, 3), (996, .pop, 1), (997, .aload 2, 1), (998, .aload 0, 1), (999, .iload 4, 2), (1001, .bipush 1, 1), (1002, .iadd, 1), (1003, .iaload, 1), (1004, .invokevirtual 116, 3), (1007, .pop, 1), (1008, .goto 2289, 3)]
theorem zct23 : zeTb xI_lw 8 lT23 = some zcc23 := by decide +kernel
theorem zcl23 : zeLt 1011 zcc23 = true := by decide +kernel
noncomputable def zcc24 : List zeEn := [(1011, .aload 1, 1), (1012, .aload 0, 1), (1013, .iload 4, 2), (1015, .bipush 1, 1), (1016, .iadd, 1), (1017, .iaload, 1), (1018, .invokevirtual 117, 3), (1021, .pop, 1), (1022, .aload 2, 1), (1023, .aload 0, 1), (1024, .iload 4, 2), (1026, .bipush 1, 1), (1027, .iadd, 1), (1028, .iaload, 1), (1029, .invokevirtual 120, 3), (1032, .pop, 1), (1033, .goto 2289, 3)]
theorem zct24 : zeTb xI_lw 8 lT24 = some zcc24 := by decide +kernel
theorem zcl24 : zeLt 1036 zcc24 = true := by decide +kernel
noncomputable def zcc25 : List zeEn := [(1036, .aload 1, 1), (1037, .aload 0, 1), (1038, .iload 4, 2), (1040, .bipush 1, 1), (1041, .iadd, 1), (1042, .iaload, 1), (1043, .invokevirtual 121, 3), (1046, .pop, 1), (1047, .aload 2, 1), (1048, .aload 0, 1), (1049, .iload 4, 2), (1051, .bipush 1, 1), (1052, .iadd, 1), (1053, .iaload, 1), (1054, .invokevirtual 124, 3), (1057, .pop, 1), (1058, .goto 2289, 3)]
theorem zct25 : zeTb xI_lw 8 lT25 = some zcc25 := by decide +kernel
theorem zcl25 : zeLt 1061 zcc25 = true := by decide +kernel
noncomputable def zcc26 : List zeEn := [(1061, .aload 1, 1), (1062, .aload 0, 1), (1063, .iload 4, 2), (1065, .bipush 1, 1), (1066, .iadd, 1), (1067, .iaload, 1), (1068, .aload 0, 1), (1069, .iload 4, 2), (1071, .bipush 2, 1), (1072, .iadd, 1), (1073, .iaload, 1), (1074, .aload 0, 1), (1075, .iload 4, 2), (1077, .bipush 3, 1), (1078, .iadd, 1), (1079, .iaload, 1), (1080, .aload 0, 1), (1081, .iload 4, 2), (1083, .bipush 4, 1), (1084, .iadd, 1), (1085, .iaload, 1), (1086, .aload 0, 1), (1087, .iload 4, 2), (1089, .bipush 5, 1), (1090, .iadd, 1), (1091, .iaload, 1), (1092, .invokevirtual 125, 3), (1095, .pop, 1), (1096, .aload 2, 1), (1097, .aload 0, 1), (1098, .iload 4, 2), (1100, .bipush 1, 1), (1101, .iadd, 1), (1102, .iaload, 1), (1103, .aload 0, 1), (1104, .iload 4, 2), (1106, .bipush 2, 1), (1107, .iadd, 1), (1108, .iaload, 1), (1109, .aload 0, 1), (1110, .iload 4, 2), (1112, .bipush 3, 1), (1113, .iadd, 1), (1114, .iaload, 1), (1115, .aload 0, 1), (1116, .iload 4, 2), (1118, .bipush 4, 1), (1119, .iadd, 1), (1120, .iaload, 1), (1121, .aload 0, 1), (1122, .iload 4, 2), (1124, .bipush 5, 1), (1125, .iadd, 1), (1126, .iaload, 1), (1127, .invokevirtual 129, 3), (1130, .pop, 1), (1131, .goto 2289, 3)]
theorem zct26 : zeTb xI_lw 8 lT26 = some zcc26 := by decide +kernel
theorem zcl26 : zeLt 1134 zcc26 = true := by decide +kernel
noncomputable def zcc27 : List zeEn := [(1134, .aload 1, 1), (1135, .aload 0, 1), (1136, .iload 4, 2), (1138, .bipush 1, 1), (1139, .iadd, 1), (1140, .iaload, 1), (1141, .aload 0, 1), (1142, .iload 4, 2), (1144, .bipush 2, 1), (1145, .iadd, 1), (1146, .iaload, 1), (1147, .aload 0, 1), (1148, .iload 4, 2), (1150, .bipush 3, 1), (1151, .iadd, 1), (1152, .iaload, 1), (1153, .invokevirtual 130, 3), (1156, .pop, 1), (1157, .aload 2, 1), (1158, .aload 0, 1), (1159, .iload 4, 2), (1161, .bipush 1, 1), (1162, .iadd, 1), (1163, .iaload, 1), (1164, .aload 0, 1), (1165, .iload 4, 2), (1167, .bipush 2, 1), (1168, .iadd, 1), (1169, .iaload, 1), (1170, .aload 0, 1), (1171, .iload 4, 2), (1173, .bipush 3, 1), (1174, .iadd, 1), (1175, .iaload, 1), (1176, .invokevirtual 133, 3), (1179, .pop, 1), (1180, .goto 2289, 3)]
theorem zct27 : zeTb xI_lw 8 lT27 = some zcc27 := by decide +kernel
theorem zcl27 : zeLt 1183 zcc27 = true := by decide +kernel
noncomputable def zcc28 : List zeEn := [(1183, .aload 1, 1), (1184, .aload 0, 1), (1185, .iload 4, 2), (1187, .bipush 1, 1), (1188, .iadd, 1), (1189, .iaload, 1), (1190, .aload 0, 1), (1191, .iload 4, 2), (1193, .bipush 2, 1), (1194, .iadd, 1), (1195, .iaload, 1), (1196, .invokevirtual 134, 3), (1199, .pop, 1), (1200, .aload 2, 1), (1201, .aload 0, 1), (1202, .iload 4, 2), (1204, .bipush 1, 1), (1205, .iadd, 1), (1206, .iaload, 1), (1207, .aload 0, 1), (1208, .iload 4, 2), (1210, .bipush 2, 1), (1211, .iadd, 1), (1212, .iaload, 1), (1213, .invokevirtual 137, 3), (1216, .pop, 1), (1217, .goto 2289, 3)]
theorem zct28 : zeTb xI_lw 8 lT28 = some zcc28 := by decide +kernel
theorem zcl28 : zeLt 1220 zcc28 = true := by decide +kernel
noncomputable def zcc29 : List zeEn := [(1220, .aload 1, 1), (1221, .aload 0, 1), (1222, .iload 4, 2), (1224, .bipush 1, 1), (1225, .iadd, 1), (1226, .iaload, 1), (1227, .aload 0, 1), (1228, .iload 4, 2), (1230, .bipush 2, 1), (1231, .iadd, 1), (1232, .iaload, 1), (1233, .invokevirtual 138, 3), (1236, .pop, 1), (1237, .aload 2, 1), (1238, .aload 0, 1), (1239, .iload 4, 2), (1241, .bipush 1, 1), (1242, .iadd, 1), (1243, .iaload, 1), (1244, .aload 0, 1), (1245, .iload 4, 2), (1247, .bipush 2, 1), (1248, .iadd, 1), (1249, .iaload, 1), (1250, .invokevirtual 141, 3), (1253, .pop, 1), (1254, .goto 2289, 3)]
theorem zct29 : zeTb xI_lw 8 lT29 = some zcc29 := by decide +kernel
theorem zcl29 : zeLt 1257 zcc29 = true := by decide +kernel
noncomputable def zcc30 : List zeEn := [(1257, .aload 1, 1), (1258, .invokevirtual 142, 3), (1261, .pop, 1), (1262, .aload 2, 1), (1263, .invokevirtual 145, 3), (1266, .pop, 1), (1267, .goto 2289, 3)]
theorem zct30 : zeTb xI_lw 8 lT30 = some zcc30 := by decide +kernel
theorem zcl30 : zeLt 1270 zcc30 = true := by decide +kernel
noncomputable def zcc31 : List zeEn := [(1270, .aload 1, 1), (1271, .aload 0, 1), (1272, .iload 4, 2), (1274, .bipush 1, 1), (1275, .iadd, 1), (1276, .iaload, 1), (1277, .invokevirtual 146, 3), (1280, .pop, 1), (1281, .aload 2, 1), (1282, .aload 0, 1), (1283, .iload 4, 2), (1285, .bipush 1, 1), (1286, .iadd, 1), (1287, .iaload, 1), (1288, .invokevirtual 149, 3), (1291, .pop, 1), (1292, .goto 2289, 3)]
theorem zct31 : zeTb xI_lw 8 lT31 = some zcc31 := by decide +kernel
theorem zcl31 : zeLt 1295 zcc31 = true := by decide +kernel
noncomputable def zcc32 : List zeEn := [(1295, .aload 1, 1), (1296, .aload 0, 1), (1297, .iload 4, 2), (1299, .bipush 1, 1), (1300, .iadd, 1), (1301, .iaload, 1), (1302, .invokevirtual 150, 3), (1305, .pop, 1), (1306, .aload 2, 1), (1307, .aload 0, 1), (1308, .iload 4, 2), (1310, .bipush 1, 1), (1311, .iadd, 1), (1312, .iaload, 1), (1313, .invokevirtual 153, 3), (1316, .pop, 1), (1317, .goto 2289, 3)]
theorem zct32 : zeTb xI_lw 8 lT32 = some zcc32 := by decide +kernel
theorem zcl32 : zeLt 1320 zcc32 = true := by decide +kernel
noncomputable def zcc33 : List zeEn := [(1320, .aload 1, 1), (1321, .aload 0, 1), (1322, .iload 4, 2), (1324, .bipush 1, 1), (1325, .iadd, 1), (1326, .iaload, 1), (1327, .aload 0, 1), (1328, .iload 4, 2), (1330, .bipush 2, 1), (1331, .iadd, 1), (1332, .iaload, 1), (1333, .invokevirtual 154, 3), (1336, .pop, 1), (1337, .aload 2, 1), (1338, .aload 0, 1), (1339, .iload 4, 2), (1341, .bipush 1, 1), (1342, .iadd, 1), (1343, .iaload, 1), (1344, .aload 0, 1), (1345, .iload 4, 2), (1347, .bipush 2, 1), (1348, .iadd, 1), (1349, .iaload, 1), (1350, .invokevirtual 157, 3), (1353, .pop, 1), (1354, .goto 2289, 3)]
theorem zct33 : zeTb xI_lw 8 lT33 = some zcc33 := by decide +kernel
theorem zcl33 : zeLt 1357 zcc33 = true := by decide +kernel
noncomputable def zcc34 : List zeEn := [(1357, .aload 1, 1), (1358, .aload 0, 1), (1359, .iload 4, 2), (1361, .bipush 1, 1), (1362, .iadd, 1), (1363, .iaload, 1), (1364, .aload 0, 1), (1365, .iload 4, 2), (1367, .bipush 2, 1), (1368, .iadd, 1), (1369, .iaload, 1), (1370, .aload 0, 1), (1371, .iload 4, 2), (1373, .bipush 3, 1), (1374, .iadd, 1), (1375, .iaload, 1), (1376, .aload 0, 1), (1377, .iload 4, 2), (1379, .bipush 4, 1), (1380, .iadd, 1), (1381, .iaload, 1), (1382, .aload 0, 1), (1383, .iload 4, 2), (1385, .bipush 5, 1), (1386, .iadd, 1), (1387, .iaload, 1), (1388, .invokevirtual 158, 3), (1391, .pop, 1), (1392, .aload 2, 1), (1393, .aload 0, 1), (1394, .iload 4, 2), (1396, .bipush 1, 1), (1397, .iadd, 1), (1398, .iaload, 1), (1399, .aload 0, 1), (1400, .iload 4, 2), (1402, .bipush 2, 1), (1403, .iadd, 1), (1404, .iaload, 1), (1405, .aload 0, 1), (1406, .iload 4, 2), (1408, .bipush 3, 1), (1409, .iadd, 1), (1410, .iaload, 1), (1411, .aload 0, 1), (1412, .iload 4, 2), (1414, .bipush 4, 1), (1415, .iadd, 1), (1416, .iaload, 1), (1417, .aload 0, 1), (1418, .iload 4, 2), (1420, .bipush 5, 1), (1421, .iadd, 1), (1422, .iaload, 1), (1423, .invokevirtual 161, 3), (1426, .pop, 1), (1427, .goto 2289, 3)]
theorem zct34 : zeTb xI_lw 8 lT34 = some zcc34 := by decide +kernel
theorem zcl34 : zeLt 1430 zcc34 = true := by decide +kernel
noncomputable def zcc35 : List zeEn := [(1430, .aload 1, 1), (1431, .aload 0, 1), (1432, .iload 4, 2), (1434, .bipush 1, 1), (1435, .iadd, 1), (1436, .iaload, 1), (1437, .aload 0, 1), (1438, .iload 4, 2), (1440, .bipush 2, 1), (1441, .iadd, 1), (1442, .iaload, 1), (1443, .aload 0, 1), (1444, .iload 4, 2), (1446, .bipush 3, 1), (1447, .iadd, 1), (1448, .iaload, 1), (1449, .aload 0, 1), (1450, .iload 4, 2), (1452, .bipush 4, 1), (1453, .iadd, 1), (1454, .iaload, 1), (1455, .invokevirtual 162, 3), (1458, .pop, 1), (1459, .aload 2, 1), (1460, .aload 0, 1), (1461, .iload 4, 2), (1463, .bipush 1, 1), (1464, .iadd, 1), (1465, .iaload, 1), (1466, .aload 0, 1), (1467, .iload 4, 2), (1469, .bipush 2, 1), (1470, .iadd, 1), (1471, .iaload, 1), (1472, .aload 0, 1), (1473, .iload 4, 2), (1475, .bipush 3, 1), (1476, .iadd, 1), (1477, .iaload, 1), (1478, .aload 0, 1), (1479, .iload 4, 2), (1481, .bipush 4, 1), (1482, .iadd, 1), (1483, .iaload, 1), (1484, .invokevirtual 165, 3), (1487, .pop, 1), (1488, .goto 2289, 3)]
theorem zct35 : zeTb xI_lw 8 lT35 = some zcc35 := by decide +kernel
theorem zcl35 : zeLt 1491 zcc35 = true := by decide +kernel
noncomputable def zcc36 : List zeEn := [(1491, .aload 1, 1), (1492, .aload 0, 1), (1493, .iload 4, 2), (1495, .bipush 1, 1), (1496, .iadd, 1), (1497, .iaload, 1), (1498, .aload 0, 1), (1499, .iload 4, 2), (1501, .bipush 2, 1), (1502, .iadd, 1), (1503, .iaload, 1), (1504, .aload 0, 1), (1505, .iload 4, 2), (1507, .bipush 3, 1), (1508, .iadd, 1), (1509, .iaload, 1), (1510, .aload 0, 1), (1511, .iload 4, 2), (1513, .bipush 4, 1), (1514, .iadd, 1), (1515, .iaload, 1), (1516, .aload 0, 1), (1517, .iload 4, 2), (1519, .bipush 5, 1), (1520, .iadd, 1), (1521, .iaload, 1), (1522, .invokevirtual 166, 3), (1525, .pop, 1), (1526, .aload 2, 1), (1527, .aload 0, 1), (1528, .iload 4, 2), (1530, .bipush 1, 1), (1531, .iadd, 1), (1532, .iaload, 1), (1533, .aload 0, 1), (1534, .iload 4, 2), (1536, .bipush 2, 1), (1537, .iadd, 1), (1538, .iaload, 1), (1539, .aload 0, 1), (1540, .iload 4, 2), (1542, .bipush 3, 1), (1543, .iadd, 1), (1544, .iaload, 1), (1545, .aload 0, 1), (1546, .iload 4, 2), (1548, .bipush 4, 1), (1549, .iadd, 1), (1550, .iaload, 1), (1551, .aload 0, 1), (1552, .iload 4, 2), (1554, .bipush 5, 1), (1555, .iadd, 1), (1556, .iaload, 1), (1557, .invokevirtual 169, 3), (1560, .pop, 1), (1561, .goto 2289, 3)]
theorem zct36 : zeTb xI_lw 8 lT36 = some zcc36 := by decide +kernel
theorem zcl36 : zeLt 1564 zcc36 = true := by decide +kernel
noncomputable def zcc37 : List zeEn := [(1564, .aload 1, 1), (1565, .aload 0, 1), (1566, .iload 4, 2), (1568, .bipush 1, 1), (1569, .iadd, 1), (1570, .iaload, 1), (1571, .aload 0, 1), (1572, .iload 4, 2), (1574, .bipush 2, 1), (1575, .iadd, 1), (1576, .iaload, 1), (1577, .aload 0, 1), (1578, .iload 4, 2), (1580, .bipush 3, 1), (1581, .iadd, 1), (1582, .iaload, 1), (1583, .aload 0, 1), (1584, .iload 4, 2), (1586, .bipush 4, 1), (1587, .iadd, 1), (1588, .iaload, 1), (1589, .invokevirtual 170, 3), (1592, .pop, 1), (1593, .aload 2, 1), (1594, .aload 0, 1), (1595, .iload 4, 2), (1597, .bipush 1, 1), (1598, .iadd, 1), (1599, .iaload, 1), (1600, .aload 0, 1), (1601, .iload 4, 2), (1603, .bipush 2, 1), (1604, .iadd, 1), (1605, .iaload, 1), (1606, .aload 0, 1), (1607, .iload 4, 2), (1609, .bipush 3, 1), (1610, .iadd, 1), (1611, .iaload, 1), (1612, .aload 0, 1), (1613, .iload 4, 2), (1615, .bipush 4, 1), (1616, .iadd, 1), (1617, .iaload, 1), (1618, .invokevirtual 173, 3), (1621, .pop, 1), (1622, .goto 2289, 3)]
theorem zct37 : zeTb xI_lw 8 lT37 = some zcc37 := by decide +kernel
theorem zcl37 : zeLt 1625 zcc37 = true := by decide +kernel
noncomputable def zcc38 : List zeEn := [(1625, .aload 1, 1), (1626, .aload 0, 1), (1627, .iload 4, 2), (1629, .bipush 1, 1), (1630, .iadd, 1), (1631, .iaload, 1), (1632, .aload 0, 1), (1633, .iload 4, 2), (1635, .bipush 2, 1), (1636, .iadd, 1), (1637, .iaload, 1), (1638, .aload 0, 1), (1639, .iload 4, 2), (1641, .bipush 3, 1), (1642, .iadd, 1), (1643, .iaload, 1), (1644, .aload 0, 1), (1645, .iload 4, 2), (1647, .bipush 4, 1), (1648, .iadd, 1), (1649, .iaload, 1), (1650, .aload 0, 1), (1651, .iload 4, 2), (1653, .bipush 5, 1), (1654, .iadd, 1), (1655, .iaload, 1), (1656, .invokevirtual 174, 3), (1659, .pop, 1), (1660, .aload 2, 1), (1661, .aload 0, 1), (1662, .iload 4, 2), (1664, .bipush 1, 1), (1665, .iadd, 1), (1666, .iaload, 1), (1667, .aload 0, 1), (1668, .iload 4, 2), (1670, .bipush 2, 1), (1671, .iadd, 1), (1672, .iaload, 1), (1673, .aload 0, 1), (1674, .iload 4, 2), (1676, .bipush 3, 1), (1677, .iadd, 1), (1678, .iaload, 1), (1679, .aload 0, 1), (1680, .iload 4, 2), (1682, .bipush 4, 1), (1683, .iadd, 1), (1684, .iaload, 1), (1685, .aload 0, 1), (1686, .iload 4, 2), (1688, .bipush 5, 1), (1689, .iadd, 1), (1690, .iaload, 1), (1691, .invokevirtual 177, 3), (1694, .pop, 1), (1695, .goto 2289, 3)]
theorem zct38 : zeTb xI_lw 8 lT38 = some zcc38 := by decide +kernel
theorem zcl38 : zeLt 1698 zcc38 = true := by decide +kernel
noncomputable def zcc39 : List zeEn := [(1698, .aload 1, 1), (1699, .aload 0, 1), (1700, .iload 4, 2), (1702, .bipush 1, 1), (1703, .iadd, 1), (1704, .iaload, 1), (1705, .aload 0, 1), (1706, .iload 4, 2), (1708, .bipush 2, 1), (1709, .iadd, 1), (1710, .iaload, 1), (1711, .aload 0, 1), (1712, .iload 4, 2), (1714, .bipush 3, 1), (1715, .iadd, 1), (1716, .iaload, 1), (1717, .invokevirtual 178, 3), (1720, .pop, 1), (1721, .aload 2, 1), (1722, .aload 0, 1), (1723, .iload 4, 2), (1725, .bipush 1, 1), (1726, .iadd, 1), (1727, .iaload, 1), (1728, .aload 0, 1), (1729, .iload 4, 2), (1731, .bipush 2, 1), (1732, .iadd, 1), (1733, .iaload, 1), (1734, .aload 0, 1), (1735, .iload 4, 2), (1737, .bipush 3, 1), (1738, .iadd, 1), (1739, .iaload, 1), (1740, .invokevirtual 181, 3), (1743, .pop, 1), (1744, .goto 2289, 3)]
theorem zct39 : zeTb xI_lw 8 lT39 = some zcc39 := by decide +kernel
theorem zcl39 : zeLt 1747 zcc39 = true := by decide +kernel
noncomputable def zcc40 : List zeEn := [(1747, .aload 1, 1), (1748, .aload 0, 1), (1749, .iload 4, 2), (1751, .bipush 1, 1), (1752, .iadd, 1), (1753, .iaload, 1), (1754, .aload 0, 1), (1755, .iload 4, 2), (1757, .bipush 2, 1), (1758, .iadd, 1), (1759, .iaload, 1), (1760, .aload 0, 1), (1761, .iload 4, 2), (1763, .bipush 3, 1), (1764, .iadd, 1), (1765, .iaload, 1), (1766, .aload 0, 1), (1767, .iload 4, 2), (1769, .bipush 4, 1), (1770, .iadd, 1), (1771, .iaload, 1), (1772, .invokevirtual 182, 3), (1775, .pop, 1), (1776, .aload 2, 1), (1777, .aload 0, 1), (1778, .iload 4, 2), (1780, .bipush 1, 1), (1781, .iadd, 1), (1782, .iaload, 1), (1783, .aload 0, 1), (1784, .iload 4, 2), (1786, .bipush 2, 1), (1787, .iadd, 1), (1788, .iaload, 1), (1789, .aload 0, 1), (1790, .iload 4, 2), (1792, .bipush 3, 1), (1793, .iadd, 1), (1794, .iaload, 1), (1795, .aload 0, 1), (1796, .iload 4, 2), (1798, .bipush 4, 1), (1799, .iadd, 1), (1800, .iaload, 1), (1801, .invokevirtual 185, 3), (1804, .pop, 1), (1805, .goto 2289, 3)]
theorem zct40 : zeTb xI_lw 8 lT40 = some zcc40 := by decide +kernel
theorem zcl40 : zeLt 1808 zcc40 = true := by decide +kernel
noncomputable def zcc41 : List zeEn := [(1808, .aload 1, 1), (1809, .aload 0, 1), (1810, .iload 4, 2), (1812, .bipush 1, 1), (1813, .iadd, 1), (1814, .iaload, 1), (1815, .aload 0, 1), (1816, .iload 4, 2), (1818, .bipush 2, 1), (1819, .iadd, 1), (1820, .iaload, 1), (1821, .aload 0, 1), (1822, .iload 4, 2), (1824, .bipush 3, 1), (1825, .iadd, 1), (1826, .iaload, 1), (1827, .aload 0, 1), (1828, .iload 4, 2), (1830, .bipush 4, 1), (1831, .iadd, 1), (1832, .iaload, 1), (1833, .aload 0, 1), (1834, .iload 4, 2), (1836, .bipush 5, 1), (1837, .iadd, 1), (1838, .iaload, 1), (1839, .invokevirtual 186, 3), (1842, .pop, 1), (1843, .aload 2, 1), (1844, .aload 0, 1), (1845, .iload 4, 2), (1847, .bipush 1, 1), (1848, .iadd, 1), (1849, .iaload, 1), (1850, .aload 0, 1), (1851, .iload 4, 2), (1853, .bipush 2, 1), (1854, .iadd, 1), (1855, .iaload, 1), (1856, .aload 0, 1), (1857, .iload 4, 2), (1859, .bipush 3, 1), (1860, .iadd, 1), (1861, .iaload, 1), (1862, .aload 0, 1), (1863, .iload 4, 2), (1865, .bipush 4, 1), (1866, .iadd, 1), (1867, .iaload, 1), (1868, .aload 0, 1), (1869, .iload 4, 2), (1871, .bipush 5, 1), (1872, .iadd, 1), (1873, .iaload, 1), (1874, .invokevirtual 189, 3), (1877, .pop, 1), (1878, .goto 2289, 3)]
theorem zct41 : zeTb xI_lw 8 lT41 = some zcc41 := by decide +kernel
theorem zcl41 : zeLt 1881 zcc41 = true := by decide +kernel
noncomputable def zcc42 : List zeEn := [(1881, .aload 1, 1), (1882, .aload 0, 1), (1883, .iload 4, 2), (1885, .bipush 1, 1), (1886, .iadd, 1), (1887, .iaload, 1), (1888, .invokevirtual 190, 3), (1891, .pop, 1), (1892, .aload 2, 1), (1893, .aload 0, 1), (1894, .iload 4, 2), (1896, .bipush 1, 1), (1897, .iadd, 1), (1898, .iaload, 1), (1899, .invokevirtual 193, 3), (1902, .pop, 1), (1903, .goto 2289, 3)]
theorem zct42 : zeTb xI_lw 8 lT42 = some zcc42 := by decide +kernel
theorem zcl42 : zeLt 1906 zcc42 = true := by decide +kernel
noncomputable def zcc43 : List zeEn := [(1906, .aload 1, 1), (1907, .aload 0, 1), (1908, .iload 4, 2), (1910, .bipush 1, 1), (1911, .iadd, 1), (1912, .iaload, 1), (1913, .aload 0, 1), (1914, .iload 4, 2), (1916, .bipush 2, 1), (1917, .iadd, 1), (1918, .iaload, 1), (1919, .aload 0, 1), (1920, .iload 4, 2), (1922, .bipush 3, 1), (1923, .iadd, 1), (1924, .iaload, 1), (1925, .aload 0, 1), (1926, .iload 4, 2), (1928, .bipush 4, 1), (1929, .iadd, 1), (1930, .iaload, 1), (1931, .aload 0, 1), (1932, .iload 4, 2), (1934, .bipush 5, 1), (1935, .iadd, 1), (1936, .iaload, 1), (1937, .invokevirtual 194, 3), (1940, .pop, 1), (1941, .aload 2, 1), (1942, .aload 0, 1), (1943, .iload 4, 2), (1945, .bipush 1, 1), (1946, .iadd, 1), (1947, .iaload, 1), (1948, .aload 0, 1), (1949, .iload 4, 2), (1951, .bipush 2, 1), (1952, .iadd, 1), (1953, .iaload, 1), (1954, .aload 0, 1), (1955, .iload 4, 2), (1957, .bipush 3, 1), (1958, .iadd, 1), (1959, .iaload, 1), (1960, .aload 0, 1), (1961, .iload 4, 2), (1963, .bipush 4, 1), (1964, .iadd, 1), (1965, .iaload, 1), (1966, .aload 0, 1), (1967, .iload 4, 2), (1969, .bipush 5, 1), (1970, .iadd, 1), (1971, .iaload, 1), (1972, .invokevirtual 197, 3), (1975, .pop, 1), (1976, .goto 2289, 3)]
theorem zct43 : zeTb xI_lw 8 lT43 = some zcc43 := by decide +kernel
theorem zcl43 : zeLt 1979 zcc43 = true := by decide +kernel
noncomputable def zcc44 : List zeEn := [(1979, .aload 1, 1), (1980, .aload 0, 1), (1981, .iload 4, 2), (1983, .bipush 1, 1), (1984, .iadd, 1), (1985, .iaload, 1), (1986, .aload 0, 1), (1987, .iload 4, 2), (1989, .bipush 2, 1), (1990, .iadd, 1), (1991, .iaload, 1), (1992, .aload 0, 1), (1993, .iload 4, 2), (1995, .bipush 3, 1), (1996, .iadd, 1), (1997, .iaload, 1), (1998, .aload 0, 1), (1999, .iload 4, 2), (2001, .bipush 4, 1), (2002, .iadd, 1), (2003, .iaload, 1), (2004, .invokevirtual 198, 3), (2007, .pop, 1), (2008, .aload 2, 1), (2009, .aload 0, 1), (2010, .iload 4, 2), (2012, .bipush 1, 1), (2013, .iadd, 1), (2014, .iaload, 1), (2015, .aload 0, 1), (2016, .iload 4, 2), (2018, .bipush 2, 1), (2019, .iadd, 1), (2020, .iaload, 1), (2021, .aload 0, 1), (2022, .iload 4, 2), (2024, .bipush 3, 1), (2025, .iadd, 1), (2026, .iaload, 1), (2027, .aload 0, 1), (2028, .iload 4, 2), (2030, .bipush 4, 1), (2031, .iadd, 1), (2032, .iaload, 1), (2033, .invokevirtual 201, 3), (2036, .pop, 1), (2037, .goto 2289, 3)]
theorem zct44 : zeTb xI_lw 8 lT44 = some zcc44 := by decide +kernel
theorem zcl44 : zeLt 2040 zcc44 = true := by decide +kernel
noncomputable def zcc45 : List zeEn := [(2040, .aload 1, 1), (2041, .aload 0, 1), (2042, .iload 4, 2), (2044, .bipush 1, 1), (2045, .iadd, 1), (2046, .iaload, 1), (2047, .aload 0, 1), (2048, .iload 4, 2), (2050, .bipush 2, 1), (2051, .iadd, 1), (2052, .iaload, 1), (2053, .aload 0, 1), (2054, .iload 4, 2), (2056, .bipush 3, 1), (2057, .iadd, 1), (2058, .iaload, 1), (2059, .aload 0, 1), (2060, .iload 4, 2), (2062, .bipush 4, 1), (2063, .iadd, 1), (2064, .iaload, 1), (2065, .aload 0, 1), (2066, .iload 4, 2), (2068, .bipush 5, 1), (2069, .iadd, 1), (2070, .iaload, 1), (2071, .invokevirtual 202, 3), (2074, .pop, 1), (2075, .aload 2, 1), (2076, .aload 0, 1), (2077, .iload 4, 2), (2079, .bipush 1, 1), (2080, .iadd, 1), (2081, .iaload, 1), (2082, .aload 0, 1), (2083, .iload 4, 2), (2085, .bipush 2, 1), (2086, .iadd, 1), (2087, .iaload, 1), (2088, .aload 0, 1), (2089, .iload 4, 2), (2091, .bipush 3, 1), (2092, .iadd, 1), (2093, .iaload, 1), (2094, .aload 0, 1), (2095, .iload 4, 2), (2097, .bipush 4, 1), (2098, .iadd, 1), (2099, .iaload, 1), (2100, .aload 0, 1), (2101, .iload 4, 2), (2103, .bipush 5, 1), (2104, .iadd, 1), (2105, .iaload, 1), (2106, .invokevirtual 205, 3), (2109, .pop, 1), (2110, .goto 2289, 3)]
theorem zct45 : zeTb xI_lw 8 lT45 = some zcc45 := by decide +kernel
theorem zcl45 : zeLt 2113 zcc45 = true := by decide +kernel
noncomputable def zcc46 : List zeEn := [(2113, .aload 1, 1), (2114, .aload 0, 1), (2115, .iload 4, 2), (2117, .bipush 1, 1), (2118, .iadd, 1), (2119, .iaload, 1), (2120, .aload 0, 1), (2121, .iload 4, 2), (2123, .bipush 2, 1), (2124, .iadd, 1), (2125, .iaload, 1), (2126, .aload 0, 1), (2127, .iload 4, 2), (2129, .bipush 3, 1), (2130, .iadd, 1), (2131, .iaload, 1), (2132, .aload 0, 1), (2133, .iload 4, 2), (2135, .bipush 4, 1), (2136, .iadd, 1), (2137, .iaload, 1), (2138, .aload 0, 1), (2139, .iload 4, 2), (2141, .bipush 5, 1), (2142, .iadd, 1), (2143, .iaload, 1), (2144, .invokevirtual 206, 3), (2147, .pop, 1), (2148, .aload 2, 1), (2149, .aload 0, 1), (2150, .iload 4, 2), (2152, .bipush 1, 1), (2153, .iadd, 1), (2154, .iaload, 1), (2155, .aload 0, 1), (2156, .iload 4, 2), (2158, .bipush 2, 1), (2159, .iadd, 1), (2160, .iaload, 1), (2161, .aload 0, 1), (2162, .iload 4, 2), (2164, .bipush 3, 1), (2165, .iadd, 1), (2166, .iaload, 1), (2167, .aload 0, 1), (2168, .iload 4, 2), (2170, .bipush 4, 1), (2171, .iadd, 1), (2172, .iaload, 1), (2173, .aload 0, 1), (2174, .iload 4, 2), (2176, .bipush 5, 1), (2177, .iadd, 1), (2178, .iaload, 1), (2179, .invokevirtual 209, 3), (2182, .pop, 1), (2183, .goto 2289, 3)]
theorem zct46 : zeTb xI_lw 8 lT46 = some zcc46 := by decide +kernel
theorem zcl46 : zeLt 2186 zcc46 = true := by decide +kernel
noncomputable def zcc47 : List zeEn := [(2186, .aload 1, 1), (2187, .aload 0, 1), (2188, .iload 4, 2), (2190, .bipush 1, 1), (2191, .iadd, 1), (2192, .iaload, 1), (2193, .invokevirtual 210, 3), (2196, .aload 2, 1), (2197, .aload 0, 1), (2198, .iload 4, 2), (2200, .bipush 1, 1), (2201, .iadd, 1), (2202, .iaload, 1), (2203, .invokevirtual 213, 3), (2206, .if_icmp .eq 2289, 3), (2209, .bipush 0, 1), (2210, .ireturn, 1)]
theorem zct47 : zeTb xI_lw 8 lT47 = some zcc47 := by decide +kernel
theorem zcl47 : zeLt 2211 zcc47 = true := by decide +kernel
noncomputable def zcc48 : List zeEn := [(2211, .aload 1, 1), (2212, .aload 0, 1), (2213, .iload 4, 2), (2215, .bipush 1, 1), (2216, .iadd, 1), (2217, .iaload, 1), (2218, .invokevirtual 214, 3), (2221, .pop, 1), (2222, .aload 2, 1), (2223, .aload 0, 1), (2224, .iload 4, 2), (2226, .bipush 1, 1), (2227, .iadd, 1), (2228, .iaload, 1), (2229, .invokevirtual 217, 3), (2232, .pop, 1), (2233, .goto 2289, 3)]
theorem zct48 : zeTb xI_lw 8 lT48 = some zcc48 := by decide +kernel
theorem zcl48 : zeLt 2236 zcc48 = true := by decide +kernel
noncomputable def zcc49 : List zeEn := [(2236, .aload 1, 1), (2237, .aload 0, 1), (2238, .iload 4, 2), (2240, .bipush 1, 1), (2241, .iadd, 1), (2242, .iaload, 1), (2243, .invokevirtual 218, 3), (2246, .pop, 1), (2247, .aload 2, 1), (2248, .aload 0, 1), (2249, .iload 4, 2), (2251, .bipush 1, 1), (2252, .iadd, 1), (2253, .iaload, 1), (2254, .invokevirtual 221, 3), (2257, .pop, 1), (2258, .goto 2289, 3)]
theorem zct49 : zeTb xI_lw 8 lT49 = some zcc49 := by decide +kernel
theorem zcl49 : zeLt 2261 zcc49 = true := by decide +kernel
noncomputable def zcc50 : List zeEn := [(2261, .aload 1, 1), (2262, .aload 0, 1), (2263, .iload 4, 2), (2265, .bipush 1, 1), (2266, .iadd, 1), (2267, .iaload, 1), (2268, .aload 3, 1), (2269, .invokestatic 100222, 3), (2272, .istore 5, 2), (2274, .aload 2, 1), (2275, .aload 0, 1), (2276, .iload 4, 2), (2278, .bipush 1, 1), (2279, .iadd, 1), (2280, .iaload, 1), (2281, .invokevirtual 227, 3), (2284, .lstore 6, 2), (2286, .goto 2289, 3)]
theorem zct50 : zeTb xI_lw 8 lT50 = some zcc50 := by decide +kernel
theorem zcl50 : zeLt 2289 zcc50 = true := by decide +kernel
noncomputable def zcc51 : List zeEn := [(2289, .iinc 4 6, 3), (2292, .goto 23, 3), (2295, .bipush 1, 1), (2296, .ireturn, 1)]
theorem zct51 : zeTb xI_lw 8 lT51 = some zcc51 := by decide +kernel
noncomputable def zcs51 : List zeEn := zcc51
noncomputable def zcs50 : List zeEn := zcc50 ++ zcs51
noncomputable def zcs49 : List zeEn := zcc49 ++ zcs50
noncomputable def zcs48 : List zeEn := zcc48 ++ zcs49
noncomputable def zcs47 : List zeEn := zcc47 ++ zcs48
noncomputable def zcs46 : List zeEn := zcc46 ++ zcs47
noncomputable def zcs45 : List zeEn := zcc45 ++ zcs46
noncomputable def zcs44 : List zeEn := zcc44 ++ zcs45
noncomputable def zcs43 : List zeEn := zcc43 ++ zcs44
noncomputable def zcs42 : List zeEn := zcc42 ++ zcs43
noncomputable def zcs41 : List zeEn := zcc41 ++ zcs42
noncomputable def zcs40 : List zeEn := zcc40 ++ zcs41
noncomputable def zcs39 : List zeEn := zcc39 ++ zcs40
noncomputable def zcs38 : List zeEn := zcc38 ++ zcs39
noncomputable def zcs37 : List zeEn := zcc37 ++ zcs38
noncomputable def zcs36 : List zeEn := zcc36 ++ zcs37
noncomputable def zcs35 : List zeEn := zcc35 ++ zcs36
noncomputable def zcs34 : List zeEn := zcc34 ++ zcs35
noncomputable def zcs33 : List zeEn := zcc33 ++ zcs34
noncomputable def zcs32 : List zeEn := zcc32 ++ zcs33
noncomputable def zcs31 : List zeEn := zcc31 ++ zcs32
noncomputable def zcs30 : List zeEn := zcc30 ++ zcs31
noncomputable def zcs29 : List zeEn := zcc29 ++ zcs30
noncomputable def zcs28 : List zeEn := zcc28 ++ zcs29
noncomputable def zcs27 : List zeEn := zcc27 ++ zcs28
noncomputable def zcs26 : List zeEn := zcc26 ++ zcs27
noncomputable def zcs25 : List zeEn := zcc25 ++ zcs26
noncomputable def zcs24 : List zeEn := zcc24 ++ zcs25
noncomputable def zcs23 : List zeEn := zcc23 ++ zcs24
noncomputable def zcs22 : List zeEn := zcc22 ++ zcs23
noncomputable def zcs21 : List zeEn := zcc21 ++ zcs22
noncomputable def zcs20 : List zeEn := zcc20 ++ zcs21
noncomputable def zcs19 : List zeEn := zcc19 ++ zcs20
noncomputable def zcs18 : List zeEn := zcc18 ++ zcs19
noncomputable def zcs17 : List zeEn := zcc17 ++ zcs18
noncomputable def zcs16 : List zeEn := zcc16 ++ zcs17
noncomputable def zcs15 : List zeEn := zcc15 ++ zcs16
noncomputable def zcs14 : List zeEn := zcc14 ++ zcs15
noncomputable def zcs13 : List zeEn := zcc13 ++ zcs14
noncomputable def zcs12 : List zeEn := zcc12 ++ zcs13
noncomputable def zcs11 : List zeEn := zcc11 ++ zcs12
noncomputable def zcs10 : List zeEn := zcc10 ++ zcs11
noncomputable def zcs9 : List zeEn := zcc9 ++ zcs10
noncomputable def zcs8 : List zeEn := zcc8 ++ zcs9
noncomputable def zcs7 : List zeEn := zcc7 ++ zcs8
noncomputable def zcs6 : List zeEn := zcc6 ++ zcs7
noncomputable def zcs5 : List zeEn := zcc5 ++ zcs6
noncomputable def zcs4 : List zeEn := zcc4 ++ zcs5
noncomputable def zcs3 : List zeEn := zcc3 ++ zcs4
noncomputable def zcs2 : List zeEn := zcc2 ++ zcs3
noncomputable def zcs1 : List zeEn := zcc1 ++ zcs2
noncomputable def zcs0 : List zeEn := zcc0 ++ zcs1
theorem zcb : zeTb xI_lw 8 xI_lw.1 = some zcs0 ∧ zeCq zcs0 = true := ⟨zeTb_app (zeTb_app (zeTb_app (zeTb_app (zeTb_app (zeTb_app (zeTb_app (zeTb_app (zeTb_app (zeTb_app (zeTb_app (zeTb_app (zeTb_app (zeTb_app (zeTb_app (zeTb_app (zeTb_app (zeTb_app (zeTb_app (zeTb_app (zeTb_app (zeTb_app (zeTb_app (zeTb_app (zeTb_app (zeTb_app (zeTb_app (zeTb_app (zeTb_app (zeTb_app (zeTb_app (zeTb_app (zeTb_app (zeTb_app (zeTb_app (zeTb_app (zeTb_app (zeTb_app (zeTb_app (zeTb_app (zeTb_app (zeTb_app (zeTb_app (zeTb_app (zeTb_app (zeTb_app (zeTb_app (zeTb_app (zeTb_app (zeTb_app (zeTb_app (zct51) zct50) zct49) zct48) zct47) zct46) zct45) zct44) zct43) zct42) zct41) zct40) zct39) zct38) zct37) zct36) zct35) zct34) zct33) zct32) zct31) zct30) zct29) zct28) zct27) zct26) zct25) zct24) zct23) zct22) zct21) zct20) zct19) zct18) zct17) zct16) zct15) zct14) zct13) zct12) zct11) zct10) zct9) zct8) zct7) zct6) zct5) zct4) zct3) zct2) zct1) zct0, by decide +kernel⟩
theorem zcn0 : ∀ t, 23 ≤ t → zeSk t zcs0 = zeSk t zcs0 := fun _ _ => rfl
theorem zcn1 : ∀ t, 256 ≤ t → zeSk t zcs0 = zeSk t zcs1 := fun t h => (zcn0 t (Nat.le_trans (by decide) h)).trans (zeSk_lt h zcl0)
theorem zcn2 : ∀ t, 281 ≤ t → zeSk t zcs0 = zeSk t zcs2 := fun t h => (zcn1 t (Nat.le_trans (by decide) h)).trans (zeSk_lt h zcl1)
theorem zcn3 : ∀ t, 306 ≤ t → zeSk t zcs0 = zeSk t zcs3 := fun t h => (zcn2 t (Nat.le_trans (by decide) h)).trans (zeSk_lt h zcl2)
theorem zcn4 : ∀ t, 319 ≤ t → zeSk t zcs0 = zeSk t zcs4 := fun t h => (zcn3 t (Nat.le_trans (by decide) h)).trans (zeSk_lt h zcl3)
theorem zcn5 : ∀ t, 332 ≤ t → zeSk t zcs0 = zeSk t zcs5 := fun t h => (zcn4 t (Nat.le_trans (by decide) h)).trans (zeSk_lt h zcl4)
theorem zcn6 : ∀ t, 345 ≤ t → zeSk t zcs0 = zeSk t zcs6 := fun t h => (zcn5 t (Nat.le_trans (by decide) h)).trans (zeSk_lt h zcl5)
theorem zcn7 : ∀ t, 370 ≤ t → zeSk t zcs0 = zeSk t zcs7 := fun t h => (zcn6 t (Nat.le_trans (by decide) h)).trans (zeSk_lt h zcl6)
theorem zcn8 : ∀ t, 407 ≤ t → zeSk t zcs0 = zeSk t zcs8 := fun t h => (zcn7 t (Nat.le_trans (by decide) h)).trans (zeSk_lt h zcl7)
theorem zcn9 : ∀ t, 432 ≤ t → zeSk t zcs0 = zeSk t zcs9 := fun t h => (zcn8 t (Nat.le_trans (by decide) h)).trans (zeSk_lt h zcl8)
theorem zcn10 : ∀ t, 457 ≤ t → zeSk t zcs0 = zeSk t zcs10 := fun t h => (zcn9 t (Nat.le_trans (by decide) h)).trans (zeSk_lt h zcl9)
theorem zcn11 : ∀ t, 518 ≤ t → zeSk t zcs0 = zeSk t zcs11 := fun t h => (zcn10 t (Nat.le_trans (by decide) h)).trans (zeSk_lt h zcl10)
theorem zcn12 : ∀ t, 555 ≤ t → zeSk t zcs0 = zeSk t zcs12 := fun t h => (zcn11 t (Nat.le_trans (by decide) h)).trans (zeSk_lt h zcl11)
theorem zcn13 : ∀ t, 568 ≤ t → zeSk t zcs0 = zeSk t zcs13 := fun t h => (zcn12 t (Nat.le_trans (by decide) h)).trans (zeSk_lt h zcl12)
theorem zcn14 : ∀ t, 593 ≤ t → zeSk t zcs0 = zeSk t zcs14 := fun t h => (zcn13 t (Nat.le_trans (by decide) h)).trans (zeSk_lt h zcl13)
theorem zcn15 : ∀ t, 642 ≤ t → zeSk t zcs0 = zeSk t zcs15 := fun t h => (zcn14 t (Nat.le_trans (by decide) h)).trans (zeSk_lt h zcl14)
theorem zcn16 : ∀ t, 691 ≤ t → zeSk t zcs0 = zeSk t zcs16 := fun t h => (zcn15 t (Nat.le_trans (by decide) h)).trans (zeSk_lt h zcl15)
theorem zcn17 : ∀ t, 740 ≤ t → zeSk t zcs0 = zeSk t zcs17 := fun t h => (zcn16 t (Nat.le_trans (by decide) h)).trans (zeSk_lt h zcl16)
theorem zcn18 : ∀ t, 777 ≤ t → zeSk t zcs0 = zeSk t zcs18 := fun t h => (zcn17 t (Nat.le_trans (by decide) h)).trans (zeSk_lt h zcl17)
theorem zcn19 : ∀ t, 814 ≤ t → zeSk t zcs0 = zeSk t zcs19 := fun t h => (zcn18 t (Nat.le_trans (by decide) h)).trans (zeSk_lt h zcl18)
theorem zcn20 : ∀ t, 863 ≤ t → zeSk t zcs0 = zeSk t zcs20 := fun t h => (zcn19 t (Nat.le_trans (by decide) h)).trans (zeSk_lt h zcl19)
theorem zcn21 : ∀ t, 924 ≤ t → zeSk t zcs0 = zeSk t zcs21 := fun t h => (zcn20 t (Nat.le_trans (by decide) h)).trans (zeSk_lt h zcl20)
theorem zcn22 : ∀ t, 949 ≤ t → zeSk t zcs0 = zeSk t zcs22 := fun t h => (zcn21 t (Nat.le_trans (by decide) h)).trans (zeSk_lt h zcl21)
theorem zcn23 : ∀ t, 986 ≤ t → zeSk t zcs0 = zeSk t zcs23 := fun t h => (zcn22 t (Nat.le_trans (by decide) h)).trans (zeSk_lt h zcl22)
theorem zcn24 : ∀ t, 1011 ≤ t → zeSk t zcs0 = zeSk t zcs24 := fun t h => (zcn23 t (Nat.le_trans (by decide) h)).trans (zeSk_lt h zcl23)
theorem zcn25 : ∀ t, 1036 ≤ t → zeSk t zcs0 = zeSk t zcs25 := fun t h => (zcn24 t (Nat.le_trans (by decide) h)).trans (zeSk_lt h zcl24)
theorem zcn26 : ∀ t, 1061 ≤ t → zeSk t zcs0 = zeSk t zcs26 := fun t h => (zcn25 t (Nat.le_trans (by decide) h)).trans (zeSk_lt h zcl25)
theorem zcn27 : ∀ t, 1134 ≤ t → zeSk t zcs0 = zeSk t zcs27 := fun t h => (zcn26 t (Nat.le_trans (by decide) h)).trans (zeSk_lt h zcl26)
theorem zcn28 : ∀ t, 1183 ≤ t → zeSk t zcs0 = zeSk t zcs28 := fun t h => (zcn27 t (Nat.le_trans (by decide) h)).trans (zeSk_lt h zcl27)
theorem zcn29 : ∀ t, 1220 ≤ t → zeSk t zcs0 = zeSk t zcs29 := fun t h => (zcn28 t (Nat.le_trans (by decide) h)).trans (zeSk_lt h zcl28)
theorem zcn30 : ∀ t, 1257 ≤ t → zeSk t zcs0 = zeSk t zcs30 := fun t h => (zcn29 t (Nat.le_trans (by decide) h)).trans (zeSk_lt h zcl29)
theorem zcn31 : ∀ t, 1270 ≤ t → zeSk t zcs0 = zeSk t zcs31 := fun t h => (zcn30 t (Nat.le_trans (by decide) h)).trans (zeSk_lt h zcl30)
theorem zcn32 : ∀ t, 1295 ≤ t → zeSk t zcs0 = zeSk t zcs32 := fun t h => (zcn31 t (Nat.le_trans (by decide) h)).trans (zeSk_lt h zcl31)
theorem zcn33 : ∀ t, 1320 ≤ t → zeSk t zcs0 = zeSk t zcs33 := fun t h => (zcn32 t (Nat.le_trans (by decide) h)).trans (zeSk_lt h zcl32)
theorem zcn34 : ∀ t, 1357 ≤ t → zeSk t zcs0 = zeSk t zcs34 := fun t h => (zcn33 t (Nat.le_trans (by decide) h)).trans (zeSk_lt h zcl33)
theorem zcn35 : ∀ t, 1430 ≤ t → zeSk t zcs0 = zeSk t zcs35 := fun t h => (zcn34 t (Nat.le_trans (by decide) h)).trans (zeSk_lt h zcl34)
theorem zcn36 : ∀ t, 1491 ≤ t → zeSk t zcs0 = zeSk t zcs36 := fun t h => (zcn35 t (Nat.le_trans (by decide) h)).trans (zeSk_lt h zcl35)
theorem zcn37 : ∀ t, 1564 ≤ t → zeSk t zcs0 = zeSk t zcs37 := fun t h => (zcn36 t (Nat.le_trans (by decide) h)).trans (zeSk_lt h zcl36)
theorem zcn38 : ∀ t, 1625 ≤ t → zeSk t zcs0 = zeSk t zcs38 := fun t h => (zcn37 t (Nat.le_trans (by decide) h)).trans (zeSk_lt h zcl37)
theorem zcn39 : ∀ t, 1698 ≤ t → zeSk t zcs0 = zeSk t zcs39 := fun t h => (zcn38 t (Nat.le_trans (by decide) h)).trans (zeSk_lt h zcl38)
theorem zcn40 : ∀ t, 1747 ≤ t → zeSk t zcs0 = zeSk t zcs40 := fun t h => (zcn39 t (Nat.le_trans (by decide) h)).trans (zeSk_lt h zcl39)
theorem zcn41 : ∀ t, 1808 ≤ t → zeSk t zcs0 = zeSk t zcs41 := fun t h => (zcn40 t (Nat.le_trans (by decide) h)).trans (zeSk_lt h zcl40)
theorem zcn42 : ∀ t, 1881 ≤ t → zeSk t zcs0 = zeSk t zcs42 := fun t h => (zcn41 t (Nat.le_trans (by decide) h)).trans (zeSk_lt h zcl41)
theorem zcn43 : ∀ t, 1906 ≤ t → zeSk t zcs0 = zeSk t zcs43 := fun t h => (zcn42 t (Nat.le_trans (by decide) h)).trans (zeSk_lt h zcl42)
theorem zcn44 : ∀ t, 1979 ≤ t → zeSk t zcs0 = zeSk t zcs44 := fun t h => (zcn43 t (Nat.le_trans (by decide) h)).trans (zeSk_lt h zcl43)
theorem zcn45 : ∀ t, 2040 ≤ t → zeSk t zcs0 = zeSk t zcs45 := fun t h => (zcn44 t (Nat.le_trans (by decide) h)).trans (zeSk_lt h zcl44)
theorem zcn46 : ∀ t, 2113 ≤ t → zeSk t zcs0 = zeSk t zcs46 := fun t h => (zcn45 t (Nat.le_trans (by decide) h)).trans (zeSk_lt h zcl45)
theorem zcn47 : ∀ t, 2186 ≤ t → zeSk t zcs0 = zeSk t zcs47 := fun t h => (zcn46 t (Nat.le_trans (by decide) h)).trans (zeSk_lt h zcl46)
theorem zcn48 : ∀ t, 2211 ≤ t → zeSk t zcs0 = zeSk t zcs48 := fun t h => (zcn47 t (Nat.le_trans (by decide) h)).trans (zeSk_lt h zcl47)
theorem zcn49 : ∀ t, 2236 ≤ t → zeSk t zcs0 = zeSk t zcs49 := fun t h => (zcn48 t (Nat.le_trans (by decide) h)).trans (zeSk_lt h zcl48)
theorem zcn50 : ∀ t, 2261 ≤ t → zeSk t zcs0 = zeSk t zcs50 := fun t h => (zcn49 t (Nat.le_trans (by decide) h)).trans (zeSk_lt h zcl49)
theorem zcn51 : ∀ t, 2289 ≤ t → zeSk t zcs0 = zeSk t zcs51 := fun t h => (zcn50 t (Nat.le_trans (by decide) h)).trans (zeSk_lt h zcl50)
theorem zck0 : zeSk 23 zcs0 = zcs0 := by
  rw [zcn0 23 (Nat.le_refl _)]
  unfold zcs0 zcc0
  exact zeSk_hd rfl
theorem zck1 : zeSk 256 zcs0 = zcs1 := by
  rw [zcn1 256 (Nat.le_refl _)]
  unfold zcs1 zcc1
  exact zeSk_hd rfl
theorem zck2 : zeSk 281 zcs0 = zcs2 := by
  rw [zcn2 281 (Nat.le_refl _)]
  unfold zcs2 zcc2
  exact zeSk_hd rfl
theorem zck3 : zeSk 306 zcs0 = zcs3 := by
  rw [zcn3 306 (Nat.le_refl _)]
  unfold zcs3 zcc3
  exact zeSk_hd rfl
theorem zck4 : zeSk 319 zcs0 = zcs4 := by
  rw [zcn4 319 (Nat.le_refl _)]
  unfold zcs4 zcc4
  exact zeSk_hd rfl
theorem zck5 : zeSk 332 zcs0 = zcs5 := by
  rw [zcn5 332 (Nat.le_refl _)]
  unfold zcs5 zcc5
  exact zeSk_hd rfl
theorem zck6 : zeSk 345 zcs0 = zcs6 := by
  rw [zcn6 345 (Nat.le_refl _)]
  unfold zcs6 zcc6
  exact zeSk_hd rfl
theorem zck7 : zeSk 370 zcs0 = zcs7 := by
  rw [zcn7 370 (Nat.le_refl _)]
  unfold zcs7 zcc7
  exact zeSk_hd rfl
theorem zck8 : zeSk 407 zcs0 = zcs8 := by
  rw [zcn8 407 (Nat.le_refl _)]
  unfold zcs8 zcc8
  exact zeSk_hd rfl
theorem zck9 : zeSk 432 zcs0 = zcs9 := by
  rw [zcn9 432 (Nat.le_refl _)]
  unfold zcs9 zcc9
  exact zeSk_hd rfl
theorem zck10 : zeSk 457 zcs0 = zcs10 := by
  rw [zcn10 457 (Nat.le_refl _)]
  unfold zcs10 zcc10
  exact zeSk_hd rfl
theorem zck11 : zeSk 518 zcs0 = zcs11 := by
  rw [zcn11 518 (Nat.le_refl _)]
  unfold zcs11 zcc11
  exact zeSk_hd rfl
theorem zck12 : zeSk 555 zcs0 = zcs12 := by
  rw [zcn12 555 (Nat.le_refl _)]
  unfold zcs12 zcc12
  exact zeSk_hd rfl
theorem zck13 : zeSk 568 zcs0 = zcs13 := by
  rw [zcn13 568 (Nat.le_refl _)]
  unfold zcs13 zcc13
  exact zeSk_hd rfl
theorem zck14 : zeSk 593 zcs0 = zcs14 := by
  rw [zcn14 593 (Nat.le_refl _)]
  unfold zcs14 zcc14
  exact zeSk_hd rfl
theorem zck15 : zeSk 642 zcs0 = zcs15 := by
  rw [zcn15 642 (Nat.le_refl _)]
  unfold zcs15 zcc15
  exact zeSk_hd rfl
theorem zck16 : zeSk 691 zcs0 = zcs16 := by
  rw [zcn16 691 (Nat.le_refl _)]
  unfold zcs16 zcc16
  exact zeSk_hd rfl
theorem zck17 : zeSk 740 zcs0 = zcs17 := by
  rw [zcn17 740 (Nat.le_refl _)]
  unfold zcs17 zcc17
  exact zeSk_hd rfl
theorem zck18 : zeSk 777 zcs0 = zcs18 := by
  rw [zcn18 777 (Nat.le_refl _)]
  unfold zcs18 zcc18
  exact zeSk_hd rfl
theorem zck19 : zeSk 814 zcs0 = zcs19 := by
  rw [zcn19 814 (Nat.le_refl _)]
  unfold zcs19 zcc19
  exact zeSk_hd rfl
theorem zck20 : zeSk 863 zcs0 = zcs20 := by
  rw [zcn20 863 (Nat.le_refl _)]
  unfold zcs20 zcc20
  exact zeSk_hd rfl
theorem zck21 : zeSk 924 zcs0 = zcs21 := by
  rw [zcn21 924 (Nat.le_refl _)]
  unfold zcs21 zcc21
  exact zeSk_hd rfl
theorem zck22 : zeSk 949 zcs0 = zcs22 := by
  rw [zcn22 949 (Nat.le_refl _)]
  unfold zcs22 zcc22
  exact zeSk_hd rfl
theorem zck23 : zeSk 986 zcs0 = zcs23 := by
  rw [zcn23 986 (Nat.le_refl _)]
  unfold zcs23 zcc23
  exact zeSk_hd rfl
theorem zck24 : zeSk 1011 zcs0 = zcs24 := by
  rw [zcn24 1011 (Nat.le_refl _)]
  unfold zcs24 zcc24
  exact zeSk_hd rfl
theorem zck25 : zeSk 1036 zcs0 = zcs25 := by
  rw [zcn25 1036 (Nat.le_refl _)]
  unfold zcs25 zcc25
  exact zeSk_hd rfl
theorem zck26 : zeSk 1061 zcs0 = zcs26 := by
  rw [zcn26 1061 (Nat.le_refl _)]
  unfold zcs26 zcc26
  exact zeSk_hd rfl
theorem zck27 : zeSk 1134 zcs0 = zcs27 := by
  rw [zcn27 1134 (Nat.le_refl _)]
  unfold zcs27 zcc27
  exact zeSk_hd rfl
theorem zck28 : zeSk 1183 zcs0 = zcs28 := by
  rw [zcn28 1183 (Nat.le_refl _)]
  unfold zcs28 zcc28
  exact zeSk_hd rfl
theorem zck29 : zeSk 1220 zcs0 = zcs29 := by
  rw [zcn29 1220 (Nat.le_refl _)]
  unfold zcs29 zcc29
  exact zeSk_hd rfl
theorem zck30 : zeSk 1257 zcs0 = zcs30 := by
  rw [zcn30 1257 (Nat.le_refl _)]
  unfold zcs30 zcc30
  exact zeSk_hd rfl
theorem zck31 : zeSk 1270 zcs0 = zcs31 := by
  rw [zcn31 1270 (Nat.le_refl _)]
  unfold zcs31 zcc31
  exact zeSk_hd rfl
theorem zck32 : zeSk 1295 zcs0 = zcs32 := by
  rw [zcn32 1295 (Nat.le_refl _)]
  unfold zcs32 zcc32
  exact zeSk_hd rfl
theorem zck33 : zeSk 1320 zcs0 = zcs33 := by
  rw [zcn33 1320 (Nat.le_refl _)]
  unfold zcs33 zcc33
  exact zeSk_hd rfl
theorem zck34 : zeSk 1357 zcs0 = zcs34 := by
  rw [zcn34 1357 (Nat.le_refl _)]
  unfold zcs34 zcc34
  exact zeSk_hd rfl
theorem zck35 : zeSk 1430 zcs0 = zcs35 := by
  rw [zcn35 1430 (Nat.le_refl _)]
  unfold zcs35 zcc35
  exact zeSk_hd rfl
theorem zck36 : zeSk 1491 zcs0 = zcs36 := by
  rw [zcn36 1491 (Nat.le_refl _)]
  unfold zcs36 zcc36
  exact zeSk_hd rfl
theorem zck37 : zeSk 1564 zcs0 = zcs37 := by
  rw [zcn37 1564 (Nat.le_refl _)]
  unfold zcs37 zcc37
  exact zeSk_hd rfl
theorem zck38 : zeSk 1625 zcs0 = zcs38 := by
  rw [zcn38 1625 (Nat.le_refl _)]
  unfold zcs38 zcc38
  exact zeSk_hd rfl
theorem zck39 : zeSk 1698 zcs0 = zcs39 := by
  rw [zcn39 1698 (Nat.le_refl _)]
  unfold zcs39 zcc39
  exact zeSk_hd rfl
theorem zck40 : zeSk 1747 zcs0 = zcs40 := by
  rw [zcn40 1747 (Nat.le_refl _)]
  unfold zcs40 zcc40
  exact zeSk_hd rfl
theorem zck41 : zeSk 1808 zcs0 = zcs41 := by
  rw [zcn41 1808 (Nat.le_refl _)]
  unfold zcs41 zcc41
  exact zeSk_hd rfl
theorem zck42 : zeSk 1881 zcs0 = zcs42 := by
  rw [zcn42 1881 (Nat.le_refl _)]
  unfold zcs42 zcc42
  exact zeSk_hd rfl
theorem zck43 : zeSk 1906 zcs0 = zcs43 := by
  rw [zcn43 1906 (Nat.le_refl _)]
  unfold zcs43 zcc43
  exact zeSk_hd rfl
theorem zck44 : zeSk 1979 zcs0 = zcs44 := by
  rw [zcn44 1979 (Nat.le_refl _)]
  unfold zcs44 zcc44
  exact zeSk_hd rfl
theorem zck45 : zeSk 2040 zcs0 = zcs45 := by
  rw [zcn45 2040 (Nat.le_refl _)]
  unfold zcs45 zcc45
  exact zeSk_hd rfl
theorem zck46 : zeSk 2113 zcs0 = zcs46 := by
  rw [zcn46 2113 (Nat.le_refl _)]
  unfold zcs46 zcc46
  exact zeSk_hd rfl
theorem zck47 : zeSk 2186 zcs0 = zcs47 := by
  rw [zcn47 2186 (Nat.le_refl _)]
  unfold zcs47 zcc47
  exact zeSk_hd rfl
theorem zck48 : zeSk 2211 zcs0 = zcs48 := by
  rw [zcn48 2211 (Nat.le_refl _)]
  unfold zcs48 zcc48
  exact zeSk_hd rfl
theorem zck49 : zeSk 2236 zcs0 = zcs49 := by
  rw [zcn49 2236 (Nat.le_refl _)]
  unfold zcs49 zcc49
  exact zeSk_hd rfl
theorem zck50 : zeSk 2261 zcs0 = zcs50 := by
  rw [zcn50 2261 (Nat.le_refl _)]
  unfold zcs50 zcc50
  exact zeSk_hd rfl
theorem zck51 : zeSk 2289 zcs0 = zcs51 := by
  rw [zcn51 2289 (Nat.le_refl _)]
  unfold zcs51 zcc51
  exact zeSk_hd rfl
theorem xl_RL_19 : xCok RL (19, 0, 1, xM_X11_sign, 11) := xCokB_ok (i := [555, 96, 552, 553, 554]) (by decide +kernel)
theorem xl_RL_23 : xCok RL (23, 0, 1, xM_X12_sign, 12) := xCokB_ok (i := [1548, 109, 1545, 1546, 1547]) (by decide +kernel)
theorem xl_RL_24 : xCok RL (24, 0, 1, xM_X11_end, 11) := xCokB_ok (i := [563, 96, 560, 561, 562]) (by decide +kernel)
theorem xl_RL_28 : xCok RL (28, 0, 1, xM_X12_end, 12) := xCokB_ok (i := [1552, 109, 1549, 1550, 1551]) (by decide +kernel)
theorem xl_RL_29 : xCok RL (29, 0, 0, xM_X11_town, 11) := xCokB_ok (i := [571, 96, 568, 569, 570]) (by decide +kernel)
theorem xl_RL_33 : xCok RL (33, 0, 0, xM_X12_town, 12) := xCokB_ok (i := [1559, 109, 1556, 1557, 1558]) (by decide +kernel)
theorem xl_RL_34 : xCok RL (34, 0, 0, xM_X11_fog, 11) := xCokB_ok (i := [590, 96, 587, 588, 589]) (by decide +kernel)
theorem xl_RL_37 : xCok RL (37, 0, 0, xM_X12_fog, 12) := xCokB_ok (i := [1586, 109, 1583, 1584, 1585]) (by decide +kernel)
theorem xl_RL_38 : xCok RL (38, 0, 0, xM_X11_rule, 11) := xCokB_ok (i := [604, 96, 601, 602, 603]) (by decide +kernel)
theorem xl_RL_41 : xCok RL (41, 0, 0, xM_X12_rule, 12) := xCokB_ok (i := [1590, 109, 1587, 1588, 1589]) (by decide +kernel)
theorem xl_RL_42 : xCok RL (42, 0, 1, xM_X11_yard, 11) := xCokB_ok (i := [732, 96, 729, 730, 731]) (by decide +kernel)
theorem xl_RL_45 : xCok RL (45, 0, 1, xM_X12_yard, 12) := xCokB_ok (i := [1642, 109, 1639, 1640, 1641]) (by decide +kernel)
theorem xl_RL_46 : xCok RL (46, 0, 2, xM_X11_lamp, 11) := xCokB_ok (i := [737, 96, 734, 735, 736]) (by decide +kernel)
theorem xl_RL_50 : xCok RL (50, 0, 2, xM_X12_lamp, 12) := xCokB_ok (i := [1650, 109, 1647, 1648, 1649]) (by decide +kernel)
theorem xl_RL_51 : xCok RL (51, 0, 1, xM_X11_err, 11) := xCokB_ok (i := [743, 96, 740, 741, 742]) (by decide +kernel)
theorem xl_RL_54 : xCok RL (54, 0, 1, xM_X12_err, 12) := xCokB_ok (i := [1658, 109, 1655, 1656, 1657]) (by decide +kernel)
theorem xl_RL_55 : xCok RL (55, 0, 1, xM_X11_thick, 11) := xCokB_ok (i := [747, 96, 744, 745, 746]) (by decide +kernel)
theorem xl_RL_58 : xCok RL (58, 0, 1, xM_X12_thick, 12) := xCokB_ok (i := [1662, 109, 1659, 1660, 1661]) (by decide +kernel)
theorem xl_RL_59 : xCok RL (59, 0, 4, xM_X11_sheet, 11) := xCokB_ok (i := [758, 96, 755, 756, 757]) (by decide +kernel)
theorem xl_RL_63 : xCok RL (63, 0, 4, xM_X12_sheet, 12) := xCokB_ok (i := [1669, 109, 1666, 1667, 1668]) (by decide +kernel)
theorem xl_RL_64 : xCok RL (64, 0, 2, xM_X11_rope, 11) := xCokB_ok (i := [767, 96, 764, 765, 766]) (by decide +kernel)
theorem xl_RL_67 : xCok RL (67, 0, 2, xM_X12_rope, 12) := xCokB_ok (i := [1675, 109, 1672, 1673, 1674]) (by decide +kernel)
theorem xl_RL_68 : xCok RL (68, 0, 0, xM_X11_unrope, 11) := xCokB_ok (i := [779, 96, 776, 777, 778]) (by decide +kernel)
theorem xl_RL_71 : xCok RL (71, 0, 0, xM_X12_unrope, 12) := xCokB_ok (i := [1683, 109, 1680, 1681, 1682]) (by decide +kernel)
theorem xl_RL_72 : xCok RL (72, 0, 1, xM_X11_lit, 11) := xCokB_ok (i := [783, 96, 780, 781, 782]) (by decide +kernel)
theorem xl_RL_75 : xCok RL (75, 0, 1, xM_X12_lit, 12) := xCokB_ok (i := [1687, 109, 1684, 1685, 1686]) (by decide +kernel)
theorem xl_RL_76 : xCok RL (76, 0, 3, xM_X11_sees, 11) := xCokB_ok (i := [810, 96, 807, 808, 809]) (by decide +kernel)
theorem xl_RL_80 : xCok RL (80, 0, 3, xM_X12_sees, 12) := xCokB_ok (i := [1703, 109, 1700, 1701, 1702]) (by decide +kernel)
theorem xl_RL_81 : xCok RL (81, 0, 3, xM_X11_owed, 11) := xCokB_ok (i := [828, 96, 825, 826, 827]) (by decide +kernel)
theorem xl_RL_84 : xCok RL (84, 0, 3, xM_X12_owed, 12) := xCokB_ok (i := [1714, 109, 1711, 1712, 1713]) (by decide +kernel)
theorem xl_RL_85 : xCok RL (85, 0, 3, xM_X11_seen, 11) := xCokB_ok (i := [852, 96, 849, 850, 851]) (by decide +kernel)
theorem xl_RL_88 : xCok RL (88, 0, 3, xM_X12_seen, 12) := xCokB_ok (i := [1722, 109, 1719, 1720, 1721]) (by decide +kernel)
theorem xl_RL_89 : xCok RL (89, 0, 2, xM_X11_dearest, 11) := xCokB_ok (i := [857, 96, 854, 855, 856]) (by decide +kernel)
theorem xl_RL_92 : xCok RL (92, 0, 2, xM_X12_dearest, 12) := xCokB_ok (i := [1726, 109, 1723, 1724, 1725]) (by decide +kernel)
theorem xl_RL_93 : xCok RL (93, 0, 2, xM_X11_light, 11) := xCokB_ok (i := [865, 96, 862, 863, 864]) (by decide +kernel)
theorem xl_RL_96 : xCok RL (96, 0, 2, xM_X12_light, 12) := xCokB_ok (i := [1730, 109, 1727, 1728, 1729]) (by decide +kernel)
theorem xl_RL_97 : xCok RL (97, 0, 3, xM_X11_needs, 11) := xCokB_ok (i := [870, 96, 867, 868, 869]) (by decide +kernel)
theorem xl_RL_100 : xCok RL (100, 0, 3, xM_X12_needs, 12) := xCokB_ok (i := [1734, 109, 1731, 1732, 1733]) (by decide +kernel)
theorem xl_RL_101 : xCok RL (101, 0, 4, xM_X11_walk, 11) := xCokB_ok (i := [874, 96, 871, 872, 873]) (by decide +kernel)
theorem xl_RL_104 : xCok RL (104, 0, 4, xM_X12_walk, 12) := xCokB_ok (i := [1738, 109, 1735, 1736, 1737]) (by decide +kernel)
theorem xl_RL_105 : xCok RL (105, 0, 1, xM_X11_drop, 11) := xCokB_ok (i := [905, 96, 902, 903, 904]) (by decide +kernel)
theorem xl_RL_108 : xCok RL (108, 0, 1, xM_X12_drop, 12) := xCokB_ok (i := [1756, 109, 1753, 1754, 1755]) (by decide +kernel)
theorem xl_RL_109 : xCok RL (109, 0, 2, xM_X11_at, 11) := xCokB_ok (i := [913, 96, 910, 911, 912]) (by decide +kernel)
theorem xl_RL_112 : xCok RL (112, 0, 2, xM_X12_at, 12) := xCokB_ok (i := [1764, 109, 1761, 1762, 1763]) (by decide +kernel)
theorem xl_RL_113 : xCok RL (113, 0, 1, xM_X11_bill, 11) := xCokB_ok (i := [921, 96, 918, 919, 920]) (by decide +kernel)
theorem xl_RL_116 : xCok RL (116, 0, 1, xM_X12_bill, 12) := xCokB_ok (i := [1776, 109, 1773, 1774, 1775]) (by decide +kernel)
theorem xl_RL_117 : xCok RL (117, 0, 1, xM_X11_saw, 11) := xCokB_ok (i := [959, 96, 956, 957, 958]) (by decide +kernel)
theorem xl_RL_120 : xCok RL (120, 0, 1, xM_X12_saw, 12) := xCokB_ok (i := [1796, 109, 1793, 1794, 1795]) (by decide +kernel)
theorem xl_RL_121 : xCok RL (121, 0, 1, xM_X11_dims, 11) := xCokB_ok (i := [963, 96, 960, 961, 962]) (by decide +kernel)
theorem xl_RL_124 : xCok RL (124, 0, 1, xM_X12_dims, 12) := xCokB_ok (i := [1800, 109, 1797, 1798, 1799]) (by decide +kernel)
theorem xl_RL_125 : xCok RL (125, 0, 5, xM_X11_adopt, 11) := xCokB_ok (i := [967, 96, 964, 965, 966]) (by decide +kernel)
theorem xl_RL_129 : xCok RL (129, 0, 5, xM_X12_adopt, 12) := xCokB_ok (i := [1900, 109, 1897, 1898, 1899]) (by decide +kernel)
theorem xl_RL_130 : xCok RL (130, 0, 3, xM_X11_hidden, 11) := xCokB_ok (i := [1014, 96, 1011, 1012, 1013]) (by decide +kernel)
theorem xl_RL_133 : xCok RL (133, 0, 3, xM_X12_hidden, 12) := xCokB_ok (i := [1804, 109, 1801, 1802, 1803]) (by decide +kernel)
theorem xl_RL_134 : xCok RL (134, 0, 2, xM_X11_hit, 11) := xCokB_ok (i := [1022, 96, 1019, 1020, 1021]) (by decide +kernel)
theorem xl_RL_137 : xCok RL (137, 0, 2, xM_X12_hit, 12) := xCokB_ok (i := [1808, 109, 1805, 1806, 1807]) (by decide +kernel)
theorem xl_RL_138 : xCok RL (138, 0, 2, xM_X11_brush, 11) := xCokB_ok (i := [1039, 96, 1036, 1037, 1038]) (by decide +kernel)
theorem xl_RL_141 : xCok RL (141, 0, 2, xM_X12_brush, 12) := xCokB_ok (i := [1824, 109, 1821, 1822, 1823]) (by decide +kernel)
theorem xl_RL_142 : xCok RL (142, 0, 0, xM_X11_hits, 11) := xCokB_ok (i := [1043, 96, 1040, 1041, 1042]) (by decide +kernel)
theorem xl_RL_145 : xCok RL (145, 0, 0, xM_X12_hits, 12) := xCokB_ok (i := [1828, 109, 1825, 1826, 1827]) (by decide +kernel)
theorem xl_RL_146 : xCok RL (146, 0, 1, xM_X11_takings, 11) := xCokB_ok (i := [1047, 96, 1044, 1045, 1046]) (by decide +kernel)
theorem xl_RL_149 : xCok RL (149, 0, 1, xM_X12_takings, 12) := xCokB_ok (i := [1832, 109, 1829, 1830, 1831]) (by decide +kernel)
theorem xl_RL_150 : xCok RL (150, 0, 1, xM_X11_fee, 11) := xCokB_ok (i := [1051, 96, 1048, 1049, 1050]) (by decide +kernel)
theorem xl_RL_153 : xCok RL (153, 0, 1, xM_X12_fee, 12) := xCokB_ok (i := [1836, 109, 1833, 1834, 1835]) (by decide +kernel)
theorem xl_RL_154 : xCok RL (154, 0, 2, xM_X11_way, 11) := xCokB_ok (i := [1056, 96, 1053, 1054, 1055]) (by decide +kernel)
theorem xl_RL_157 : xCok RL (157, 0, 2, xM_X12_way, 12) := xCokB_ok (i := [1841, 109, 1838, 1839, 1840]) (by decide +kernel)
theorem xl_RL_158 : xCok RL (158, 0, 5, xM_X11_cheapest, 11) := xCokB_ok (i := [1072, 96, 1069, 1070, 1071]) (by decide +kernel)
theorem xl_RL_161 : xCok RL (161, 0, 5, xM_X12_cheapest, 12) := xCokB_ok (i := [1850, 109, 1847, 1848, 1849]) (by decide +kernel)
theorem xl_RL_162 : xCok RL (162, 0, 4, xM_X11_safe, 11) := xCokB_ok (i := [1103, 96, 1100, 1101, 1102]) (by decide +kernel)
theorem xl_RL_165 : xCok RL (165, 0, 4, xM_X12_safe, 12) := xCokB_ok (i := [1888, 109, 1885, 1886, 1887]) (by decide +kernel)
theorem xl_RL_166 : xCok RL (166, 0, 5, xM_X11_buys, 11) := xCokB_ok (i := [1107, 96, 1104, 1105, 1106]) (by decide +kernel)
theorem xl_RL_169 : xCok RL (169, 0, 5, xM_X12_buys, 12) := xCokB_ok (i := [1904, 109, 1901, 1902, 1903]) (by decide +kernel)
theorem xl_RL_170 : xCok RL (170, 0, 4, xM_X11_reach, 11) := xCokB_ok (i := [1111, 96, 1108, 1109, 1110]) (by decide +kernel)
theorem xl_RL_173 : xCok RL (173, 0, 4, xM_X12_reach, 12) := xCokB_ok (i := [1908, 109, 1905, 1906, 1907]) (by decide +kernel)
theorem xl_RL_174 : xCok RL (174, 0, 5, xM_X11_tour, 11) := xCokB_ok (i := [1119, 96, 1116, 1117, 1118]) (by decide +kernel)
theorem xl_RL_177 : xCok RL (177, 0, 5, xM_X12_tour, 12) := xCokB_ok (i := [1916, 109, 1913, 1914, 1915]) (by decide +kernel)
theorem xl_RL_178 : xCok RL (178, 0, 3, xM_X11_bears, 11) := xCokB_ok (i := [1167, 96, 1164, 1165, 1166]) (by decide +kernel)
theorem xl_RL_181 : xCok RL (181, 0, 3, xM_X12_bears, 12) := xCokB_ok (i := [1929, 109, 1926, 1927, 1928]) (by decide +kernel)
theorem xl_RL_182 : xCok RL (182, 0, 4, xM_X11_waits, 11) := xCokB_ok (i := [1172, 96, 1169, 1170, 1171]) (by decide +kernel)
theorem xl_RL_185 : xCok RL (185, 0, 4, xM_X12_waits, 12) := xCokB_ok (i := [1933, 109, 1930, 1931, 1932]) (by decide +kernel)
theorem xl_RL_186 : xCok RL (186, 0, 5, xM_X11_chance, 11) := xCokB_ok (i := [1176, 96, 1173, 1174, 1175]) (by decide +kernel)
theorem xl_RL_189 : xCok RL (189, 0, 5, xM_X12_chance, 12) := xCokB_ok (i := [1937, 109, 1934, 1935, 1936]) (by decide +kernel)
theorem xl_RL_190 : xCok RL (190, 0, 1, xM_X11_likely, 11) := xCokB_ok (i := [1223, 96, 1220, 1221, 1222]) (by decide +kernel)
theorem xl_RL_193 : xCok RL (193, 0, 1, xM_X12_likely, 12) := xCokB_ok (i := [1961, 109, 1958, 1959, 1960]) (by decide +kernel)
theorem xl_RL_194 : xCok RL (194, 0, 5, xM_X11_mean, 11) := xCokB_ok (i := [1236, 96, 1233, 1234, 1235]) (by decide +kernel)
theorem xl_RL_197 : xCok RL (197, 0, 5, xM_X12_mean, 12) := xCokB_ok (i := [1965, 109, 1962, 1963, 1964]) (by decide +kernel)
theorem xl_RL_198 : xCok RL (198, 0, 4, xM_X11_best, 11) := xCokB_ok (i := [1258, 96, 1255, 1256, 1257]) (by decide +kernel)
theorem xl_RL_201 : xCok RL (201, 0, 4, xM_X12_best, 12) := xCokB_ok (i := [1973, 109, 1970, 1971, 1972]) (by decide +kernel)
theorem xl_RL_202 : xCok RL (202, 0, 5, xM_X11_meet, 11) := xCokB_ok (i := [1266, 96, 1263, 1264, 1265]) (by decide +kernel)
theorem xl_RL_205 : xCok RL (205, 0, 5, xM_X12_meet, 12) := xCokB_ok (i := [1977, 109, 1974, 1975, 1976]) (by decide +kernel)
theorem xl_RL_206 : xCok RL (206, 0, 5, xM_X11_lead, 11) := xCokB_ok (i := [1274, 96, 1271, 1272, 1273]) (by decide +kernel)
theorem xl_RL_209 : xCok RL (209, 0, 5, xM_X12_lead, 12) := xCokB_ok (i := [1988, 109, 1985, 1986, 1987]) (by decide +kernel)
theorem xl_RL_210 : xCok RL (210, 0, 1, xM_X11_keep, 11) := xCokB_ok (i := [1284, 96, 1281, 1282, 1283]) (by decide +kernel)
theorem xl_RL_213 : xCok RL (213, 0, 1, xM_X12_keep, 12) := xCokB_ok (i := [1992, 109, 1989, 1990, 1991]) (by decide +kernel)
theorem xl_RL_214 : xCok RL (214, 0, 1, xM_X11_again, 11) := xCokB_ok (i := [1302, 96, 1299, 1300, 1301]) (by decide +kernel)
theorem xl_RL_217 : xCok RL (217, 0, 1, xM_X12_again, 12) := xCokB_ok (i := [1996, 109, 1993, 1994, 1995]) (by decide +kernel)
theorem xl_RL_218 : xCok RL (218, 0, 1, xM_X11_count, 11) := xCokB_ok (i := [1306, 96, 1303, 1304, 1305]) (by decide +kernel)
theorem xl_RL_221 : xCok RL (221, 0, 1, xM_X12_count, 12) := xCokB_ok (i := [2000, 109, 1997, 1998, 1999]) (by decide +kernel)
theorem xl_RL_227 : xCok RL (227, 0, 1, xM_X12_row, 12) := xCokB_ok (i := [2004, 109, 2001, 2002, 2003]) (by decide +kernel)
