/-! ===== the words of the machine's tables, by their places; printed by wip/gen/gen_facts.py ===== -/
def jm_ws : List Cond := lw_tbl.filter goodWord
theorem jm_wsin {w : Cond} (h1 : w ∈ lw_tbl) (h2 : goodWord w = true) : w ∈ jm_ws := List.mem_filter.mpr ⟨h1, h2⟩
/-- words at places -/
theorem jm_at_pl {L : List Cond} (ps : List Nat) (h : L = ps.filterMap (fun i => lw_tbl[i]?)) (hg : L.all goodWord = true) : ∀ w ∈ L, w ∈ jm_ws := by
  intro w hw
  have h1 := List.all_eq_true.mp hg w hw
  rw [h] at hw
  obtain ⟨i, -, hi⟩ := List.mem_filterMap.mp hw
  exact jm_wsin (List.mem_of_getElem? hi) h1
/-- the link of a call -/
def jm_lk (c : Nat) (q : Nat × Nat × jm_M) : Cond := match q.2.1 with
  | 3 => .initialized (jm_cl c)
  | 10 => .methodLink (jm_cl c) q.1 objectInit
  | 11 => .methodLink (jm_cl c) q.1 Lib.Math.max.name
  | 12 => .methodLink (jm_cl c) q.1 Lib.Math.min.name
  | 13 => .methodLink (jm_cl c) q.1 arraycopyName
  | _ => .methodLink (jm_cl c) q.1 q.2.2.1
set_option maxRecDepth 100000 in
theorem jf_lk0 : ∀ w ∈ (jm_mpl 0).map (jm_lk 0), w ∈ jm_ws := jm_at_pl [179, 185, 213, 884, 788, 792, 892, 896] (by decide +kernel) (by decide +kernel)
set_option maxRecDepth 100000 in
theorem jf_lk1 : ∀ w ∈ (jm_mpl 1).map (jm_lk 1), w ∈ jm_ws := jm_at_pl [457, 699, 707, 703, 711, 715, 727, 719, 723, 731, 743, 747, 735, 739, 751, 755, 759, 763] (by decide +kernel) (by decide +kernel)
set_option maxRecDepth 100000 in
theorem jf_lk2 : ∀ w ∈ (jm_mpl 2).map (jm_lk 2), w ∈ jm_ws := jm_at_pl [216] (by decide +kernel) (by decide +kernel)
set_option maxRecDepth 100000 in
theorem jf_lk3 : ∀ w ∈ (jm_mpl 3).map (jm_lk 3), w ∈ jm_ws := jm_at_pl [188, 846, 850, 854, 914, 915, 916, 1402, 1403, 1404, 859, 863, 867, 1160, 1074, 1340, 1103] (by decide +kernel) (by decide +kernel)
set_option maxRecDepth 100000 in
theorem jf_lk4 : ∀ w ∈ (jm_mpl 4).map (jm_lk 4), w ∈ jm_ws := jm_at_pl [498, 500, 503, 909, 910, 919, 1379, 1381, 1380, 1397, 1398, 1476, 1428, 1429, 1466, 1470, 1471, 1472] (by decide +kernel) (by decide +kernel)
set_option maxRecDepth 100000 in
theorem jf_lk5 : ∀ w ∈ (jm_mpl 5).map (jm_lk 5), w ∈ jm_ws := jm_at_pl [399, 401, 402, 1256, 1257, 1258, 1301, 1302, 1303, 1315, 1324, 1344, 1352, 1488, 1262, 1263, 1264, 1307, 1311, 1319, 1323, 1328, 1336, 1332, 1348, 1349, 1350, 1351] (by decide +kernel) (by decide +kernel)
set_option maxRecDepth 100000 in
theorem jf_lk6 : ∀ w ∈ (jm_mpl 6).map (jm_lk 6), w ∈ jm_ws := jm_at_pl [473, 771, 772, 888, 776, 800, 875, 780, 784, 796, 804, 808, 812, 855, 871, 816, 828, 820, 832, 824, 836, 840, 841, 842, 879, 880] (by decide +kernel) (by decide +kernel)
set_option maxRecDepth 100000 in
theorem jf_lk7 : ∀ w ∈ (jm_mpl 7).map (jm_lk 7), w ∈ jm_ws := jm_at_pl [506, 1433, 1434, 1438, 1446, 1442, 1450, 1453, 1457, 1458, 1463, 1454, 1455, 1456, 1461, 1462] (by decide +kernel) (by decide +kernel)
set_option maxRecDepth 100000 in
theorem jf_lk8 : ∀ w ∈ (jm_mpl 8).map (jm_lk 8), w ∈ jm_ws := jm_at_pl [288, 1115, 1116, 1120, 1125, 1131, 1132, 1139, 1129, 1130, 1136] (by decide +kernel) (by decide +kernel)
set_option maxRecDepth 100000 in
theorem jf_lk9 : ∀ w ∈ (jm_mpl 9).map (jm_lk 9), w ∈ jm_ws := jm_at_pl [313, 315, 325, 363, 593, 601, 605, 597, 609, 612, 616, 623, 627, 619, 632] (by decide +kernel) (by decide +kernel)
set_option maxRecDepth 100000 in
theorem jf_lk10 : ∀ w ∈ (jm_mpl 10).map (jm_lk 10), w ∈ jm_ws := jm_at_pl [405] (by decide +kernel) (by decide +kernel)
set_option maxRecDepth 100000 in
theorem jf_lk11 : ∀ w ∈ (jm_mpl 11).map (jm_lk 11), w ∈ jm_ws := jm_at_pl [171, 176, 282, 285, 310, 396, 454, 470, 495, 1188, 589, 691, 695, 767, 897, 901, 905, 979, 1058, 1070, 1152, 1156, 983, 1082, 1090, 1252, 1111, 1143, 1285, 1296, 1297, 1099, 1098, 1375, 1389, 1393, 1419, 1424, 1484, 1498, 1516, 955, 1534, 1538, 965, 966, 967, 968, 969, 970, 971, 975, 1054, 1062, 1066, 1078, 1086, 1094, 1107, 1147] (by decide +kernel) (by decide +kernel)
set_option maxRecDepth 100000 in
theorem jf_lk12 : ∀ w ∈ (jm_mpl 12).map (jm_lk 12), w ∈ jm_ws := jm_at_pl [1550] (by decide +kernel) (by decide +kernel)
set_option maxRecDepth 100000 in
theorem jf_lk13 : ∀ w ∈ (jm_mpl 13).map (jm_lk 13), w ∈ jm_ws := jm_at_pl [1544, 154, 1746, 1980, 1992, 2027, 2007, 2023, 2091, 2096, 2083, 2079, 2087, 2075, 1899, 2116, 1976, 2108, 2112, 1904, 2054, 2050, 2058, 1790, 1793, 1794, 2039, 1956, 2003, 2104, 1836, 1983, 2177, 2167, 2170, 2174, 2163, 2139, 2143, 1908, 2019, 2131, 2180, 2071, 2159, 2192, 1761, 1769, 1772, 1779, 1783, 1765, 1775, 1808, 1816, 1828, 1804, 1820, 1812, 1824, 1841, 1849, 1845, 1837, 1853, 1857, 1861, 1865, 1869, 1832, 1800, 1880, 1877, 1883, 1886, 1890, 1896, 1893, 1757, 1796, 1873, 1900, 1738, 1753, 1916, 1948, 1964, 1972, 1988, 2011, 2035, 2046, 2123, 2155, 2188, 2204, 2212, 2216, 2224, 2232, 2246] (by decide +kernel) (by decide +kernel)
set_option maxRecDepth 100000 in
theorem jf_lk14 : ∀ w ∈ (jm_mpl 14).map (jm_lk 14), w ∈ jm_ws := jm_at_pl [319, 329, 333, 640, 636, 641, 341] (by decide +kernel) (by decide +kernel)
set_option maxRecDepth 100000 in
theorem jf_lk15 : ∀ w ∈ (jm_mpl 15).map (jm_lk 15), w ∈ jm_ws := jm_at_pl [336, 650, 644, 647, 653] (by decide +kernel) (by decide +kernel)
set_option maxRecDepth 100000 in
theorem jf_lk22 : ∀ w ∈ (jm_mpl 22).map (jm_lk 22), w ∈ jm_ws := jm_at_pl [1168, 1196, 1220, 1224, 1228, 1232, 1236, 1240, 1244, 1248, 1268, 1272, 1280, 1292, 1360, 1367, 1371, 1385, 1408, 1415, 1480, 1493, 1505, 1512, 1523, 1530, 168, 1541, 1164, 1734, 1730, 1192, 1742, 585, 1749, 923, 1912, 927, 1920, 931, 1924, 935, 1928, 939, 1932, 943, 1936, 947, 1940, 1216, 1944, 1221, 1952, 1225, 1960, 1229, 1968, 1233, 1984, 1237, 1995, 1241, 1999, 1245, 2015, 1265, 2031, 1269, 2042, 1277, 2063, 1289, 2067, 1357, 2100, 1364, 2119, 1368, 2127, 1382, 2135, 1405, 2147, 1412, 2151, 1477, 2184, 1490, 2196, 1502, 2200, 1509, 2208, 1520, 2220, 1527, 2228, 951, 2236, 959, 2240] (by decide +kernel) (by decide +kernel)
theorem jf_lk : ∀ c, ∀ w ∈ (jm_mpl c).map (jm_lk c), w ∈ jm_ws := by
  intro c
  match c with
  | 0 => exact jf_lk0
  | 1 => exact jf_lk1
  | 2 => exact jf_lk2
  | 3 => exact jf_lk3
  | 4 => exact jf_lk4
  | 5 => exact jf_lk5
  | 6 => exact jf_lk6
  | 7 => exact jf_lk7
  | 8 => exact jf_lk8
  | 9 => exact jf_lk9
  | 10 => exact jf_lk10
  | 11 => exact jf_lk11
  | 12 => exact jf_lk12
  | 13 => exact jf_lk13
  | 14 => exact jf_lk14
  | 15 => exact jf_lk15
  | 16 => exact fun w h => absurd h List.not_mem_nil
  | 17 => exact fun w h => absurd h List.not_mem_nil
  | 18 => exact fun w h => absurd h List.not_mem_nil
  | 19 => exact fun w h => absurd h List.not_mem_nil
  | 20 => exact fun w h => absurd h List.not_mem_nil
  | 21 => exact fun w h => absurd h List.not_mem_nil
  | 22 => exact jf_lk22
  | _ + 23 => exact fun w h => absurd h List.not_mem_nil
theorem jf_mp_in {c i k : Nat} {y : jm_M} (h : jm_mp c i = some (k, y)) : (i, k, y) ∈ jm_mpl c := by
  unfold jm_mp at h
  rw [Option.map_eq_some_iff] at h
  obtain ⟨q, h1, h2⟩ := h
  have h3 := List.mem_of_find?_eq_some h1
  have h4 := List.find?_some h1
  obtain ⟨q1, q2⟩ := q
  have h5 : q1 = i := by simpa using h4
  have h6 : q2 = (k, y) := h2
  rw [h5, h6] at h3
  exact h3
theorem jf_link {c i k : Nat} {y : jm_M} (h : jm_mp c i = some (k, y)) : jm_lk c (i, k, y) ∈ jm_ws := jf_lk c _ (List.mem_map.mpr ⟨_, jf_mp_in h, rfl⟩)
/-- what a method of the tables is -/
def jm_mok (y : jm_M) : Bool := decide ((parseMethodDescriptor y.1.desc).map (fun d => d.parameters.length) = some y.2.2.2.2.2.2.2) && plainName y.1.cls && decide (y.1.cls ≠ "java/lang/invoke/MethodHandle") && decide (y.1.cls ≠ "java/lang/invoke/VarHandle") && decide (y.2.2.1 ≤ 22) && decide (y.1.cls = jm_cl y.2.2.2.2.2.1) && (decide (y.2.2.2.2.2.2.1 ≠ 2) || (decide (y.1.name = "<init>") && decide (y.2.2.2.1 = none)))
def jm_mwd (y : jm_M) : List Cond := (match y.2.2.2.2.2.2.1 with
  | 0 => [.instanceMethod y.1, .selects y.1.cls y.1 y.1]
  | 1 => [.static y.1]
  | _ => [.instanceMethod y.1]) ++ [.initialized y.1.cls]
def jm_cw (y : jm_M) : Cond := match y.2.2.2.2.1 with
  | [] => .code y.1 y.2.1 y.2.2.1 y.2.2.2.1
  | _ => .codeWith y.1 y.2.1 y.2.2.1 y.2.2.2.1 y.2.2.2.2.1
/-- the kind of a call against the kind of the method -/
def jm_kok (k : Nat) (y : jm_M) : Bool := match k with
  | 0 => decide (y.2.2.2.2.2.2.1 = 0) && decide (y.2.2.2.2.1 = [])
  | 1 => decide (y.2.2.2.2.2.2.1 = 1) && decide (y.2.2.2.2.1 = [])
  | 2 => decide (y.2.2.2.2.2.2.1 = 2) && decide (y.2.2.2.2.1 = [])
  | 3 => decide (y.2.2.2.2.2.2.1 = 2) && decide (y.2.2.2.2.1 = [])
  | 4 => decide (y.2.2.2.2.2.2.1 = 1) && !(decide (y.2.2.2.2.1 = []))
  | _ => false
theorem jt_0 {w : Cond} (h : w ∈ tables_1) : w ∈ lw_tbl := List.mem_append_right _ h
theorem jt_1 {w : Cond} (h : w ∈ tables_1_1) : w ∈ lw_tbl := jt_0 (List.mem_append_left _ h)
theorem jt_2 {w : Cond} (h : w ∈ tables_1_2) : w ∈ lw_tbl := jt_0 (List.mem_append_right _ (List.mem_append_left _ h))
theorem jt_3 {w : Cond} (h : w ∈ tables_1_3) : w ∈ lw_tbl := jt_0 (List.mem_append_right _ (List.mem_append_right _ (List.mem_append_left _ h)))
theorem jt_4 {w : Cond} (h : w ∈ tables_1_4) : w ∈ lw_tbl := jt_0 (List.mem_append_right _ (List.mem_append_right _ (List.mem_append_right _ (List.mem_append_left _ h))))
theorem jt_5 {w : Cond} (h : w ∈ tables_1_5) : w ∈ lw_tbl := jt_0 (List.mem_append_right _ (List.mem_append_right _ (List.mem_append_right _ (List.mem_append_right _ (List.mem_append_left _ h)))))
theorem jt_6 {w : Cond} (h : w ∈ tables_1_6) : w ∈ lw_tbl := jt_0 (List.mem_append_right _ (List.mem_append_right _ (List.mem_append_right _ (List.mem_append_right _ (List.mem_append_right _ (List.mem_append_left _ h))))))
theorem jt_7 {w : Cond} (h : w ∈ tables_1_7) : w ∈ lw_tbl := jt_0 (List.mem_append_right _ (List.mem_append_right _ (List.mem_append_right _ (List.mem_append_right _ (List.mem_append_right _ (List.mem_append_right _ (List.mem_append_left _ h)))))))
theorem jt_8 {w : Cond} (h : w ∈ tables_1_8) : w ∈ lw_tbl := jt_0 (List.mem_append_right _ (List.mem_append_right _ (List.mem_append_right _ (List.mem_append_right _ (List.mem_append_right _ (List.mem_append_right _ (List.mem_append_right _ (List.mem_append_left _ h))))))))
theorem jt_9 {w : Cond} (h : w ∈ tables_1_9) : w ∈ lw_tbl := jt_0 (List.mem_append_right _ (List.mem_append_right _ (List.mem_append_right _ (List.mem_append_right _ (List.mem_append_right _ (List.mem_append_right _ (List.mem_append_right _ (List.mem_append_right _ (h)))))))))
def jm_ml0 : List jm_M := [mX0_actorNameAt, mX0_actorOf, mX0_addActor, mX0_addCode, mX0_addNote, mX0_addPlay, mX0_clear, mX0_codeKindAt, mX0_codeValueAt, mX0_init, mX0_knows, mX0_lookUpPlays, mX0_noteAt, mX0_playOf, mX0_toldAt]
set_option maxRecDepth 100000 in
theorem jf_mw0 : ∀ w ∈ jm_ml0.flatMap jm_mwd, w ∈ jm_ws := jm_at_pl [1153, 1154, 139, 789, 790, 139, 797, 798, 139, 748, 749, 139, 881, 882, 139, 872, 873, 139, 692, 693, 139, 893, 894, 139, 1435, 1436, 139, 177, 139, 785, 786, 139, 889, 890, 139, 885, 886, 139, 793, 794, 139, 805, 806, 139] (by decide +kernel) (by decide +kernel)
set_option maxRecDepth 100000 in
theorem jf_mo0 : ∀ y ∈ jm_ml0, jm_mok y = true := by decide +kernel
theorem jf_c_mX0_actorNameAt : jm_cw mX0_actorNameAt ∈ jm_ws := jm_wsin (jt_5 (List.mem_of_getElem? (i := 58) rfl)) rfl
theorem jf_c_mX0_actorOf : jm_cw mX0_actorOf ∈ jm_ws := jm_wsin (jt_3 (List.mem_of_getElem? (i := 174) rfl)) rfl
theorem jf_c_mX0_addActor : jm_cw mX0_addActor ∈ jm_ws := jm_wsin (jt_3 (List.mem_of_getElem? (i := 182) rfl)) rfl
theorem jf_c_mX0_addCode : jm_cw mX0_addCode ∈ jm_ws := jm_wsin (jt_3 (List.mem_of_getElem? (i := 133) rfl)) rfl
theorem jf_c_mX0_addNote : jm_cw mX0_addNote ∈ jm_ws := jm_wsin (jt_4 (List.mem_of_getElem? (i := 26) rfl)) rfl
theorem jf_c_mX0_addPlay : jm_cw mX0_addPlay ∈ jm_ws := jm_wsin (jt_4 (List.mem_of_getElem? (i := 17) rfl)) rfl
theorem jf_c_mX0_clear : jm_cw mX0_clear ∈ jm_ws := jm_wsin (jt_3 (List.mem_of_getElem? (i := 77) rfl)) rfl
theorem jf_c_mX0_codeKindAt : jm_cw mX0_codeKindAt ∈ jm_ws := jm_wsin (jt_4 (List.mem_of_getElem? (i := 38) rfl)) rfl
theorem jf_c_mX0_codeValueAt : jm_cw mX0_codeValueAt ∈ jm_ws := jm_wsin (jt_6 (List.mem_of_getElem? (i := 100) rfl)) rfl
theorem jf_c_mX0_init : jm_cw mX0_init ∈ jm_ws := jm_wsin (jt_1 (List.mem_of_getElem? (i := 41) rfl)) rfl
theorem jf_c_mX0_knows : jm_cw mX0_knows ∈ jm_ws := jm_wsin (jt_3 (List.mem_of_getElem? (i := 170) rfl)) rfl
theorem jf_c_mX0_lookUpPlays : jm_cw mX0_lookUpPlays ∈ jm_ws := jm_wsin (jt_4 (List.mem_of_getElem? (i := 34) rfl)) rfl
theorem jf_c_mX0_noteAt : jm_cw mX0_noteAt ∈ jm_ws := jm_wsin (jt_4 (List.mem_of_getElem? (i := 30) rfl)) rfl
theorem jf_c_mX0_playOf : jm_cw mX0_playOf ∈ jm_ws := jm_wsin (jt_3 (List.mem_of_getElem? (i := 178) rfl)) rfl
theorem jf_c_mX0_toldAt : jm_cw mX0_toldAt ∈ jm_ws := jm_wsin (jt_3 (List.mem_of_getElem? (i := 190) rfl)) rfl
set_option maxRecDepth 100000 in
theorem jf_mc0 : ∀ y ∈ jm_ml0, jm_cw y ∈ jm_ws := List.forall_mem_cons.mpr ⟨jf_c_mX0_actorNameAt, List.forall_mem_cons.mpr ⟨jf_c_mX0_actorOf, List.forall_mem_cons.mpr ⟨jf_c_mX0_addActor, List.forall_mem_cons.mpr ⟨jf_c_mX0_addCode, List.forall_mem_cons.mpr ⟨jf_c_mX0_addNote, List.forall_mem_cons.mpr ⟨jf_c_mX0_addPlay, List.forall_mem_cons.mpr ⟨jf_c_mX0_clear, List.forall_mem_cons.mpr ⟨jf_c_mX0_codeKindAt, List.forall_mem_cons.mpr ⟨jf_c_mX0_codeValueAt, List.forall_mem_cons.mpr ⟨jf_c_mX0_init, List.forall_mem_cons.mpr ⟨jf_c_mX0_knows, List.forall_mem_cons.mpr ⟨jf_c_mX0_lookUpPlays, List.forall_mem_cons.mpr ⟨jf_c_mX0_noteAt, List.forall_mem_cons.mpr ⟨jf_c_mX0_playOf, List.forall_mem_cons.mpr ⟨jf_c_mX0_toldAt, fun _ h => absurd h List.not_mem_nil⟩⟩⟩⟩⟩⟩⟩⟩⟩⟩⟩⟩⟩⟩⟩
def jm_ml1 : List jm_M := [mX1_both, mX1_firstWrongToken, mX1_init, mX1_line, mX1_part, mX1_product, mX1_put, mX1_scenes, mX1_sees, mX1_single, mX1_sum, mX1_take, mX1_test, mX1_value, mX1_when]
set_option maxRecDepth 100000 in
theorem jf_mw1 : ∀ w ∈ jm_ml1.flatMap jm_mwd, w ∈ jm_ws := jm_at_pl [737, 15, 150, 696, 697, 150, 455, 150, 709, 9, 150, 717, 11, 150, 757, 19, 150, 745, 17, 150, 721, 12, 150, 701, 8, 150, 741, 16, 150, 753, 18, 150, 713, 10, 150, 733, 14, 150, 761, 20, 150, 729, 13, 150] (by decide +kernel) (by decide +kernel)
set_option maxRecDepth 100000 in
theorem jf_mo1 : ∀ y ∈ jm_ml1, jm_mok y = true := by decide +kernel
theorem jf_c_mX1_both : jm_cw mX1_both ∈ jm_ws := jm_wsin (jt_3 (List.mem_of_getElem? (i := 121) rfl)) rfl
theorem jf_c_mX1_firstWrongToken : jm_cw mX1_firstWrongToken ∈ jm_ws := jm_wsin (jt_3 (List.mem_of_getElem? (i := 81) rfl)) rfl
theorem jf_c_mX1_init : jm_cw mX1_init ∈ jm_ws := jm_wsin (jt_2 (List.mem_of_getElem? (i := 79) rfl)) rfl
theorem jf_c_mX1_line : jm_cw mX1_line ∈ jm_ws := jm_wsin (jt_3 (List.mem_of_getElem? (i := 93) rfl)) rfl
theorem jf_c_mX1_part : jm_cw mX1_part ∈ jm_ws := jm_wsin (jt_3 (List.mem_of_getElem? (i := 101) rfl)) rfl
theorem jf_c_mX1_product : jm_cw mX1_product ∈ jm_ws := jm_wsin (jt_3 (List.mem_of_getElem? (i := 141) rfl)) rfl
theorem jf_c_mX1_put : jm_cw mX1_put ∈ jm_ws := jm_wsin (jt_3 (List.mem_of_getElem? (i := 129) rfl)) rfl
theorem jf_c_mX1_scenes : jm_cw mX1_scenes ∈ jm_ws := jm_wsin (jt_3 (List.mem_of_getElem? (i := 105) rfl)) rfl
theorem jf_c_mX1_sees : jm_cw mX1_sees ∈ jm_ws := jm_wsin (jt_3 (List.mem_of_getElem? (i := 85) rfl)) rfl
theorem jf_c_mX1_single : jm_cw mX1_single ∈ jm_ws := jm_wsin (jt_3 (List.mem_of_getElem? (i := 125) rfl)) rfl
theorem jf_c_mX1_sum : jm_cw mX1_sum ∈ jm_ws := jm_wsin (jt_3 (List.mem_of_getElem? (i := 137) rfl)) rfl
theorem jf_c_mX1_take : jm_cw mX1_take ∈ jm_ws := jm_wsin (jt_3 (List.mem_of_getElem? (i := 97) rfl)) rfl
theorem jf_c_mX1_test : jm_cw mX1_test ∈ jm_ws := jm_wsin (jt_3 (List.mem_of_getElem? (i := 117) rfl)) rfl
theorem jf_c_mX1_value : jm_cw mX1_value ∈ jm_ws := jm_wsin (jt_3 (List.mem_of_getElem? (i := 145) rfl)) rfl
theorem jf_c_mX1_when : jm_cw mX1_when ∈ jm_ws := jm_wsin (jt_3 (List.mem_of_getElem? (i := 113) rfl)) rfl
set_option maxRecDepth 100000 in
theorem jf_mc1 : ∀ y ∈ jm_ml1, jm_cw y ∈ jm_ws := List.forall_mem_cons.mpr ⟨jf_c_mX1_both, List.forall_mem_cons.mpr ⟨jf_c_mX1_firstWrongToken, List.forall_mem_cons.mpr ⟨jf_c_mX1_init, List.forall_mem_cons.mpr ⟨jf_c_mX1_line, List.forall_mem_cons.mpr ⟨jf_c_mX1_part, List.forall_mem_cons.mpr ⟨jf_c_mX1_product, List.forall_mem_cons.mpr ⟨jf_c_mX1_put, List.forall_mem_cons.mpr ⟨jf_c_mX1_scenes, List.forall_mem_cons.mpr ⟨jf_c_mX1_sees, List.forall_mem_cons.mpr ⟨jf_c_mX1_single, List.forall_mem_cons.mpr ⟨jf_c_mX1_sum, List.forall_mem_cons.mpr ⟨jf_c_mX1_take, List.forall_mem_cons.mpr ⟨jf_c_mX1_test, List.forall_mem_cons.mpr ⟨jf_c_mX1_value, List.forall_mem_cons.mpr ⟨jf_c_mX1_when, fun _ h => absurd h List.not_mem_nil⟩⟩⟩⟩⟩⟩⟩⟩⟩⟩⟩⟩⟩⟩⟩
def jm_ml2 : List jm_M := [mX2_init]
set_option maxRecDepth 100000 in
theorem jf_mw2 : ∀ w ∈ jm_ml2.flatMap jm_mwd, w ∈ jm_ws := jm_at_pl [214, 141] (by decide +kernel) (by decide +kernel)
set_option maxRecDepth 100000 in
theorem jf_mo2 : ∀ y ∈ jm_ml2, jm_mok y = true := by decide +kernel
theorem jf_c_mX2_init : jm_cw mX2_init ∈ jm_ws := jm_wsin (jt_1 (List.mem_of_getElem? (i := 78) rfl)) rfl
set_option maxRecDepth 100000 in
theorem jf_mc2 : ∀ y ∈ jm_ml2, jm_cw y ∈ jm_ws := List.forall_mem_cons.mpr ⟨jf_c_mX2_init, fun _ h => absurd h List.not_mem_nil⟩
def jm_ml3 : List jm_M := [mX3_add, mX3_append, mX3_belongsLike, mX3_clear, mX3_countOf, mX3_countOfOpen, mX3_endAt, mX3_fitInScene, mX3_hasTextOf, mX3_holdsName, mX3_init, mX3_isLike, mX3_kindAt, mX3_link, mX3_maskOf, mX3_masksAround, mX3_mostMasks, mX3_nameAt, mX3_outerAt, mX3_readyScene, mX3_renameMask, mX3_setName, mX3_setOuter, mX3_setTo, mX3_setToScene]
set_option maxRecDepth 100000 in
theorem jf_mw3 : ∀ w ∈ jm_ml3.flatMap jm_mwd, w ∈ jm_ws := jm_at_pl [825, 826, 140, 843, 844, 140, 1105, 37, 140, 809, 810, 140, 1059, 1060, 140, 1157, 1158, 140, 860, 861, 140, 1390, 140, 1353, 1354, 140, 1333, 1334, 140, 186, 140, 1100, 1101, 140, 847, 848, 140, 856, 857, 140, 1161, 1162, 140, 1076, 36, 140, 1071, 1072, 140, 851, 852, 140, 868, 869, 140, 1091, 1092, 140, 1337, 1338, 140, 1342, 52, 140, 865, 29, 140, 911, 912, 140, 1399, 1400, 140] (by decide +kernel) (by decide +kernel)
set_option maxRecDepth 100000 in
theorem jf_mo3 : ∀ y ∈ jm_ml3, jm_mok y = true := by decide +kernel
theorem jf_c_mX3_add : jm_cw mX3_add ∈ jm_ws := jm_wsin (jt_3 (List.mem_of_getElem? (i := 210) rfl)) rfl
theorem jf_c_mX3_append : jm_cw mX3_append ∈ jm_ws := jm_wsin (jt_3 (List.mem_of_getElem? (i := 228) rfl)) rfl
theorem jf_c_mX3_belongsLike : jm_cw mX3_belongsLike ∈ jm_ws := jm_wsin (jt_5 (List.mem_of_getElem? (i := 9) rfl)) rfl
theorem jf_c_mX3_clear : jm_cw mX3_clear ∈ jm_ws := jm_wsin (jt_3 (List.mem_of_getElem? (i := 194) rfl)) rfl
theorem jf_c_mX3_countOf : jm_cw mX3_countOf ∈ jm_ws := jm_wsin (jt_4 (List.mem_of_getElem? (i := 204) rfl)) rfl
theorem jf_c_mX3_countOfOpen : jm_cw mX3_countOfOpen ∈ jm_ws := jm_wsin (jt_5 (List.mem_of_getElem? (i := 62) rfl)) rfl
theorem jf_c_mX3_endAt : jm_cw mX3_endAt ∈ jm_ws := jm_wsin (jt_4 (List.mem_of_getElem? (i := 5) rfl)) rfl
theorem jf_c_mX3_fitInScene : jm_cw mX3_fitInScene ∈ jm_ws := jm_wsin (jt_6 (List.mem_of_getElem? (i := 54) rfl)) rfl
theorem jf_c_mX3_hasTextOf : jm_cw mX3_hasTextOf ∈ jm_ws := jm_wsin (jt_6 (List.mem_of_getElem? (i := 18) rfl)) rfl
theorem jf_c_mX3_holdsName : jm_cw mX3_holdsName ∈ jm_ws := jm_wsin (jt_5 (List.mem_of_getElem? (i := 238) rfl)) rfl
theorem jf_c_mX3_init : jm_cw mX3_init ∈ jm_ws := jm_wsin (jt_1 (List.mem_of_getElem? (i := 50) rfl)) rfl
theorem jf_c_mX3_isLike : jm_cw mX3_isLike ∈ jm_ws := jm_wsin (jt_5 (List.mem_of_getElem? (i := 5) rfl)) rfl
theorem jf_c_mX3_kindAt : jm_cw mX3_kindAt ∈ jm_ws := jm_wsin (jt_3 (List.mem_of_getElem? (i := 232) rfl)) rfl
theorem jf_c_mX3_link : jm_cw mX3_link ∈ jm_ws := jm_wsin (jt_4 (List.mem_of_getElem? (i := 1) rfl)) rfl
theorem jf_c_mX3_maskOf : jm_cw mX3_maskOf ∈ jm_ws := jm_wsin (jt_5 (List.mem_of_getElem? (i := 66) rfl)) rfl
theorem jf_c_mX3_masksAround : jm_cw mX3_masksAround ∈ jm_ws := jm_wsin (jt_4 (List.mem_of_getElem? (i := 220) rfl)) rfl
theorem jf_c_mX3_mostMasks : jm_cw mX3_mostMasks ∈ jm_ws := jm_wsin (jt_4 (List.mem_of_getElem? (i := 216) rfl)) rfl
theorem jf_c_mX3_nameAt : jm_cw mX3_nameAt ∈ jm_ws := jm_wsin (jt_3 (List.mem_of_getElem? (i := 236) rfl)) rfl
theorem jf_c_mX3_outerAt : jm_cw mX3_outerAt ∈ jm_ws := jm_wsin (jt_4 (List.mem_of_getElem? (i := 13) rfl)) rfl
theorem jf_c_mX3_readyScene : jm_cw mX3_readyScene ∈ jm_ws := jm_wsin (jt_4 (List.mem_of_getElem? (i := 236) rfl)) rfl
theorem jf_c_mX3_renameMask : jm_cw mX3_renameMask ∈ jm_ws := jm_wsin (jt_6 (List.mem_of_getElem? (i := 2) rfl)) rfl
theorem jf_c_mX3_setName : jm_cw mX3_setName ∈ jm_ws := jm_wsin (jt_6 (List.mem_of_getElem? (i := 6) rfl)) rfl
theorem jf_c_mX3_setOuter : jm_cw mX3_setOuter ∈ jm_ws := jm_wsin (jt_4 (List.mem_of_getElem? (i := 9) rfl)) rfl
theorem jf_c_mX3_setTo : jm_cw mX3_setTo ∈ jm_ws := jm_wsin (jt_4 (List.mem_of_getElem? (i := 56) rfl)) rfl
theorem jf_c_mX3_setToScene : jm_cw mX3_setToScene ∈ jm_ws := jm_wsin (jt_6 (List.mem_of_getElem? (i := 64) rfl)) rfl
set_option maxRecDepth 100000 in
theorem jf_mc3 : ∀ y ∈ jm_ml3, jm_cw y ∈ jm_ws := List.forall_mem_cons.mpr ⟨jf_c_mX3_add, List.forall_mem_cons.mpr ⟨jf_c_mX3_append, List.forall_mem_cons.mpr ⟨jf_c_mX3_belongsLike, List.forall_mem_cons.mpr ⟨jf_c_mX3_clear, List.forall_mem_cons.mpr ⟨jf_c_mX3_countOf, List.forall_mem_cons.mpr ⟨jf_c_mX3_countOfOpen, List.forall_mem_cons.mpr ⟨jf_c_mX3_endAt, List.forall_mem_cons.mpr ⟨jf_c_mX3_fitInScene, List.forall_mem_cons.mpr ⟨jf_c_mX3_hasTextOf, List.forall_mem_cons.mpr ⟨jf_c_mX3_holdsName, List.forall_mem_cons.mpr ⟨jf_c_mX3_init, List.forall_mem_cons.mpr ⟨jf_c_mX3_isLike, List.forall_mem_cons.mpr ⟨jf_c_mX3_kindAt, List.forall_mem_cons.mpr ⟨jf_c_mX3_link, List.forall_mem_cons.mpr ⟨jf_c_mX3_maskOf, List.forall_mem_cons.mpr ⟨jf_c_mX3_masksAround, List.forall_mem_cons.mpr ⟨jf_c_mX3_mostMasks, List.forall_mem_cons.mpr ⟨jf_c_mX3_nameAt, List.forall_mem_cons.mpr ⟨jf_c_mX3_outerAt, List.forall_mem_cons.mpr ⟨jf_c_mX3_readyScene, List.forall_mem_cons.mpr ⟨jf_c_mX3_renameMask, List.forall_mem_cons.mpr ⟨jf_c_mX3_setName, List.forall_mem_cons.mpr ⟨jf_c_mX3_setOuter, List.forall_mem_cons.mpr ⟨jf_c_mX3_setTo, List.forall_mem_cons.mpr ⟨jf_c_mX3_setToScene, fun _ h => absurd h List.not_mem_nil⟩⟩⟩⟩⟩⟩⟩⟩⟩⟩⟩⟩⟩⟩⟩⟩⟩⟩⟩⟩⟩⟩⟩⟩⟩
def jm_ml4 : List jm_M := [mX4_begin, mX4_carryOut, mX4_givePlay, mX4_init, mX4_partAt, mX4_passEvening, mX4_renewPlay, mX4_setSteps, mX4_setTo, mX4_stepPlay, mX4_stepsAt]
set_option maxRecDepth 100000 in
theorem jf_mw4 : ∀ w ∈ jm_ml4.flatMap jm_mwd, w ∈ jm_ws := jm_at_pl [906, 907, 152, 1468, 58, 152, 1394, 1395, 152, 496, 152, 956, 957, 152, 1425, 1426, 152, 1474, 59, 152, 921, 31, 152, 1517, 1518, 152, 1376, 1377, 152, 1083, 1084, 152] (by decide +kernel) (by decide +kernel)
set_option maxRecDepth 100000 in
theorem jf_mo4 : ∀ y ∈ jm_ml4, jm_mok y = true := by decide +kernel
theorem jf_c_mX4_begin : jm_cw mX4_begin ∈ jm_ws := jm_wsin (jt_4 (List.mem_of_getElem? (i := 51) rfl)) rfl
theorem jf_c_mX4_carryOut : jm_cw mX4_carryOut ∈ jm_ws := jm_wsin (jt_6 (List.mem_of_getElem? (i := 132) rfl)) rfl
theorem jf_c_mX4_givePlay : jm_cw mX4_givePlay ∈ jm_ws := jm_wsin (jt_6 (List.mem_of_getElem? (i := 59) rfl)) rfl
theorem jf_c_mX4_init : jm_cw mX4_init ∈ jm_ws := jm_wsin (jt_2 (List.mem_of_getElem? (i := 120) rfl)) rfl
theorem jf_c_mX4_partAt : jm_cw mX4_partAt ∈ jm_ws := jm_wsin (jt_4 (List.mem_of_getElem? (i := 101) rfl)) rfl
theorem jf_c_mX4_passEvening : jm_cw mX4_passEvening ∈ jm_ws := jm_wsin (jt_6 (List.mem_of_getElem? (i := 90) rfl)) rfl
theorem jf_c_mX4_renewPlay : jm_cw mX4_renewPlay ∈ jm_ws := jm_wsin (jt_6 (List.mem_of_getElem? (i := 138) rfl)) rfl
theorem jf_c_mX4_setSteps : jm_cw mX4_setSteps ∈ jm_ws := jm_wsin (jt_4 (List.mem_of_getElem? (i := 65) rfl)) rfl
theorem jf_c_mX4_setTo : jm_cw mX4_setTo ∈ jm_ws := jm_wsin (jt_6 (List.mem_of_getElem? (i := 182) rfl)) rfl
theorem jf_c_mX4_stepPlay : jm_cw mX4_stepPlay ∈ jm_ws := jm_wsin (jt_6 (List.mem_of_getElem? (i := 41) rfl)) rfl
theorem jf_c_mX4_stepsAt : jm_cw mX4_stepsAt ∈ jm_ws := jm_wsin (jt_4 (List.mem_of_getElem? (i := 228) rfl)) rfl
set_option maxRecDepth 100000 in
theorem jf_mc4 : ∀ y ∈ jm_ml4, jm_cw y ∈ jm_ws := List.forall_mem_cons.mpr ⟨jf_c_mX4_begin, List.forall_mem_cons.mpr ⟨jf_c_mX4_carryOut, List.forall_mem_cons.mpr ⟨jf_c_mX4_givePlay, List.forall_mem_cons.mpr ⟨jf_c_mX4_init, List.forall_mem_cons.mpr ⟨jf_c_mX4_partAt, List.forall_mem_cons.mpr ⟨jf_c_mX4_passEvening, List.forall_mem_cons.mpr ⟨jf_c_mX4_renewPlay, List.forall_mem_cons.mpr ⟨jf_c_mX4_setSteps, List.forall_mem_cons.mpr ⟨jf_c_mX4_setTo, List.forall_mem_cons.mpr ⟨jf_c_mX4_stepPlay, List.forall_mem_cons.mpr ⟨jf_c_mX4_stepsAt, fun _ h => absurd h List.not_mem_nil⟩⟩⟩⟩⟩⟩⟩⟩⟩⟩⟩
def jm_ml5 : List jm_M := [mX5_addOpenName, mX5_build, mX5_canBeTaken, mX5_findMasksAround, mX5_findOpenNames, mX5_findUses, mX5_freshNameBelow, mX5_init, mX5_isOpenName, mX5_markMasksAround, mX5_renameMasks, mX5_take, mX5_takeUntilFinished, mX5_takeUpTo]
set_option maxRecDepth 100000 in
theorem jf_mw5 : ∀ w ∈ jm_ml5.flatMap jm_mwd, w ∈ jm_ws := jm_at_pl [1313, 47, 149, 1346, 53, 149, 1253, 1254, 149, 1317, 48, 149, 1305, 45, 149, 1260, 44, 149, 1330, 51, 149, 397, 149, 1309, 46, 149, 1321, 49, 149, 1326, 50, 149, 1298, 1299, 149, 1485, 1486, 149, 1499, 1500, 149] (by decide +kernel) (by decide +kernel)
set_option maxRecDepth 100000 in
theorem jf_mo5 : ∀ y ∈ jm_ml5, jm_mok y = true := by decide +kernel
theorem jf_c_mX5_addOpenName : jm_cw mX5_addOpenName ∈ jm_ws := jm_wsin (jt_5 (List.mem_of_getElem? (i := 217) rfl)) rfl
theorem jf_c_mX5_build : jm_cw mX5_build ∈ jm_ws := jm_wsin (jt_6 (List.mem_of_getElem? (i := 10) rfl)) rfl
theorem jf_c_mX5_canBeTaken : jm_cw mX5_canBeTaken ∈ jm_ws := jm_wsin (jt_5 (List.mem_of_getElem? (i := 158) rfl)) rfl
theorem jf_c_mX5_findMasksAround : jm_cw mX5_findMasksAround ∈ jm_ws := jm_wsin (jt_5 (List.mem_of_getElem? (i := 221) rfl)) rfl
theorem jf_c_mX5_findOpenNames : jm_cw mX5_findOpenNames ∈ jm_ws := jm_wsin (jt_5 (List.mem_of_getElem? (i := 209) rfl)) rfl
theorem jf_c_mX5_findUses : jm_cw mX5_findUses ∈ jm_ws := jm_wsin (jt_5 (List.mem_of_getElem? (i := 164) rfl)) rfl
theorem jf_c_mX5_freshNameBelow : jm_cw mX5_freshNameBelow ∈ jm_ws := jm_wsin (jt_5 (List.mem_of_getElem? (i := 234) rfl)) rfl
theorem jf_c_mX5_init : jm_cw mX5_init ∈ jm_ws := jm_wsin (jt_2 (List.mem_of_getElem? (i := 21) rfl)) rfl
theorem jf_c_mX5_isOpenName : jm_cw mX5_isOpenName ∈ jm_ws := jm_wsin (jt_5 (List.mem_of_getElem? (i := 213) rfl)) rfl
theorem jf_c_mX5_markMasksAround : jm_cw mX5_markMasksAround ∈ jm_ws := jm_wsin (jt_5 (List.mem_of_getElem? (i := 225) rfl)) rfl
theorem jf_c_mX5_renameMasks : jm_cw mX5_renameMasks ∈ jm_ws := jm_wsin (jt_5 (List.mem_of_getElem? (i := 230) rfl)) rfl
theorem jf_c_mX5_take : jm_cw mX5_take ∈ jm_ws := jm_wsin (jt_5 (List.mem_of_getElem? (i := 203) rfl)) rfl
theorem jf_c_mX5_takeUntilFinished : jm_cw mX5_takeUntilFinished ∈ jm_ws := jm_wsin (jt_6 (List.mem_of_getElem? (i := 150) rfl)) rfl
theorem jf_c_mX5_takeUpTo : jm_cw mX5_takeUpTo ∈ jm_ws := jm_wsin (jt_6 (List.mem_of_getElem? (i := 164) rfl)) rfl
set_option maxRecDepth 100000 in
theorem jf_mc5 : ∀ y ∈ jm_ml5, jm_cw y ∈ jm_ws := List.forall_mem_cons.mpr ⟨jf_c_mX5_addOpenName, List.forall_mem_cons.mpr ⟨jf_c_mX5_build, List.forall_mem_cons.mpr ⟨jf_c_mX5_canBeTaken, List.forall_mem_cons.mpr ⟨jf_c_mX5_findMasksAround, List.forall_mem_cons.mpr ⟨jf_c_mX5_findOpenNames, List.forall_mem_cons.mpr ⟨jf_c_mX5_findUses, List.forall_mem_cons.mpr ⟨jf_c_mX5_freshNameBelow, List.forall_mem_cons.mpr ⟨jf_c_mX5_init, List.forall_mem_cons.mpr ⟨jf_c_mX5_isOpenName, List.forall_mem_cons.mpr ⟨jf_c_mX5_markMasksAround, List.forall_mem_cons.mpr ⟨jf_c_mX5_renameMasks, List.forall_mem_cons.mpr ⟨jf_c_mX5_take, List.forall_mem_cons.mpr ⟨jf_c_mX5_takeUntilFinished, List.forall_mem_cons.mpr ⟨jf_c_mX5_takeUpTo, fun _ h => absurd h List.not_mem_nil⟩⟩⟩⟩⟩⟩⟩⟩⟩⟩⟩⟩⟩⟩
def jm_ml6 : List jm_M := [mX6_actor, mX6_addTo, mX6_firstError, mX6_init, mX6_isMaskAround, mX6_line, mX6_mask, mX6_name, mX6_note, mX6_place, mX6_play, mX6_tokenOf]
set_option maxRecDepth 100000 in
theorem jf_mw6 : ∀ w ∈ jm_ml6.flatMap jm_mwd, w ∈ jm_ws := jm_at_pl [778, 22, 151, 822, 26, 151, 768, 769, 151, 471, 151, 838, 28, 151, 774, 21, 151, 818, 25, 151, 834, 27, 151, 877, 30, 151, 898, 899, 151, 802, 23, 151, 814, 24, 151] (by decide +kernel) (by decide +kernel)
set_option maxRecDepth 100000 in
theorem jf_mo6 : ∀ y ∈ jm_ml6, jm_mok y = true := by decide +kernel
theorem jf_c_mX6_actor : jm_cw mX6_actor ∈ jm_ws := jm_wsin (jt_3 (List.mem_of_getElem? (i := 162) rfl)) rfl
theorem jf_c_mX6_addTo : jm_cw mX6_addTo ∈ jm_ws := jm_wsin (jt_3 (List.mem_of_getElem? (i := 206) rfl)) rfl
theorem jf_c_mX6_firstError : jm_cw mX6_firstError ∈ jm_ws := jm_wsin (jt_3 (List.mem_of_getElem? (i := 153) rfl)) rfl
theorem jf_c_mX6_init : jm_cw mX6_init ∈ jm_ws := jm_wsin (jt_2 (List.mem_of_getElem? (i := 95) rfl)) rfl
theorem jf_c_mX6_isMaskAround : jm_cw mX6_isMaskAround ∈ jm_ws := jm_wsin (jt_3 (List.mem_of_getElem? (i := 222) rfl)) rfl
theorem jf_c_mX6_line : jm_cw mX6_line ∈ jm_ws := jm_wsin (jt_3 (List.mem_of_getElem? (i := 158) rfl)) rfl
theorem jf_c_mX6_mask : jm_cw mX6_mask ∈ jm_ws := jm_wsin (jt_3 (List.mem_of_getElem? (i := 202) rfl)) rfl
theorem jf_c_mX6_name : jm_cw mX6_name ∈ jm_ws := jm_wsin (jt_3 (List.mem_of_getElem? (i := 218) rfl)) rfl
theorem jf_c_mX6_note : jm_cw mX6_note ∈ jm_ws := jm_wsin (jt_4 (List.mem_of_getElem? (i := 21) rfl)) rfl
theorem jf_c_mX6_place : jm_cw mX6_place ∈ jm_ws := jm_wsin (jt_4 (List.mem_of_getElem? (i := 43) rfl)) rfl
theorem jf_c_mX6_play : jm_cw mX6_play ∈ jm_ws := jm_wsin (jt_3 (List.mem_of_getElem? (i := 186) rfl)) rfl
theorem jf_c_mX6_tokenOf : jm_cw mX6_tokenOf ∈ jm_ws := jm_wsin (jt_3 (List.mem_of_getElem? (i := 198) rfl)) rfl
set_option maxRecDepth 100000 in
theorem jf_mc6 : ∀ y ∈ jm_ml6, jm_cw y ∈ jm_ws := List.forall_mem_cons.mpr ⟨jf_c_mX6_actor, List.forall_mem_cons.mpr ⟨jf_c_mX6_addTo, List.forall_mem_cons.mpr ⟨jf_c_mX6_firstError, List.forall_mem_cons.mpr ⟨jf_c_mX6_init, List.forall_mem_cons.mpr ⟨jf_c_mX6_isMaskAround, List.forall_mem_cons.mpr ⟨jf_c_mX6_line, List.forall_mem_cons.mpr ⟨jf_c_mX6_mask, List.forall_mem_cons.mpr ⟨jf_c_mX6_name, List.forall_mem_cons.mpr ⟨jf_c_mX6_note, List.forall_mem_cons.mpr ⟨jf_c_mX6_place, List.forall_mem_cons.mpr ⟨jf_c_mX6_play, List.forall_mem_cons.mpr ⟨jf_c_mX6_tokenOf, fun _ h => absurd h List.not_mem_nil⟩⟩⟩⟩⟩⟩⟩⟩⟩⟩⟩⟩
def jm_ml7 : List jm_M := [mX7_holds, mX7_init, mX7_ofNumbers, mX7_ofOrder, mX7_ofPlay, mX7_pop, mX7_push, mX7_reckon]
set_option maxRecDepth 100000 in
theorem jf_mw7 : ∀ w ∈ jm_ml7.flatMap jm_mwd, w ∈ jm_ws := jm_at_pl [1430, 1431, 153, 504, 153, 1459, 153, 1464, 153, 1451, 153, 1448, 57, 153, 1444, 56, 153, 1440, 55, 153] (by decide +kernel) (by decide +kernel)
set_option maxRecDepth 100000 in
theorem jf_mo7 : ∀ y ∈ jm_ml7, jm_mok y = true := by decide +kernel
theorem jf_c_mX7_holds : jm_cw mX7_holds ∈ jm_ws := jm_wsin (jt_6 (List.mem_of_getElem? (i := 95) rfl)) rfl
theorem jf_c_mX7_init : jm_cw mX7_init ∈ jm_ws := jm_wsin (jt_2 (List.mem_of_getElem? (i := 128) rfl)) rfl
theorem jf_c_mX7_ofNumbers : jm_cw mX7_ofNumbers ∈ jm_ws := jm_wsin (jt_6 (List.mem_of_getElem? (i := 123) rfl)) rfl
theorem jf_c_mX7_ofOrder : jm_cw mX7_ofOrder ∈ jm_ws := jm_wsin (jt_6 (List.mem_of_getElem? (i := 128) rfl)) rfl
theorem jf_c_mX7_ofPlay : jm_cw mX7_ofPlay ∈ jm_ws := jm_wsin (jt_6 (List.mem_of_getElem? (i := 115) rfl)) rfl
theorem jf_c_mX7_pop : jm_cw mX7_pop ∈ jm_ws := jm_wsin (jt_6 (List.mem_of_getElem? (i := 112) rfl)) rfl
theorem jf_c_mX7_push : jm_cw mX7_push ∈ jm_ws := jm_wsin (jt_6 (List.mem_of_getElem? (i := 108) rfl)) rfl
theorem jf_c_mX7_reckon : jm_cw mX7_reckon ∈ jm_ws := jm_wsin (jt_6 (List.mem_of_getElem? (i := 104) rfl)) rfl
set_option maxRecDepth 100000 in
theorem jf_mc7 : ∀ y ∈ jm_ml7, jm_cw y ∈ jm_ws := List.forall_mem_cons.mpr ⟨jf_c_mX7_holds, List.forall_mem_cons.mpr ⟨jf_c_mX7_init, List.forall_mem_cons.mpr ⟨jf_c_mX7_ofNumbers, List.forall_mem_cons.mpr ⟨jf_c_mX7_ofOrder, List.forall_mem_cons.mpr ⟨jf_c_mX7_ofPlay, List.forall_mem_cons.mpr ⟨jf_c_mX7_pop, List.forall_mem_cons.mpr ⟨jf_c_mX7_push, List.forall_mem_cons.mpr ⟨jf_c_mX7_reckon, fun _ h => absurd h List.not_mem_nil⟩⟩⟩⟩⟩⟩⟩⟩
def jm_ml8 : List jm_M := [mX8_beginningOf, mX8_init, mX8_letter, mX8_put, mX8_putAll, mX8_putLater, mX8_putName, mX8_putWhatComes, mX8_write]
set_option maxRecDepth 100000 in
theorem jf_mw8 : ∀ w ∈ jm_ml8.flatMap jm_mwd, w ∈ jm_ws := jm_at_pl [1286, 1287, 142, 286, 142, 1144, 1145, 142, 1118, 38, 142, 1127, 40, 142, 1122, 39, 142, 1134, 41, 142, 1141, 42, 142, 1112, 1113, 142] (by decide +kernel) (by decide +kernel)
set_option maxRecDepth 100000 in
theorem jf_mo8 : ∀ y ∈ jm_ml8, jm_mok y = true := by decide +kernel
theorem jf_c_mX8_beginningOf : jm_cw mX8_beginningOf ∈ jm_ws := jm_wsin (jt_5 (List.mem_of_getElem? (i := 191) rfl)) rfl
theorem jf_c_mX8_init : jm_cw mX8_init ∈ jm_ws := jm_wsin (jt_1 (List.mem_of_getElem? (i := 150) rfl)) rfl
theorem jf_c_mX8_letter : jm_cw mX8_letter ∈ jm_ws := jm_wsin (jt_5 (List.mem_of_getElem? (i := 49) rfl)) rfl
theorem jf_c_mX8_put : jm_cw mX8_put ∈ jm_ws := jm_wsin (jt_5 (List.mem_of_getElem? (i := 22) rfl)) rfl
theorem jf_c_mX8_putAll : jm_cw mX8_putAll ∈ jm_ws := jm_wsin (jt_5 (List.mem_of_getElem? (i := 31) rfl)) rfl
theorem jf_c_mX8_putLater : jm_cw mX8_putLater ∈ jm_ws := jm_wsin (jt_5 (List.mem_of_getElem? (i := 26) rfl)) rfl
theorem jf_c_mX8_putName : jm_cw mX8_putName ∈ jm_ws := jm_wsin (jt_5 (List.mem_of_getElem? (i := 38) rfl)) rfl
theorem jf_c_mX8_putWhatComes : jm_cw mX8_putWhatComes ∈ jm_ws := jm_wsin (jt_5 (List.mem_of_getElem? (i := 45) rfl)) rfl
theorem jf_c_mX8_write : jm_cw mX8_write ∈ jm_ws := jm_wsin (jt_5 (List.mem_of_getElem? (i := 17) rfl)) rfl
set_option maxRecDepth 100000 in
theorem jf_mc8 : ∀ y ∈ jm_ml8, jm_cw y ∈ jm_ws := List.forall_mem_cons.mpr ⟨jf_c_mX8_beginningOf, List.forall_mem_cons.mpr ⟨jf_c_mX8_init, List.forall_mem_cons.mpr ⟨jf_c_mX8_letter, List.forall_mem_cons.mpr ⟨jf_c_mX8_put, List.forall_mem_cons.mpr ⟨jf_c_mX8_putAll, List.forall_mem_cons.mpr ⟨jf_c_mX8_putLater, List.forall_mem_cons.mpr ⟨jf_c_mX8_putName, List.forall_mem_cons.mpr ⟨jf_c_mX8_putWhatComes, List.forall_mem_cons.mpr ⟨jf_c_mX8_write, fun _ h => absurd h List.not_mem_nil⟩⟩⟩⟩⟩⟩⟩⟩⟩
def jm_ml9 : List jm_M := [mX9_add, mX9_behindBlanks, mX9_byteAt, mX9_init, mX9_isDigit, mX9_isLetter, mX9_kindAt, mX9_kindOf, mX9_mark, mX9_markAt, mX9_placeAt, mX9_read, mX9_readNumber, mX9_readSymbol, mX9_readToken, mX9_readWord, mX9_valueAt, mX9_wordAt]
set_option maxRecDepth 100000 in
theorem jf_mw9 : ∀ w ∈ jm_ml9.flatMap jm_mwd, w ∈ jm_ws := jm_at_pl [603, 2, 143, 595, 0, 143, 599, 1, 143, 311, 143, 617, 143, 610, 143, 704, 705, 143, 621, 5, 143, 724, 725, 143, 829, 830, 143, 902, 903, 143, 590, 591, 143, 625, 6, 143, 629, 7, 143, 607, 3, 143, 614, 4, 143, 764, 765, 143, 781, 782, 143] (by decide +kernel) (by decide +kernel)
set_option maxRecDepth 100000 in
theorem jf_mo9 : ∀ y ∈ jm_ml9, jm_mok y = true := by decide +kernel
theorem jf_c_mX9_add : jm_cw mX9_add ∈ jm_ws := jm_wsin (jt_2 (List.mem_of_getElem? (i := 227) rfl)) rfl
theorem jf_c_mX9_behindBlanks : jm_cw mX9_behindBlanks ∈ jm_ws := jm_wsin (jt_2 (List.mem_of_getElem? (i := 219) rfl)) rfl
theorem jf_c_mX9_byteAt : jm_cw mX9_byteAt ∈ jm_ws := jm_wsin (jt_2 (List.mem_of_getElem? (i := 223) rfl)) rfl
theorem jf_c_mX9_init : jm_cw mX9_init ∈ jm_ws := jm_wsin (jt_1 (List.mem_of_getElem? (i := 175) rfl)) rfl
theorem jf_c_mX9_isDigit : jm_cw mX9_isDigit ∈ jm_ws := jm_wsin (jt_3 (List.mem_of_getElem? (i := 1) rfl)) rfl
theorem jf_c_mX9_isLetter : jm_cw mX9_isLetter ∈ jm_ws := jm_wsin (jt_2 (List.mem_of_getElem? (i := 234) rfl)) rfl
theorem jf_c_mX9_kindAt : jm_cw mX9_kindAt ∈ jm_ws := jm_wsin (jt_3 (List.mem_of_getElem? (i := 89) rfl)) rfl
theorem jf_c_mX9_kindOf : jm_cw mX9_kindOf ∈ jm_ws := jm_wsin (jt_3 (List.mem_of_getElem? (i := 5) rfl)) rfl
theorem jf_c_mX9_mark : jm_cw mX9_mark ∈ jm_ws := jm_wsin (jt_3 (List.mem_of_getElem? (i := 109) rfl)) rfl
theorem jf_c_mX9_markAt : jm_cw mX9_markAt ∈ jm_ws := jm_wsin (jt_3 (List.mem_of_getElem? (i := 214) rfl)) rfl
theorem jf_c_mX9_placeAt : jm_cw mX9_placeAt ∈ jm_ws := jm_wsin (jt_4 (List.mem_of_getElem? (i := 47) rfl)) rfl
theorem jf_c_mX9_read : jm_cw mX9_read ∈ jm_ws := jm_wsin (jt_2 (List.mem_of_getElem? (i := 215) rfl)) rfl
theorem jf_c_mX9_readNumber : jm_cw mX9_readNumber ∈ jm_ws := jm_wsin (jt_3 (List.mem_of_getElem? (i := 9) rfl)) rfl
theorem jf_c_mX9_readSymbol : jm_cw mX9_readSymbol ∈ jm_ws := jm_wsin (jt_3 (List.mem_of_getElem? (i := 13) rfl)) rfl
theorem jf_c_mX9_readToken : jm_cw mX9_readToken ∈ jm_ws := jm_wsin (jt_2 (List.mem_of_getElem? (i := 231) rfl)) rfl
theorem jf_c_mX9_readWord : jm_cw mX9_readWord ∈ jm_ws := jm_wsin (jt_2 (List.mem_of_getElem? (i := 238) rfl)) rfl
theorem jf_c_mX9_valueAt : jm_cw mX9_valueAt ∈ jm_ws := jm_wsin (jt_3 (List.mem_of_getElem? (i := 149) rfl)) rfl
theorem jf_c_mX9_wordAt : jm_cw mX9_wordAt ∈ jm_ws := jm_wsin (jt_3 (List.mem_of_getElem? (i := 166) rfl)) rfl
set_option maxRecDepth 100000 in
theorem jf_mc9 : ∀ y ∈ jm_ml9, jm_cw y ∈ jm_ws := List.forall_mem_cons.mpr ⟨jf_c_mX9_add, List.forall_mem_cons.mpr ⟨jf_c_mX9_behindBlanks, List.forall_mem_cons.mpr ⟨jf_c_mX9_byteAt, List.forall_mem_cons.mpr ⟨jf_c_mX9_init, List.forall_mem_cons.mpr ⟨jf_c_mX9_isDigit, List.forall_mem_cons.mpr ⟨jf_c_mX9_isLetter, List.forall_mem_cons.mpr ⟨jf_c_mX9_kindAt, List.forall_mem_cons.mpr ⟨jf_c_mX9_kindOf, List.forall_mem_cons.mpr ⟨jf_c_mX9_mark, List.forall_mem_cons.mpr ⟨jf_c_mX9_markAt, List.forall_mem_cons.mpr ⟨jf_c_mX9_placeAt, List.forall_mem_cons.mpr ⟨jf_c_mX9_read, List.forall_mem_cons.mpr ⟨jf_c_mX9_readNumber, List.forall_mem_cons.mpr ⟨jf_c_mX9_readSymbol, List.forall_mem_cons.mpr ⟨jf_c_mX9_readToken, List.forall_mem_cons.mpr ⟨jf_c_mX9_readWord, List.forall_mem_cons.mpr ⟨jf_c_mX9_valueAt, List.forall_mem_cons.mpr ⟨jf_c_mX9_wordAt, fun _ h => absurd h List.not_mem_nil⟩⟩⟩⟩⟩⟩⟩⟩⟩⟩⟩⟩⟩⟩⟩⟩⟩⟩
def jm_ml10 : List jm_M := [mX10_longer, mX10_signAt, mX10_zName]
set_option maxRecDepth 100000 in
theorem jf_mw10 : ∀ w ∈ jm_ml10.flatMap jm_mwd, w ∈ jm_ws := jm_at_pl [364, 148, 1137, 148, 403, 148] (by decide +kernel) (by decide +kernel)
set_option maxRecDepth 100000 in
theorem jf_mo10 : ∀ y ∈ jm_ml10, jm_mok y = true := by decide +kernel
theorem jf_c_mX10_longer : jm_cw mX10_longer ∈ jm_ws := jm_wsin (jt_1 (List.mem_of_getElem? (i := 228) rfl)) rfl
theorem jf_c_mX10_signAt : jm_cw mX10_signAt ∈ jm_ws := jm_wsin (jt_5 (List.mem_of_getElem? (i := 41) rfl)) rfl
theorem jf_c_mX10_zName : jm_cw mX10_zName ∈ jm_ws := jm_wsin (jt_2 (List.mem_of_getElem? (i := 27) rfl)) rfl
set_option maxRecDepth 100000 in
theorem jf_mc10 : ∀ y ∈ jm_ml10, jm_cw y ∈ jm_ws := List.forall_mem_cons.mpr ⟨jf_c_mX10_longer, List.forall_mem_cons.mpr ⟨jf_c_mX10_signAt, List.forall_mem_cons.mpr ⟨jf_c_mX10_zName, fun _ h => absurd h List.not_mem_nil⟩⟩⟩
def jm_ml11 : List jm_M := [mX11_actors, mX11_appendBytes, mX11_bestGift, mX11_canStep, mX11_checkEvenings, mX11_checkPlay, mX11_digest, mX11_doStep, mX11_endSame, mX11_errorAt, mX11_evenings, mX11_eveningsUntilFinished, mX11_feed, mX11_give, mX11_init, mX11_isAsTold, mX11_isFinished, mX11_isSame, mX11_letterAt, mX11_masksIn, mX11_meanSize, mX11_mostMasksAround, mX11_nextSceneAt, mX11_notes, mX11_notesCarriedOut, mX11_partOf, mX11_passEvenings, mX11_plays, mX11_renamedByStep, mX11_renew, mX11_scenesIn, mX11_sizeAfterEvenings, mX11_sizeAfterSteps, mX11_sizeOf, mX11_standsIn, mX11_stepsDone, mX11_stepsToFinish, mX11_stepsWithGift, mX11_tapeBytes, mX11_teach, mX11_textLength, mX11_trim, mX11_withPlay]
set_option maxRecDepth 100000 in
theorem jf_mw11 : ∀ w ∈ jm_ml11.flatMap jm_mwd, w ∈ jm_ws := jm_at_pl [928, 929, 138, 1190, 43, 138, 1531, 1532, 138, 1249, 1250, 138, 1421, 54, 138, 985, 34, 138, 960, 961, 138, 1372, 1373, 138, 1506, 1507, 138, 924, 925, 138, 940, 941, 138, 1524, 1525, 138, 1169, 1170, 138, 1386, 1387, 138, 169, 138, 1095, 1096, 138, 1087, 1088, 138, 1361, 1362, 138, 1273, 1274, 138, 1055, 1056, 138, 952, 953, 138, 1067, 1068, 138, 1281, 1282, 138, 936, 937, 138, 944, 945, 138, 981, 33, 138, 1416, 1417, 138, 932, 933, 138, 1293, 1294, 138, 1409, 1410, 138, 1063, 1064, 138, 1513, 1514, 138, 1494, 1495, 138, 976, 977, 138, 1148, 1149, 138, 1079, 1080, 138, 1481, 1482, 138, 1536, 60, 138, 948, 949, 138, 586, 587, 138, 1108, 1109, 138, 1197, 1198, 138, 973, 32, 138] (by decide +kernel) (by decide +kernel)
set_option maxRecDepth 100000 in
theorem jf_mo11 : ∀ y ∈ jm_ml11, jm_mok y = true := by decide +kernel
theorem jf_c_mX11_actors : jm_cw mX11_actors ∈ jm_ws := jm_wsin (jt_4 (List.mem_of_getElem? (i := 73) rfl)) rfl
theorem jf_c_mX11_appendBytes : jm_cw mX11_appendBytes ∈ jm_ws := jm_wsin (jt_5 (List.mem_of_getElem? (i := 94) rfl)) rfl
theorem jf_c_mX11_bestGift : jm_cw mX11_bestGift ∈ jm_ws := jm_wsin (jt_6 (List.mem_of_getElem? (i := 196) rfl)) rfl
theorem jf_c_mX11_canStep : jm_cw mX11_canStep ∈ jm_ws := jm_wsin (jt_5 (List.mem_of_getElem? (i := 154) rfl)) rfl
theorem jf_c_mX11_checkEvenings : jm_cw mX11_checkEvenings ∈ jm_ws := jm_wsin (jt_6 (List.mem_of_getElem? (i := 85) rfl)) rfl
theorem jf_c_mX11_checkPlay : jm_cw mX11_checkPlay ∈ jm_ws := jm_wsin (jt_4 (List.mem_of_getElem? (i := 129) rfl)) rfl
theorem jf_c_mX11_digest : jm_cw mX11_digest ∈ jm_ws := jm_wsin (jt_4 (List.mem_of_getElem? (i := 105) rfl)) rfl
theorem jf_c_mX11_doStep : jm_cw mX11_doStep ∈ jm_ws := jm_wsin (jt_6 (List.mem_of_getElem? (i := 37) rfl)) rfl
theorem jf_c_mX11_endSame : jm_cw mX11_endSame ∈ jm_ws := jm_wsin (jt_6 (List.mem_of_getElem? (i := 171) rfl)) rfl
theorem jf_c_mX11_errorAt : jm_cw mX11_errorAt ∈ jm_ws := jm_wsin (jt_4 (List.mem_of_getElem? (i := 69) rfl)) rfl
theorem jf_c_mX11_evenings : jm_cw mX11_evenings ∈ jm_ws := jm_wsin (jt_4 (List.mem_of_getElem? (i := 85) rfl)) rfl
theorem jf_c_mX11_eveningsUntilFinished : jm_cw mX11_eveningsUntilFinished ∈ jm_ws := jm_wsin (jt_6 (List.mem_of_getElem? (i := 189) rfl)) rfl
theorem jf_c_mX11_feed : jm_cw mX11_feed ∈ jm_ws := jm_wsin (jt_5 (List.mem_of_getElem? (i := 74) rfl)) rfl
theorem jf_c_mX11_give : jm_cw mX11_give ∈ jm_ws := jm_wsin (jt_6 (List.mem_of_getElem? (i := 51) rfl)) rfl
theorem jf_c_mX11_init : jm_cw mX11_init ∈ jm_ws := jm_wsin (jt_1 (List.mem_of_getElem? (i := 33) rfl)) rfl
theorem jf_c_mX11_isAsTold : jm_cw mX11_isAsTold ∈ jm_ws := jm_wsin (jt_5 (List.mem_of_getElem? (i := 0) rfl)) rfl
theorem jf_c_mX11_isFinished : jm_cw mX11_isFinished ∈ jm_ws := jm_wsin (jt_4 (List.mem_of_getElem? (i := 232) rfl)) rfl
theorem jf_c_mX11_isSame : jm_cw mX11_isSame ∈ jm_ws := jm_wsin (jt_6 (List.mem_of_getElem? (i := 26) rfl)) rfl
theorem jf_c_mX11_letterAt : jm_cw mX11_letterAt ∈ jm_ws := jm_wsin (jt_5 (List.mem_of_getElem? (i := 178) rfl)) rfl
theorem jf_c_mX11_masksIn : jm_cw mX11_masksIn ∈ jm_ws := jm_wsin (jt_4 (List.mem_of_getElem? (i := 200) rfl)) rfl
theorem jf_c_mX11_meanSize : jm_cw mX11_meanSize ∈ jm_ws := jm_wsin (jt_4 (List.mem_of_getElem? (i := 97) rfl)) rfl
theorem jf_c_mX11_mostMasksAround : jm_cw mX11_mostMasksAround ∈ jm_ws := jm_wsin (jt_4 (List.mem_of_getElem? (i := 212) rfl)) rfl
theorem jf_c_mX11_nextSceneAt : jm_cw mX11_nextSceneAt ∈ jm_ws := jm_wsin (jt_5 (List.mem_of_getElem? (i := 186) rfl)) rfl
theorem jf_c_mX11_notes : jm_cw mX11_notes ∈ jm_ws := jm_wsin (jt_4 (List.mem_of_getElem? (i := 81) rfl)) rfl
theorem jf_c_mX11_notesCarriedOut : jm_cw mX11_notesCarriedOut ∈ jm_ws := jm_wsin (jt_4 (List.mem_of_getElem? (i := 89) rfl)) rfl
theorem jf_c_mX11_partOf : jm_cw mX11_partOf ∈ jm_ws := jm_wsin (jt_4 (List.mem_of_getElem? (i := 125) rfl)) rfl
theorem jf_c_mX11_passEvenings : jm_cw mX11_passEvenings ∈ jm_ws := jm_wsin (jt_6 (List.mem_of_getElem? (i := 81) rfl)) rfl
theorem jf_c_mX11_plays : jm_cw mX11_plays ∈ jm_ws := jm_wsin (jt_4 (List.mem_of_getElem? (i := 77) rfl)) rfl
theorem jf_c_mX11_renamedByStep : jm_cw mX11_renamedByStep ∈ jm_ws := jm_wsin (jt_5 (List.mem_of_getElem? (i := 198) rfl)) rfl
theorem jf_c_mX11_renew : jm_cw mX11_renew ∈ jm_ws := jm_wsin (jt_6 (List.mem_of_getElem? (i := 74) rfl)) rfl
theorem jf_c_mX11_scenesIn : jm_cw mX11_scenesIn ∈ jm_ws := jm_wsin (jt_4 (List.mem_of_getElem? (i := 208) rfl)) rfl
theorem jf_c_mX11_sizeAfterEvenings : jm_cw mX11_sizeAfterEvenings ∈ jm_ws := jm_wsin (jt_6 (List.mem_of_getElem? (i := 178) rfl)) rfl
theorem jf_c_mX11_sizeAfterSteps : jm_cw mX11_sizeAfterSteps ∈ jm_ws := jm_wsin (jt_6 (List.mem_of_getElem? (i := 159) rfl)) rfl
theorem jf_c_mX11_sizeOf : jm_cw mX11_sizeOf ∈ jm_ws := jm_wsin (jt_4 (List.mem_of_getElem? (i := 121) rfl)) rfl
theorem jf_c_mX11_standsIn : jm_cw mX11_standsIn ∈ jm_ws := jm_wsin (jt_5 (List.mem_of_getElem? (i := 53) rfl)) rfl
theorem jf_c_mX11_stepsDone : jm_cw mX11_stepsDone ∈ jm_ws := jm_wsin (jt_4 (List.mem_of_getElem? (i := 224) rfl)) rfl
theorem jf_c_mX11_stepsToFinish : jm_cw mX11_stepsToFinish ∈ jm_ws := jm_wsin (jt_6 (List.mem_of_getElem? (i := 146) rfl)) rfl
theorem jf_c_mX11_stepsWithGift : jm_cw mX11_stepsWithGift ∈ jm_ws := jm_wsin (jt_6 (List.mem_of_getElem? (i := 200) rfl)) rfl
theorem jf_c_mX11_tapeBytes : jm_cw mX11_tapeBytes ∈ jm_ws := jm_wsin (jt_4 (List.mem_of_getElem? (i := 93) rfl)) rfl
theorem jf_c_mX11_teach : jm_cw mX11_teach ∈ jm_ws := jm_wsin (jt_2 (List.mem_of_getElem? (i := 211) rfl)) rfl
theorem jf_c_mX11_textLength : jm_cw mX11_textLength ∈ jm_ws := jm_wsin (jt_5 (List.mem_of_getElem? (i := 13) rfl)) rfl
theorem jf_c_mX11_trim : jm_cw mX11_trim ∈ jm_ws := jm_wsin (jt_5 (List.mem_of_getElem? (i := 102) rfl)) rfl
theorem jf_c_mX11_withPlay : jm_cw mX11_withPlay ∈ jm_ws := jm_wsin (jt_4 (List.mem_of_getElem? (i := 117) rfl)) rfl
set_option maxRecDepth 100000 in
theorem jf_mc11 : ∀ y ∈ jm_ml11, jm_cw y ∈ jm_ws := List.forall_mem_cons.mpr ⟨jf_c_mX11_actors, List.forall_mem_cons.mpr ⟨jf_c_mX11_appendBytes, List.forall_mem_cons.mpr ⟨jf_c_mX11_bestGift, List.forall_mem_cons.mpr ⟨jf_c_mX11_canStep, List.forall_mem_cons.mpr ⟨jf_c_mX11_checkEvenings, List.forall_mem_cons.mpr ⟨jf_c_mX11_checkPlay, List.forall_mem_cons.mpr ⟨jf_c_mX11_digest, List.forall_mem_cons.mpr ⟨jf_c_mX11_doStep, List.forall_mem_cons.mpr ⟨jf_c_mX11_endSame, List.forall_mem_cons.mpr ⟨jf_c_mX11_errorAt, List.forall_mem_cons.mpr ⟨jf_c_mX11_evenings, List.forall_mem_cons.mpr ⟨jf_c_mX11_eveningsUntilFinished, List.forall_mem_cons.mpr ⟨jf_c_mX11_feed, List.forall_mem_cons.mpr ⟨jf_c_mX11_give, List.forall_mem_cons.mpr ⟨jf_c_mX11_init, List.forall_mem_cons.mpr ⟨jf_c_mX11_isAsTold, List.forall_mem_cons.mpr ⟨jf_c_mX11_isFinished, List.forall_mem_cons.mpr ⟨jf_c_mX11_isSame, List.forall_mem_cons.mpr ⟨jf_c_mX11_letterAt, List.forall_mem_cons.mpr ⟨jf_c_mX11_masksIn, List.forall_mem_cons.mpr ⟨jf_c_mX11_meanSize, List.forall_mem_cons.mpr ⟨jf_c_mX11_mostMasksAround, List.forall_mem_cons.mpr ⟨jf_c_mX11_nextSceneAt, List.forall_mem_cons.mpr ⟨jf_c_mX11_notes, List.forall_mem_cons.mpr ⟨jf_c_mX11_notesCarriedOut, List.forall_mem_cons.mpr ⟨jf_c_mX11_partOf, List.forall_mem_cons.mpr ⟨jf_c_mX11_passEvenings, List.forall_mem_cons.mpr ⟨jf_c_mX11_plays, List.forall_mem_cons.mpr ⟨jf_c_mX11_renamedByStep, List.forall_mem_cons.mpr ⟨jf_c_mX11_renew, List.forall_mem_cons.mpr ⟨jf_c_mX11_scenesIn, List.forall_mem_cons.mpr ⟨jf_c_mX11_sizeAfterEvenings, List.forall_mem_cons.mpr ⟨jf_c_mX11_sizeAfterSteps, List.forall_mem_cons.mpr ⟨jf_c_mX11_sizeOf, List.forall_mem_cons.mpr ⟨jf_c_mX11_standsIn, List.forall_mem_cons.mpr ⟨jf_c_mX11_stepsDone, List.forall_mem_cons.mpr ⟨jf_c_mX11_stepsToFinish, List.forall_mem_cons.mpr ⟨jf_c_mX11_stepsWithGift, List.forall_mem_cons.mpr ⟨jf_c_mX11_tapeBytes, List.forall_mem_cons.mpr ⟨jf_c_mX11_teach, List.forall_mem_cons.mpr ⟨jf_c_mX11_textLength, List.forall_mem_cons.mpr ⟨jf_c_mX11_trim, List.forall_mem_cons.mpr ⟨jf_c_mX11_withPlay, fun _ h => absurd h List.not_mem_nil⟩⟩⟩⟩⟩⟩⟩⟩⟩⟩⟩⟩⟩⟩⟩⟩⟩⟩⟩⟩⟩⟩⟩⟩⟩⟩⟩⟩⟩⟩⟩⟩⟩⟩⟩⟩⟩⟩⟩⟩⟩⟩⟩
def jm_ml12 : List jm_M := [mX12_init]
set_option maxRecDepth 100000 in
theorem jf_mw12 : ∀ w ∈ jm_ml12.flatMap jm_mwd, w ∈ jm_ws := jm_at_pl [1548, 155] (by decide +kernel) (by decide +kernel)
set_option maxRecDepth 100000 in
theorem jf_mo12 : ∀ y ∈ jm_ml12, jm_mok y = true := by decide +kernel
theorem jf_c_mX12_init : jm_cw mX12_init ∈ jm_ws := jm_wsin (jt_6 (List.mem_of_getElem? (i := 212) rfl)) rfl
set_option maxRecDepth 100000 in
theorem jf_mc12 : ∀ y ∈ jm_ml12, jm_cw y ∈ jm_ws := List.forall_mem_cons.mpr ⟨jf_c_mX12_init, fun _ h => absurd h List.not_mem_nil⟩
def jm_ml13 : List jm_M := [mX13_actors, mX13_around, mX13_asTold, mX13_ask, mX13_bestGift, mX13_bringBack, mX13_byteOf, mX13_canGive, mX13_canStep, mX13_canStepNow, mX13_carryOut, mX13_closeOn, mX13_closes, mX13_cutIntoTokens, mX13_deeper, mX13_digest, mX13_digestPlay, mX13_doStep, mX13_eat, mX13_end, mX13_endOf, mX13_endSame, mX13_endsSame, mX13_errorAt, mX13_errorOf, mX13_evening, mX13_evenings, mX13_eveningsLeft, mX13_eveningsUntilFinished, mX13_feed, mX13_find, mX13_finished, mX13_gift, mX13_give, mX13_hasTarget, mX13_holds, mX13_init, mX13_isAlike, mX13_isAsTold, mX13_isAsked, mX13_isBook, mX13_isBoth, mX13_isCompare, mX13_isDigit, mX13_isFinished, mX13_isIn, mX13_isLine, mX13_isMaskPart, mX13_isNameIn, mX13_isNot, mX13_isNote, mX13_isOfTwo, mX13_isOpenIn, mX13_isOther, mX13_isPart, mX13_isPlay, mX13_isProduct, mX13_isSame, mX13_isScene, mX13_isSingle, mX13_isSmall, mX13_isSum, mX13_isTest, mX13_isTold, mX13_isValue, mX13_isWorn, mX13_keep, mX13_kindOf, mX13_layOut, mX13_letterAt, mX13_lettersOf, mX13_markTargets, mX13_masksIn, mX13_masksOf, mX13_meanSize, mX13_mostMasksAround, mX13_name, mX13_nameOf, mX13_nextScene, mX13_nextSceneAt, mX13_no, mX13_notes, mX13_notesCarriedOut, mX13_numberAt, mX13_ok, mX13_one, mX13_order, mX13_owner, mX13_passEvenings, mX13_playFor, mX13_plays, mX13_putDown, mX13_read, mX13_reckon, mX13_rename, mX13_renameAll, mX13_renamedByStep, mX13_renew, mX13_same, mX13_scenesIn, mX13_scenesOf, mX13_setAside, mX13_settle, mX13_sizeAfterEvenings, mX13_sizeAfterSteps, mX13_sizeBehind, mX13_sizeOf, mX13_sizeOfName, mX13_stands, mX13_standsIn, mX13_stepOn, mX13_stepWork, mX13_stepsDone, mX13_stepsLeft, mX13_stepsToFinish, mX13_takeOff, mX13_takeUp, mX13_takeUpGift, mX13_takeUpTold, mX13_tapeBytes, mX13_teach, mX13_tell, mX13_textLength, mX13_textOf, mX13_thrown, mX13_trim, mX13_wordAt, mX13_write, mX13_writeName, mX13_writePart, mX13_zName]
set_option maxRecDepth 100000 in
theorem jf_mw13 : ∀ w ∈ jm_ml13.flatMap jm_mwd, w ∈ jm_ws := jm_at_pl [1921, 1922, 154, 1974, 97, 154, 2125, 120, 154, 2172, 127, 154, 2229, 2230, 154, 2218, 133, 154, 1763, 64, 154, 2141, 122, 154, 2016, 2017, 154, 2021, 103, 154, 2161, 125, 154, 2060, 110, 154, 1826, 76, 154, 1759, 63, 154, 1822, 75, 154, 2241, 2242, 154, 2248, 136, 154, 2128, 2129, 154, 1810, 72, 154, 1981, 154, 1767, 65, 154, 2201, 2202, 154, 2206, 131, 154, 1913, 1914, 154, 1875, 88, 154, 2157, 124, 154, 1933, 1934, 154, 2226, 134, 154, 2221, 2222, 154, 1735, 1736, 154, 1881, 154, 2005, 100, 154, 2234, 135, 154, 2136, 2137, 154, 2081, 113, 154, 2165, 126, 154, 1542, 154, 2114, 119, 154, 2120, 2121, 154, 2168, 154, 1798, 69, 154, 1843, 80, 154, 1855, 83, 154, 1773, 154, 2000, 2001, 154, 1747, 154, 1802, 70, 154, 1818, 74, 154, 2098, 116, 154, 2013, 102, 154, 1834, 78, 154, 1871, 87, 154, 2085, 114, 154, 2182, 128, 154, 1814, 73, 154, 1950, 94, 154, 1863, 85, 154, 2101, 2102, 154, 1830, 77, 154, 1847, 81, 154, 1770, 154, 1859, 84, 154, 1839, 79, 154, 1878, 154, 1867, 86, 154, 1884, 154, 2214, 132, 154, 1777, 66, 154, 1897, 154, 2043, 2044, 154, 2040, 154, 2029, 105, 154, 1953, 1954, 154, 1958, 95, 154, 2237, 2238, 154, 1969, 1970, 154, 1806, 71, 154, 1791, 154, 2009, 101, 154, 2064, 2065, 154, 1740, 61, 154, 1929, 1930, 154, 1937, 1938, 154, 1781, 67, 154, 1918, 93, 154, 2178, 154, 1851, 82, 154, 1993, 154, 2152, 2153, 154, 1894, 154, 1925, 1926, 154, 1910, 92, 154, 1755, 62, 154, 2175, 154, 2089, 115, 154, 2077, 112, 154, 2068, 2069, 154, 2148, 2149, 154, 2106, 117, 154, 1961, 1962, 154, 1966, 96, 154, 2110, 118, 154, 1902, 90, 154, 2209, 2210, 154, 2197, 2198, 154, 2025, 104, 154, 1945, 1946, 154, 1891, 154, 1990, 99, 154, 1985, 1986, 154, 2194, 130, 154, 2133, 121, 154, 1996, 1997, 154, 2190, 129, 154, 2185, 2186, 154, 2073, 111, 154, 1978, 98, 154, 2145, 123, 154, 1906, 91, 154, 1941, 1942, 154, 1750, 1751, 154, 1888, 89, 154, 2032, 2033, 154, 2037, 106, 154, 1731, 1732, 154, 1743, 1744, 154, 1785, 68, 154, 2056, 109, 154, 2052, 108, 154, 2048, 107, 154, 2092, 154] (by decide +kernel) (by decide +kernel)
set_option maxRecDepth 100000 in
theorem jf_mo13 : ∀ y ∈ jm_ml13, jm_mok y = true := by decide +kernel
theorem jf_c_mX13_actors : jm_cw mX13_actors ∈ jm_ws := jm_wsin (jt_8 (List.mem_of_getElem? (i := 106) rfl)) rfl
theorem jf_c_mX13_around : jm_cw mX13_around ∈ jm_ws := jm_wsin (jt_8 (List.mem_of_getElem? (i := 158) rfl)) rfl
theorem jf_c_mX13_asTold : jm_cw mX13_asTold ∈ jm_ws := jm_wsin (jt_9 (List.mem_of_getElem? (i := 69) rfl)) rfl
theorem jf_c_mX13_ask : jm_cw mX13_ask ∈ jm_ws := jm_wsin (jt_9 (List.mem_of_getElem? (i := 116) rfl)) rfl
theorem jf_c_mX13_bestGift : jm_cw mX13_bestGift ∈ jm_ws := jm_wsin (jt_9 (List.mem_of_getElem? (i := 174) rfl)) rfl
theorem jf_c_mX13_bringBack : jm_cw mX13_bringBack ∈ jm_ws := jm_wsin (jt_9 (List.mem_of_getElem? (i := 162) rfl)) rfl
theorem jf_c_mX13_byteOf : jm_cw mX13_byteOf ∈ jm_ws := jm_wsin (jt_7 (List.mem_of_getElem? (i := 187) rfl)) rfl
theorem jf_c_mX13_canGive : jm_cw mX13_canGive ∈ jm_ws := jm_wsin (jt_9 (List.mem_of_getElem? (i := 85) rfl)) rfl
theorem jf_c_mX13_canStep : jm_cw mX13_canStep ∈ jm_ws := jm_wsin (jt_8 (List.mem_of_getElem? (i := 201) rfl)) rfl
theorem jf_c_mX13_canStepNow : jm_cw mX13_canStepNow ∈ jm_ws := jm_wsin (jt_8 (List.mem_of_getElem? (i := 205) rfl)) rfl
theorem jf_c_mX13_carryOut : jm_cw mX13_carryOut ∈ jm_ws := jm_wsin (jt_9 (List.mem_of_getElem? (i := 105) rfl)) rfl
theorem jf_c_mX13_closeOn : jm_cw mX13_closeOn ∈ jm_ws := jm_wsin (jt_9 (List.mem_of_getElem? (i := 4) rfl)) rfl
theorem jf_c_mX13_closes : jm_cw mX13_closes ∈ jm_ws := jm_wsin (jt_8 (List.mem_of_getElem? (i := 10) rfl)) rfl
theorem jf_c_mX13_cutIntoTokens : jm_cw mX13_cutIntoTokens ∈ jm_ws := jm_wsin (jt_7 (List.mem_of_getElem? (i := 183) rfl)) rfl
theorem jf_c_mX13_deeper : jm_cw mX13_deeper ∈ jm_ws := jm_wsin (jt_8 (List.mem_of_getElem? (i := 6) rfl)) rfl
theorem jf_c_mX13_digest : jm_cw mX13_digest ∈ jm_ws := jm_wsin (jt_9 (List.mem_of_getElem? (i := 186) rfl)) rfl
theorem jf_c_mX13_digestPlay : jm_cw mX13_digestPlay ∈ jm_ws := jm_wsin (jt_9 (List.mem_of_getElem? (i := 192) rfl)) rfl
theorem jf_c_mX13_doStep : jm_cw mX13_doStep ∈ jm_ws := jm_wsin (jt_9 (List.mem_of_getElem? (i := 73) rfl)) rfl
theorem jf_c_mX13_eat : jm_cw mX13_eat ∈ jm_ws := jm_wsin (jt_7 (List.mem_of_getElem? (i := 234) rfl)) rfl
theorem jf_c_mX13_end : jm_cw mX13_end ∈ jm_ws := jm_wsin (jt_8 (List.mem_of_getElem? (i := 165) rfl)) rfl
theorem jf_c_mX13_endOf : jm_cw mX13_endOf ∈ jm_ws := jm_wsin (jt_7 (List.mem_of_getElem? (i := 191) rfl)) rfl
theorem jf_c_mX13_endSame : jm_cw mX13_endSame ∈ jm_ws := jm_wsin (jt_9 (List.mem_of_getElem? (i := 146) rfl)) rfl
theorem jf_c_mX13_endsSame : jm_cw mX13_endsSame ∈ jm_ws := jm_wsin (jt_9 (List.mem_of_getElem? (i := 150) rfl)) rfl
theorem jf_c_mX13_errorAt : jm_cw mX13_errorAt ∈ jm_ws := jm_wsin (jt_8 (List.mem_of_getElem? (i := 98) rfl)) rfl
theorem jf_c_mX13_errorOf : jm_cw mX13_errorOf ∈ jm_ws := jm_wsin (jt_8 (List.mem_of_getElem? (i := 59) rfl)) rfl
theorem jf_c_mX13_evening : jm_cw mX13_evening ∈ jm_ws := jm_wsin (jt_9 (List.mem_of_getElem? (i := 101) rfl)) rfl
theorem jf_c_mX13_evenings : jm_cw mX13_evenings ∈ jm_ws := jm_wsin (jt_8 (List.mem_of_getElem? (i := 118) rfl)) rfl
theorem jf_c_mX13_eveningsLeft : jm_cw mX13_eveningsLeft ∈ jm_ws := jm_wsin (jt_9 (List.mem_of_getElem? (i := 170) rfl)) rfl
theorem jf_c_mX13_eveningsUntilFinished : jm_cw mX13_eveningsUntilFinished ∈ jm_ws := jm_wsin (jt_9 (List.mem_of_getElem? (i := 166) rfl)) rfl
theorem jf_c_mX13_feed : jm_cw mX13_feed ∈ jm_ws := jm_wsin (jt_7 (List.mem_of_getElem? (i := 160) rfl)) rfl
theorem jf_c_mX13_find : jm_cw mX13_find ∈ jm_ws := jm_wsin (jt_8 (List.mem_of_getElem? (i := 65) rfl)) rfl
theorem jf_c_mX13_finished : jm_cw mX13_finished ∈ jm_ws := jm_wsin (jt_8 (List.mem_of_getElem? (i := 189) rfl)) rfl
theorem jf_c_mX13_gift : jm_cw mX13_gift ∈ jm_ws := jm_wsin (jt_9 (List.mem_of_getElem? (i := 178) rfl)) rfl
theorem jf_c_mX13_give : jm_cw mX13_give ∈ jm_ws := jm_wsin (jt_9 (List.mem_of_getElem? (i := 81) rfl)) rfl
theorem jf_c_mX13_hasTarget : jm_cw mX13_hasTarget ∈ jm_ws := jm_wsin (jt_9 (List.mem_of_getElem? (i := 25) rfl)) rfl
theorem jf_c_mX13_holds : jm_cw mX13_holds ∈ jm_ws := jm_wsin (jt_9 (List.mem_of_getElem? (i := 109) rfl)) rfl
theorem jf_c_mX13_init : jm_cw mX13_init ∈ jm_ws := jm_wsin (jt_6 (List.mem_of_getElem? (i := 206) rfl)) rfl
theorem jf_c_mX13_isAlike : jm_cw mX13_isAlike ∈ jm_ws := jm_wsin (jt_9 (List.mem_of_getElem? (i := 58) rfl)) rfl
theorem jf_c_mX13_isAsTold : jm_cw mX13_isAsTold ∈ jm_ws := jm_wsin (jt_9 (List.mem_of_getElem? (i := 65) rfl)) rfl
theorem jf_c_mX13_isAsked : jm_cw mX13_isAsked ∈ jm_ws := jm_wsin (jt_9 (List.mem_of_getElem? (i := 112) rfl)) rfl
theorem jf_c_mX13_isBook : jm_cw mX13_isBook ∈ jm_ws := jm_wsin (jt_7 (List.mem_of_getElem? (i := 222) rfl)) rfl
theorem jf_c_mX13_isBoth : jm_cw mX13_isBoth ∈ jm_ws := jm_wsin (jt_8 (List.mem_of_getElem? (i := 27) rfl)) rfl
theorem jf_c_mX13_isCompare : jm_cw mX13_isCompare ∈ jm_ws := jm_wsin (jt_8 (List.mem_of_getElem? (i := 39) rfl)) rfl
theorem jf_c_mX13_isDigit : jm_cw mX13_isDigit ∈ jm_ws := jm_wsin (jt_7 (List.mem_of_getElem? (i := 197) rfl)) rfl
theorem jf_c_mX13_isFinished : jm_cw mX13_isFinished ∈ jm_ws := jm_wsin (jt_8 (List.mem_of_getElem? (i := 185) rfl)) rfl
theorem jf_c_mX13_isIn : jm_cw mX13_isIn ∈ jm_ws := jm_wsin (jt_7 (List.mem_of_getElem? (i := 171) rfl)) rfl
theorem jf_c_mX13_isLine : jm_cw mX13_isLine ∈ jm_ws := jm_wsin (jt_7 (List.mem_of_getElem? (i := 226) rfl)) rfl
theorem jf_c_mX13_isMaskPart : jm_cw mX13_isMaskPart ∈ jm_ws := jm_wsin (jt_8 (List.mem_of_getElem? (i := 2) rfl)) rfl
theorem jf_c_mX13_isNameIn : jm_cw mX13_isNameIn ∈ jm_ws := jm_wsin (jt_9 (List.mem_of_getElem? (i := 42) rfl)) rfl
theorem jf_c_mX13_isNot : jm_cw mX13_isNot ∈ jm_ws := jm_wsin (jt_8 (List.mem_of_getElem? (i := 197) rfl)) rfl
theorem jf_c_mX13_isNote : jm_cw mX13_isNote ∈ jm_ws := jm_wsin (jt_8 (List.mem_of_getElem? (i := 18) rfl)) rfl
theorem jf_c_mX13_isOfTwo : jm_cw mX13_isOfTwo ∈ jm_ws := jm_wsin (jt_8 (List.mem_of_getElem? (i := 55) rfl)) rfl
theorem jf_c_mX13_isOpenIn : jm_cw mX13_isOpenIn ∈ jm_ws := jm_wsin (jt_9 (List.mem_of_getElem? (i := 29) rfl)) rfl
theorem jf_c_mX13_isOther : jm_cw mX13_isOther ∈ jm_ws := jm_wsin (jt_9 (List.mem_of_getElem? (i := 126) rfl)) rfl
theorem jf_c_mX13_isPart : jm_cw mX13_isPart ∈ jm_ws := jm_wsin (jt_7 (List.mem_of_getElem? (i := 238) rfl)) rfl
theorem jf_c_mX13_isPlay : jm_cw mX13_isPlay ∈ jm_ws := jm_wsin (jt_8 (List.mem_of_getElem? (i := 134) rfl)) rfl
theorem jf_c_mX13_isProduct : jm_cw mX13_isProduct ∈ jm_ws := jm_wsin (jt_8 (List.mem_of_getElem? (i := 47) rfl)) rfl
theorem jf_c_mX13_isSame : jm_cw mX13_isSame ∈ jm_ws := jm_wsin (jt_9 (List.mem_of_getElem? (i := 46) rfl)) rfl
theorem jf_c_mX13_isScene : jm_cw mX13_isScene ∈ jm_ws := jm_wsin (jt_8 (List.mem_of_getElem? (i := 14) rfl)) rfl
theorem jf_c_mX13_isSingle : jm_cw mX13_isSingle ∈ jm_ws := jm_wsin (jt_8 (List.mem_of_getElem? (i := 31) rfl)) rfl
theorem jf_c_mX13_isSmall : jm_cw mX13_isSmall ∈ jm_ws := jm_wsin (jt_7 (List.mem_of_getElem? (i := 194) rfl)) rfl
theorem jf_c_mX13_isSum : jm_cw mX13_isSum ∈ jm_ws := jm_wsin (jt_8 (List.mem_of_getElem? (i := 43) rfl)) rfl
theorem jf_c_mX13_isTest : jm_cw mX13_isTest ∈ jm_ws := jm_wsin (jt_8 (List.mem_of_getElem? (i := 23) rfl)) rfl
theorem jf_c_mX13_isTold : jm_cw mX13_isTold ∈ jm_ws := jm_wsin (jt_8 (List.mem_of_getElem? (i := 62) rfl)) rfl
theorem jf_c_mX13_isValue : jm_cw mX13_isValue ∈ jm_ws := jm_wsin (jt_8 (List.mem_of_getElem? (i := 51) rfl)) rfl
theorem jf_c_mX13_isWorn : jm_cw mX13_isWorn ∈ jm_ws := jm_wsin (jt_8 (List.mem_of_getElem? (i := 68) rfl)) rfl
theorem jf_c_mX13_keep : jm_cw mX13_keep ∈ jm_ws := jm_wsin (jt_9 (List.mem_of_getElem? (i := 158) rfl)) rfl
theorem jf_c_mX13_kindOf : jm_cw mX13_kindOf ∈ jm_ws := jm_wsin (jt_7 (List.mem_of_getElem? (i := 201) rfl)) rfl
theorem jf_c_mX13_layOut : jm_cw mX13_layOut ∈ jm_ws := jm_wsin (jt_8 (List.mem_of_getElem? (i := 81) rfl)) rfl
theorem jf_c_mX13_letterAt : jm_cw mX13_letterAt ∈ jm_ws := jm_wsin (jt_8 (List.mem_of_getElem? (i := 228) rfl)) rfl
theorem jf_c_mX13_lettersOf : jm_cw mX13_lettersOf ∈ jm_ws := jm_wsin (jt_8 (List.mem_of_getElem? (i := 224) rfl)) rfl
theorem jf_c_mX13_markTargets : jm_cw mX13_markTargets ∈ jm_ws := jm_wsin (jt_8 (List.mem_of_getElem? (i := 213) rfl)) rfl
theorem jf_c_mX13_masksIn : jm_cw mX13_masksIn ∈ jm_ws := jm_wsin (jt_8 (List.mem_of_getElem? (i := 138) rfl)) rfl
theorem jf_c_mX13_masksOf : jm_cw mX13_masksOf ∈ jm_ws := jm_wsin (jt_8 (List.mem_of_getElem? (i := 142) rfl)) rfl
theorem jf_c_mX13_meanSize : jm_cw mX13_meanSize ∈ jm_ws := jm_wsin (jt_9 (List.mem_of_getElem? (i := 182) rfl)) rfl
theorem jf_c_mX13_mostMasksAround : jm_cw mX13_mostMasksAround ∈ jm_ws := jm_wsin (jt_8 (List.mem_of_getElem? (i := 154) rfl)) rfl
theorem jf_c_mX13_name : jm_cw mX13_name ∈ jm_ws := jm_wsin (jt_7 (List.mem_of_getElem? (i := 230) rfl)) rfl
theorem jf_c_mX13_nameOf : jm_cw mX13_nameOf ∈ jm_ws := jm_wsin (jt_7 (List.mem_of_getElem? (i := 215) rfl)) rfl
theorem jf_c_mX13_nextScene : jm_cw mX13_nextScene ∈ jm_ws := jm_wsin (jt_8 (List.mem_of_getElem? (i := 193) rfl)) rfl
theorem jf_c_mX13_nextSceneAt : jm_cw mX13_nextSceneAt ∈ jm_ws := jm_wsin (jt_9 (List.mem_of_getElem? (i := 9) rfl)) rfl
theorem jf_c_mX13_no : jm_cw mX13_no ∈ jm_ws := jm_wsin (jt_7 (List.mem_of_getElem? (i := 164) rfl)) rfl
theorem jf_c_mX13_notes : jm_cw mX13_notes ∈ jm_ws := jm_wsin (jt_8 (List.mem_of_getElem? (i := 114) rfl)) rfl
theorem jf_c_mX13_notesCarriedOut : jm_cw mX13_notesCarriedOut ∈ jm_ws := jm_wsin (jt_8 (List.mem_of_getElem? (i := 122) rfl)) rfl
theorem jf_c_mX13_numberAt : jm_cw mX13_numberAt ∈ jm_ws := jm_wsin (jt_7 (List.mem_of_getElem? (i := 205) rfl)) rfl
theorem jf_c_mX13_ok : jm_cw mX13_ok ∈ jm_ws := jm_wsin (jt_8 (List.mem_of_getElem? (i := 102) rfl)) rfl
theorem jf_c_mX13_one : jm_cw mX13_one ∈ jm_ws := jm_wsin (jt_9 (List.mem_of_getElem? (i := 122) rfl)) rfl
theorem jf_c_mX13_order : jm_cw mX13_order ∈ jm_ws := jm_wsin (jt_8 (List.mem_of_getElem? (i := 35) rfl)) rfl
theorem jf_c_mX13_owner : jm_cw mX13_owner ∈ jm_ws := jm_wsin (jt_8 (List.mem_of_getElem? (i := 177) rfl)) rfl
theorem jf_c_mX13_passEvenings : jm_cw mX13_passEvenings ∈ jm_ws := jm_wsin (jt_9 (List.mem_of_getElem? (i := 97) rfl)) rfl
theorem jf_c_mX13_playFor : jm_cw mX13_playFor ∈ jm_ws := jm_wsin (jt_8 (List.mem_of_getElem? (i := 78) rfl)) rfl
theorem jf_c_mX13_plays : jm_cw mX13_plays ∈ jm_ws := jm_wsin (jt_8 (List.mem_of_getElem? (i := 110) rfl)) rfl
theorem jf_c_mX13_putDown : jm_cw mX13_putDown ∈ jm_ws := jm_wsin (jt_8 (List.mem_of_getElem? (i := 94) rfl)) rfl
theorem jf_c_mX13_read : jm_cw mX13_read ∈ jm_ws := jm_wsin (jt_7 (List.mem_of_getElem? (i := 179) rfl)) rfl
theorem jf_c_mX13_reckon : jm_cw mX13_reckon ∈ jm_ws := jm_wsin (jt_9 (List.mem_of_getElem? (i := 119) rfl)) rfl
theorem jf_c_mX13_rename : jm_cw mX13_rename ∈ jm_ws := jm_wsin (jt_9 (List.mem_of_getElem? (i := 33) rfl)) rfl
theorem jf_c_mX13_renameAll : jm_cw mX13_renameAll ∈ jm_ws := jm_wsin (jt_9 (List.mem_of_getElem? (i := 21) rfl)) rfl
theorem jf_c_mX13_renamedByStep : jm_cw mX13_renamedByStep ∈ jm_ws := jm_wsin (jt_9 (List.mem_of_getElem? (i := 13) rfl)) rfl
theorem jf_c_mX13_renew : jm_cw mX13_renew ∈ jm_ws := jm_wsin (jt_9 (List.mem_of_getElem? (i := 93) rfl)) rfl
theorem jf_c_mX13_same : jm_cw mX13_same ∈ jm_ws := jm_wsin (jt_9 (List.mem_of_getElem? (i := 50) rfl)) rfl
theorem jf_c_mX13_scenesIn : jm_cw mX13_scenesIn ∈ jm_ws := jm_wsin (jt_8 (List.mem_of_getElem? (i := 146) rfl)) rfl
theorem jf_c_mX13_scenesOf : jm_cw mX13_scenesOf ∈ jm_ws := jm_wsin (jt_8 (List.mem_of_getElem? (i := 150) rfl)) rfl
theorem jf_c_mX13_setAside : jm_cw mX13_setAside ∈ jm_ws := jm_wsin (jt_9 (List.mem_of_getElem? (i := 54) rfl)) rfl
theorem jf_c_mX13_settle : jm_cw mX13_settle ∈ jm_ws := jm_wsin (jt_8 (List.mem_of_getElem? (i := 86) rfl)) rfl
theorem jf_c_mX13_sizeAfterEvenings : jm_cw mX13_sizeAfterEvenings ∈ jm_ws := jm_wsin (jt_9 (List.mem_of_getElem? (i := 154) rfl)) rfl
theorem jf_c_mX13_sizeAfterSteps : jm_cw mX13_sizeAfterSteps ∈ jm_ws := jm_wsin (jt_9 (List.mem_of_getElem? (i := 142) rfl)) rfl
theorem jf_c_mX13_sizeBehind : jm_cw mX13_sizeBehind ∈ jm_ws := jm_wsin (jt_8 (List.mem_of_getElem? (i := 209) rfl)) rfl
theorem jf_c_mX13_sizeOf : jm_cw mX13_sizeOf ∈ jm_ws := jm_wsin (jt_8 (List.mem_of_getElem? (i := 130) rfl)) rfl
theorem jf_c_mX13_sizeOfName : jm_cw mX13_sizeOfName ∈ jm_ws := jm_wsin (jt_8 (List.mem_of_getElem? (i := 75) rfl)) rfl
theorem jf_c_mX13_stands : jm_cw mX13_stands ∈ jm_ws := jm_wsin (jt_8 (List.mem_of_getElem? (i := 174) rfl)) rfl
theorem jf_c_mX13_standsIn : jm_cw mX13_standsIn ∈ jm_ws := jm_wsin (jt_8 (List.mem_of_getElem? (i := 170) rfl)) rfl
theorem jf_c_mX13_stepOn : jm_cw mX13_stepOn ∈ jm_ws := jm_wsin (jt_9 (List.mem_of_getElem? (i := 138) rfl)) rfl
theorem jf_c_mX13_stepWork : jm_cw mX13_stepWork ∈ jm_ws := jm_wsin (jt_9 (List.mem_of_getElem? (i := 77) rfl)) rfl
theorem jf_c_mX13_stepsDone : jm_cw mX13_stepsDone ∈ jm_ws := jm_wsin (jt_8 (List.mem_of_getElem? (i := 181) rfl)) rfl
theorem jf_c_mX13_stepsLeft : jm_cw mX13_stepsLeft ∈ jm_ws := jm_wsin (jt_9 (List.mem_of_getElem? (i := 134) rfl)) rfl
theorem jf_c_mX13_stepsToFinish : jm_cw mX13_stepsToFinish ∈ jm_ws := jm_wsin (jt_9 (List.mem_of_getElem? (i := 130) rfl)) rfl
theorem jf_c_mX13_takeOff : jm_cw mX13_takeOff ∈ jm_ws := jm_wsin (jt_9 (List.mem_of_getElem? (i := 17) rfl)) rfl
theorem jf_c_mX13_takeUp : jm_cw mX13_takeUp ∈ jm_ws := jm_wsin (jt_8 (List.mem_of_getElem? (i := 162) rfl)) rfl
theorem jf_c_mX13_takeUpGift : jm_cw mX13_takeUpGift ∈ jm_ws := jm_wsin (jt_9 (List.mem_of_getElem? (i := 89) rfl)) rfl
theorem jf_c_mX13_takeUpTold : jm_cw mX13_takeUpTold ∈ jm_ws := jm_wsin (jt_8 (List.mem_of_getElem? (i := 90) rfl)) rfl
theorem jf_c_mX13_tapeBytes : jm_cw mX13_tapeBytes ∈ jm_ws := jm_wsin (jt_8 (List.mem_of_getElem? (i := 126) rfl)) rfl
theorem jf_c_mX13_teach : jm_cw mX13_teach ∈ jm_ws := jm_wsin (jt_7 (List.mem_of_getElem? (i := 175) rfl)) rfl
theorem jf_c_mX13_tell : jm_cw mX13_tell ∈ jm_ws := jm_wsin (jt_8 (List.mem_of_getElem? (i := 72) rfl)) rfl
theorem jf_c_mX13_textLength : jm_cw mX13_textLength ∈ jm_ws := jm_wsin (jt_8 (List.mem_of_getElem? (i := 217) rfl)) rfl
theorem jf_c_mX13_textOf : jm_cw mX13_textOf ∈ jm_ws := jm_wsin (jt_8 (List.mem_of_getElem? (i := 221) rfl)) rfl
theorem jf_c_mX13_thrown : jm_cw mX13_thrown ∈ jm_ws := jm_wsin (jt_7 (List.mem_of_getElem? (i := 156) rfl)) rfl
theorem jf_c_mX13_trim : jm_cw mX13_trim ∈ jm_ws := jm_wsin (jt_7 (List.mem_of_getElem? (i := 168) rfl)) rfl
theorem jf_c_mX13_wordAt : jm_cw mX13_wordAt ∈ jm_ws := jm_wsin (jt_7 (List.mem_of_getElem? (i := 209) rfl)) rfl
theorem jf_c_mX13_write : jm_cw mX13_write ∈ jm_ws := jm_wsin (jt_9 (List.mem_of_getElem? (i := 0) rfl)) rfl
theorem jf_c_mX13_writeName : jm_cw mX13_writeName ∈ jm_ws := jm_wsin (jt_8 (List.mem_of_getElem? (i := 236) rfl)) rfl
theorem jf_c_mX13_writePart : jm_cw mX13_writePart ∈ jm_ws := jm_wsin (jt_8 (List.mem_of_getElem? (i := 232) rfl)) rfl
theorem jf_c_mX13_zName : jm_cw mX13_zName ∈ jm_ws := jm_wsin (jt_9 (List.mem_of_getElem? (i := 36) rfl)) rfl
set_option maxRecDepth 100000 in
theorem jf_mc13 : ∀ y ∈ jm_ml13, jm_cw y ∈ jm_ws := List.forall_mem_cons.mpr ⟨jf_c_mX13_actors, List.forall_mem_cons.mpr ⟨jf_c_mX13_around, List.forall_mem_cons.mpr ⟨jf_c_mX13_asTold, List.forall_mem_cons.mpr ⟨jf_c_mX13_ask, List.forall_mem_cons.mpr ⟨jf_c_mX13_bestGift, List.forall_mem_cons.mpr ⟨jf_c_mX13_bringBack, List.forall_mem_cons.mpr ⟨jf_c_mX13_byteOf, List.forall_mem_cons.mpr ⟨jf_c_mX13_canGive, List.forall_mem_cons.mpr ⟨jf_c_mX13_canStep, List.forall_mem_cons.mpr ⟨jf_c_mX13_canStepNow, List.forall_mem_cons.mpr ⟨jf_c_mX13_carryOut, List.forall_mem_cons.mpr ⟨jf_c_mX13_closeOn, List.forall_mem_cons.mpr ⟨jf_c_mX13_closes, List.forall_mem_cons.mpr ⟨jf_c_mX13_cutIntoTokens, List.forall_mem_cons.mpr ⟨jf_c_mX13_deeper, List.forall_mem_cons.mpr ⟨jf_c_mX13_digest, List.forall_mem_cons.mpr ⟨jf_c_mX13_digestPlay, List.forall_mem_cons.mpr ⟨jf_c_mX13_doStep, List.forall_mem_cons.mpr ⟨jf_c_mX13_eat, List.forall_mem_cons.mpr ⟨jf_c_mX13_end, List.forall_mem_cons.mpr ⟨jf_c_mX13_endOf, List.forall_mem_cons.mpr ⟨jf_c_mX13_endSame, List.forall_mem_cons.mpr ⟨jf_c_mX13_endsSame, List.forall_mem_cons.mpr ⟨jf_c_mX13_errorAt, List.forall_mem_cons.mpr ⟨jf_c_mX13_errorOf, List.forall_mem_cons.mpr ⟨jf_c_mX13_evening, List.forall_mem_cons.mpr ⟨jf_c_mX13_evenings, List.forall_mem_cons.mpr ⟨jf_c_mX13_eveningsLeft, List.forall_mem_cons.mpr ⟨jf_c_mX13_eveningsUntilFinished, List.forall_mem_cons.mpr ⟨jf_c_mX13_feed, List.forall_mem_cons.mpr ⟨jf_c_mX13_find, List.forall_mem_cons.mpr ⟨jf_c_mX13_finished, List.forall_mem_cons.mpr ⟨jf_c_mX13_gift, List.forall_mem_cons.mpr ⟨jf_c_mX13_give, List.forall_mem_cons.mpr ⟨jf_c_mX13_hasTarget, List.forall_mem_cons.mpr ⟨jf_c_mX13_holds, List.forall_mem_cons.mpr ⟨jf_c_mX13_init, List.forall_mem_cons.mpr ⟨jf_c_mX13_isAlike, List.forall_mem_cons.mpr ⟨jf_c_mX13_isAsTold, List.forall_mem_cons.mpr ⟨jf_c_mX13_isAsked, List.forall_mem_cons.mpr ⟨jf_c_mX13_isBook, List.forall_mem_cons.mpr ⟨jf_c_mX13_isBoth, List.forall_mem_cons.mpr ⟨jf_c_mX13_isCompare, List.forall_mem_cons.mpr ⟨jf_c_mX13_isDigit, List.forall_mem_cons.mpr ⟨jf_c_mX13_isFinished, List.forall_mem_cons.mpr ⟨jf_c_mX13_isIn, List.forall_mem_cons.mpr ⟨jf_c_mX13_isLine, List.forall_mem_cons.mpr ⟨jf_c_mX13_isMaskPart, List.forall_mem_cons.mpr ⟨jf_c_mX13_isNameIn, List.forall_mem_cons.mpr ⟨jf_c_mX13_isNot, List.forall_mem_cons.mpr ⟨jf_c_mX13_isNote, List.forall_mem_cons.mpr ⟨jf_c_mX13_isOfTwo, List.forall_mem_cons.mpr ⟨jf_c_mX13_isOpenIn, List.forall_mem_cons.mpr ⟨jf_c_mX13_isOther, List.forall_mem_cons.mpr ⟨jf_c_mX13_isPart, List.forall_mem_cons.mpr ⟨jf_c_mX13_isPlay, List.forall_mem_cons.mpr ⟨jf_c_mX13_isProduct, List.forall_mem_cons.mpr ⟨jf_c_mX13_isSame, List.forall_mem_cons.mpr ⟨jf_c_mX13_isScene, List.forall_mem_cons.mpr ⟨jf_c_mX13_isSingle, List.forall_mem_cons.mpr ⟨jf_c_mX13_isSmall, List.forall_mem_cons.mpr ⟨jf_c_mX13_isSum, List.forall_mem_cons.mpr ⟨jf_c_mX13_isTest, List.forall_mem_cons.mpr ⟨jf_c_mX13_isTold, List.forall_mem_cons.mpr ⟨jf_c_mX13_isValue, List.forall_mem_cons.mpr ⟨jf_c_mX13_isWorn, List.forall_mem_cons.mpr ⟨jf_c_mX13_keep, List.forall_mem_cons.mpr ⟨jf_c_mX13_kindOf, List.forall_mem_cons.mpr ⟨jf_c_mX13_layOut, List.forall_mem_cons.mpr ⟨jf_c_mX13_letterAt, List.forall_mem_cons.mpr ⟨jf_c_mX13_lettersOf, List.forall_mem_cons.mpr ⟨jf_c_mX13_markTargets, List.forall_mem_cons.mpr ⟨jf_c_mX13_masksIn, List.forall_mem_cons.mpr ⟨jf_c_mX13_masksOf, List.forall_mem_cons.mpr ⟨jf_c_mX13_meanSize, List.forall_mem_cons.mpr ⟨jf_c_mX13_mostMasksAround, List.forall_mem_cons.mpr ⟨jf_c_mX13_name, List.forall_mem_cons.mpr ⟨jf_c_mX13_nameOf, List.forall_mem_cons.mpr ⟨jf_c_mX13_nextScene, List.forall_mem_cons.mpr ⟨jf_c_mX13_nextSceneAt, List.forall_mem_cons.mpr ⟨jf_c_mX13_no, List.forall_mem_cons.mpr ⟨jf_c_mX13_notes, List.forall_mem_cons.mpr ⟨jf_c_mX13_notesCarriedOut, List.forall_mem_cons.mpr ⟨jf_c_mX13_numberAt, List.forall_mem_cons.mpr ⟨jf_c_mX13_ok, List.forall_mem_cons.mpr ⟨jf_c_mX13_one, List.forall_mem_cons.mpr ⟨jf_c_mX13_order, List.forall_mem_cons.mpr ⟨jf_c_mX13_owner, List.forall_mem_cons.mpr ⟨jf_c_mX13_passEvenings, List.forall_mem_cons.mpr ⟨jf_c_mX13_playFor, List.forall_mem_cons.mpr ⟨jf_c_mX13_plays, List.forall_mem_cons.mpr ⟨jf_c_mX13_putDown, List.forall_mem_cons.mpr ⟨jf_c_mX13_read, List.forall_mem_cons.mpr ⟨jf_c_mX13_reckon, List.forall_mem_cons.mpr ⟨jf_c_mX13_rename, List.forall_mem_cons.mpr ⟨jf_c_mX13_renameAll, List.forall_mem_cons.mpr ⟨jf_c_mX13_renamedByStep, List.forall_mem_cons.mpr ⟨jf_c_mX13_renew, List.forall_mem_cons.mpr ⟨jf_c_mX13_same, List.forall_mem_cons.mpr ⟨jf_c_mX13_scenesIn, List.forall_mem_cons.mpr ⟨jf_c_mX13_scenesOf, List.forall_mem_cons.mpr ⟨jf_c_mX13_setAside, List.forall_mem_cons.mpr ⟨jf_c_mX13_settle, List.forall_mem_cons.mpr ⟨jf_c_mX13_sizeAfterEvenings, List.forall_mem_cons.mpr ⟨jf_c_mX13_sizeAfterSteps, List.forall_mem_cons.mpr ⟨jf_c_mX13_sizeBehind, List.forall_mem_cons.mpr ⟨jf_c_mX13_sizeOf, List.forall_mem_cons.mpr ⟨jf_c_mX13_sizeOfName, List.forall_mem_cons.mpr ⟨jf_c_mX13_stands, List.forall_mem_cons.mpr ⟨jf_c_mX13_standsIn, List.forall_mem_cons.mpr ⟨jf_c_mX13_stepOn, List.forall_mem_cons.mpr ⟨jf_c_mX13_stepWork, List.forall_mem_cons.mpr ⟨jf_c_mX13_stepsDone, List.forall_mem_cons.mpr ⟨jf_c_mX13_stepsLeft, List.forall_mem_cons.mpr ⟨jf_c_mX13_stepsToFinish, List.forall_mem_cons.mpr ⟨jf_c_mX13_takeOff, List.forall_mem_cons.mpr ⟨jf_c_mX13_takeUp, List.forall_mem_cons.mpr ⟨jf_c_mX13_takeUpGift, List.forall_mem_cons.mpr ⟨jf_c_mX13_takeUpTold, List.forall_mem_cons.mpr ⟨jf_c_mX13_tapeBytes, List.forall_mem_cons.mpr ⟨jf_c_mX13_teach, List.forall_mem_cons.mpr ⟨jf_c_mX13_tell, List.forall_mem_cons.mpr ⟨jf_c_mX13_textLength, List.forall_mem_cons.mpr ⟨jf_c_mX13_textOf, List.forall_mem_cons.mpr ⟨jf_c_mX13_thrown, List.forall_mem_cons.mpr ⟨jf_c_mX13_trim, List.forall_mem_cons.mpr ⟨jf_c_mX13_wordAt, List.forall_mem_cons.mpr ⟨jf_c_mX13_write, List.forall_mem_cons.mpr ⟨jf_c_mX13_writeName, List.forall_mem_cons.mpr ⟨jf_c_mX13_writePart, List.forall_mem_cons.mpr ⟨jf_c_mX13_zName, fun _ h => absurd h List.not_mem_nil⟩⟩⟩⟩⟩⟩⟩⟩⟩⟩⟩⟩⟩⟩⟩⟩⟩⟩⟩⟩⟩⟩⟩⟩⟩⟩⟩⟩⟩⟩⟩⟩⟩⟩⟩⟩⟩⟩⟩⟩⟩⟩⟩⟩⟩⟩⟩⟩⟩⟩⟩⟩⟩⟩⟩⟩⟩⟩⟩⟩⟩⟩⟩⟩⟩⟩⟩⟩⟩⟩⟩⟩⟩⟩⟩⟩⟩⟩⟩⟩⟩⟩⟩⟩⟩⟩⟩⟩⟩⟩⟩⟩⟩⟩⟩⟩⟩⟩⟩⟩⟩⟩⟩⟩⟩⟩⟩⟩⟩⟩⟩⟩⟩⟩⟩⟩⟩⟩⟩⟩⟩⟩⟩⟩⟩⟩⟩⟩⟩⟩⟩
def jm_ml14 : List jm_M := [mJ0_charAt_5068e, mJ0_checkIndex_df160, mJ0_coder_7d493, mJ0_indexOf_0f7a4, mJ0_indexOf_7cf53, mJ0_isLatin1_aae02, mJ0_length_8abf5]
set_option maxRecDepth 100000 in
theorem jf_mw14 : ∀ w ∈ jm_ml14.flatMap jm_mwd, w ∈ jm_ws := jm_at_pl [326, 327, 144, 337, 144, 320, 321, 144, 633, 634, 144, 637, 638, 144, 330, 331, 144, 316, 317, 144] (by decide +kernel) (by decide +kernel)
set_option maxRecDepth 100000 in
theorem jf_mo14 : ∀ y ∈ jm_ml14, jm_mok y = true := by decide +kernel
theorem jf_c_mJ0_charAt_5068e : jm_cw mJ0_charAt_5068e ∈ jm_ws := jm_wsin (jt_1 (List.mem_of_getElem? (i := 191) rfl)) rfl
theorem jf_c_mJ0_checkIndex_df160 : jm_cw mJ0_checkIndex_df160 ∈ jm_ws := jm_wsin (jt_1 (List.mem_of_getElem? (i := 201) rfl)) rfl
theorem jf_c_mJ0_coder_7d493 : jm_cw mJ0_coder_7d493 ∈ jm_ws := jm_wsin (jt_1 (List.mem_of_getElem? (i := 185) rfl)) rfl
theorem jf_c_mJ0_indexOf_0f7a4 : jm_cw mJ0_indexOf_0f7a4 ∈ jm_ws := jm_wsin (jt_3 (List.mem_of_getElem? (i := 18) rfl)) rfl
theorem jf_c_mJ0_indexOf_7cf53 : jm_cw mJ0_indexOf_7cf53 ∈ jm_ws := jm_wsin (jt_3 (List.mem_of_getElem? (i := 22) rfl)) rfl
theorem jf_c_mJ0_isLatin1_aae02 : jm_cw mJ0_isLatin1_aae02 ∈ jm_ws := jm_wsin (jt_1 (List.mem_of_getElem? (i := 195) rfl)) rfl
theorem jf_c_mJ0_length_8abf5 : jm_cw mJ0_length_8abf5 ∈ jm_ws := jm_wsin (jt_1 (List.mem_of_getElem? (i := 181) rfl)) rfl
set_option maxRecDepth 100000 in
theorem jf_mc14 : ∀ y ∈ jm_ml14, jm_cw y ∈ jm_ws := List.forall_mem_cons.mpr ⟨jf_c_mJ0_charAt_5068e, List.forall_mem_cons.mpr ⟨jf_c_mJ0_checkIndex_df160, List.forall_mem_cons.mpr ⟨jf_c_mJ0_coder_7d493, List.forall_mem_cons.mpr ⟨jf_c_mJ0_indexOf_0f7a4, List.forall_mem_cons.mpr ⟨jf_c_mJ0_indexOf_7cf53, List.forall_mem_cons.mpr ⟨jf_c_mJ0_isLatin1_aae02, List.forall_mem_cons.mpr ⟨jf_c_mJ0_length_8abf5, fun _ h => absurd h List.not_mem_nil⟩⟩⟩⟩⟩⟩⟩
def jm_ml15 : List jm_M := [mJ1_canEncode_9a6ad, mJ1_charAt_3b067, mJ1_indexOfChar_4cfef, mJ1_indexOf_4cfef]
set_option maxRecDepth 100000 in
theorem jf_mw15 : ∀ w ∈ jm_ml15.flatMap jm_mwd, w ∈ jm_ws := jm_at_pl [645, 145, 334, 145, 654, 145, 642, 145] (by decide +kernel) (by decide +kernel)
set_option maxRecDepth 100000 in
theorem jf_mo15 : ∀ y ∈ jm_ml15, jm_mok y = true := by decide +kernel
theorem jf_c_mJ1_canEncode_9a6ad : jm_cw mJ1_canEncode_9a6ad ∈ jm_ws := jm_wsin (jt_3 (List.mem_of_getElem? (i := 29) rfl)) rfl
theorem jf_c_mJ1_charAt_3b067 : jm_cw mJ1_charAt_3b067 ∈ jm_ws := jm_wsin (jt_1 (List.mem_of_getElem? (i := 198) rfl)) rfl
theorem jf_c_mJ1_indexOfChar_4cfef : jm_cw mJ1_indexOfChar_4cfef ∈ jm_ws := jm_wsin (jt_3 (List.mem_of_getElem? (i := 38) rfl)) rfl
theorem jf_c_mJ1_indexOf_4cfef : jm_cw mJ1_indexOf_4cfef ∈ jm_ws := jm_wsin (jt_3 (List.mem_of_getElem? (i := 26) rfl)) rfl
set_option maxRecDepth 100000 in
theorem jf_mc15 : ∀ y ∈ jm_ml15, jm_cw y ∈ jm_ws := List.forall_mem_cons.mpr ⟨jf_c_mJ1_canEncode_9a6ad, List.forall_mem_cons.mpr ⟨jf_c_mJ1_charAt_3b067, List.forall_mem_cons.mpr ⟨jf_c_mJ1_indexOfChar_4cfef, List.forall_mem_cons.mpr ⟨jf_c_mJ1_indexOf_4cfef, fun _ h => absurd h List.not_mem_nil⟩⟩⟩⟩
def jm_ml17 : List jm_M := [mJ3_checkIndex_8e157]
set_option maxRecDepth 100000 in
theorem jf_mw17 : ∀ w ∈ jm_ml17.flatMap jm_mwd, w ∈ jm_ws := jm_at_pl [342, 146] (by decide +kernel) (by decide +kernel)
set_option maxRecDepth 100000 in
theorem jf_mo17 : ∀ y ∈ jm_ml17, jm_mok y = true := by decide +kernel
theorem jf_c_mJ3_checkIndex_8e157 : jm_cw mJ3_checkIndex_8e157 ∈ jm_ws := jm_wsin (jt_1 (List.mem_of_getElem? (i := 206) rfl)) rfl
set_option maxRecDepth 100000 in
theorem jf_mc17 : ∀ y ∈ jm_ml17, jm_cw y ∈ jm_ws := List.forall_mem_cons.mpr ⟨jf_c_mJ3_checkIndex_8e157, fun _ h => absurd h List.not_mem_nil⟩
def jm_ml21 : List jm_M := [mJ13_signum_95d88]
set_option maxRecDepth 100000 in
theorem jf_mw21 : ∀ w ∈ jm_ml21.flatMap jm_mwd, w ∈ jm_ws := jm_at_pl [2117, 165] (by decide +kernel) (by decide +kernel)
set_option maxRecDepth 100000 in
theorem jf_mo21 : ∀ y ∈ jm_ml21, jm_mok y = true := by decide +kernel
theorem jf_c_mJ13_signum_95d88 : jm_cw mJ13_signum_95d88 ∈ jm_ws := jm_wsin (jt_9 (List.mem_of_getElem? (i := 61) rfl)) rfl
set_option maxRecDepth 100000 in
theorem jf_mc21 : ∀ y ∈ jm_ml21, jm_cw y ∈ jm_ws := List.forall_mem_cons.mpr ⟨jf_c_mJ13_signum_95d88, fun _ h => absurd h List.not_mem_nil⟩
def jm_ml22 : List jm_M := [mL_bestGift, mL_canStep, mL_doStep, mL_endSame, mL_eveningsUntilFinished, mL_feed, mL_give, mL_isAsTold, mL_isFinished, mL_isSame, mL_letterAt, mL_masksIn, mL_mostMasksAround, mL_nextSceneAt, mL_passEvenings, mL_renamedByStep, mL_renew, mL_scenesIn, mL_sizeAfterEvenings, mL_sizeAfterSteps, mL_sizeOf, mL_standsIn, mL_stepsDone, mL_stepsToFinish, mL_textLength, mL_trim]
set_option maxRecDepth 100000 in
theorem jf_mw22 : ∀ w ∈ jm_ml22.flatMap jm_mwd, w ∈ jm_ws := jm_at_pl [1528, 137, 1246, 137, 1369, 137, 1503, 137, 1521, 137, 1165, 137, 1383, 137, 1365, 137, 1242, 137, 1358, 137, 1270, 137, 1222, 137, 1230, 137, 1278, 137, 1413, 137, 1290, 137, 1406, 137, 1226, 137, 1510, 137, 1491, 137, 1217, 137, 1234, 137, 1238, 137, 1478, 137, 1266, 137, 1193, 137] (by decide +kernel) (by decide +kernel)
set_option maxRecDepth 100000 in
theorem jf_mo22 : ∀ y ∈ jm_ml22, jm_mok y = true := by decide +kernel
theorem jf_c_mL_bestGift : jm_cw mL_bestGift ∈ jm_ws := jm_wsin (jt_6 (List.mem_of_getElem? (i := 192) rfl)) rfl
theorem jf_c_mL_canStep : jm_cw mL_canStep ∈ jm_ws := jm_wsin (jt_5 (List.mem_of_getElem? (i := 150) rfl)) rfl
theorem jf_c_mL_doStep : jm_cw mL_doStep ∈ jm_ws := jm_wsin (jt_6 (List.mem_of_getElem? (i := 33) rfl)) rfl
theorem jf_c_mL_endSame : jm_cw mL_endSame ∈ jm_ws := jm_wsin (jt_6 (List.mem_of_getElem? (i := 167) rfl)) rfl
theorem jf_c_mL_eveningsUntilFinished : jm_cw mL_eveningsUntilFinished ∈ jm_ws := jm_wsin (jt_6 (List.mem_of_getElem? (i := 185) rfl)) rfl
theorem jf_c_mL_feed : jm_cw mL_feed ∈ jm_ws := jm_wsin (jt_5 (List.mem_of_getElem? (i := 69) rfl)) rfl
theorem jf_c_mL_give : jm_cw mL_give ∈ jm_ws := jm_wsin (jt_6 (List.mem_of_getElem? (i := 47) rfl)) rfl
theorem jf_c_mL_isAsTold : jm_cw mL_isAsTold ∈ jm_ws := jm_wsin (jt_6 (List.mem_of_getElem? (i := 29) rfl)) rfl
theorem jf_c_mL_isFinished : jm_cw mL_isFinished ∈ jm_ws := jm_wsin (jt_5 (List.mem_of_getElem? (i := 146) rfl)) rfl
theorem jf_c_mL_isSame : jm_cw mL_isSame ∈ jm_ws := jm_wsin (jt_6 (List.mem_of_getElem? (i := 22) rfl)) rfl
theorem jf_c_mL_letterAt : jm_cw mL_letterAt ∈ jm_ws := jm_wsin (jt_5 (List.mem_of_getElem? (i := 174) rfl)) rfl
theorem jf_c_mL_masksIn : jm_cw mL_masksIn ∈ jm_ws := jm_wsin (jt_5 (List.mem_of_getElem? (i := 126) rfl)) rfl
theorem jf_c_mL_mostMasksAround : jm_cw mL_mostMasksAround ∈ jm_ws := jm_wsin (jt_5 (List.mem_of_getElem? (i := 134) rfl)) rfl
theorem jf_c_mL_nextSceneAt : jm_cw mL_nextSceneAt ∈ jm_ws := jm_wsin (jt_5 (List.mem_of_getElem? (i := 182) rfl)) rfl
theorem jf_c_mL_passEvenings : jm_cw mL_passEvenings ∈ jm_ws := jm_wsin (jt_6 (List.mem_of_getElem? (i := 77) rfl)) rfl
theorem jf_c_mL_renamedByStep : jm_cw mL_renamedByStep ∈ jm_ws := jm_wsin (jt_5 (List.mem_of_getElem? (i := 194) rfl)) rfl
theorem jf_c_mL_renew : jm_cw mL_renew ∈ jm_ws := jm_wsin (jt_6 (List.mem_of_getElem? (i := 70) rfl)) rfl
theorem jf_c_mL_scenesIn : jm_cw mL_scenesIn ∈ jm_ws := jm_wsin (jt_5 (List.mem_of_getElem? (i := 130) rfl)) rfl
theorem jf_c_mL_sizeAfterEvenings : jm_cw mL_sizeAfterEvenings ∈ jm_ws := jm_wsin (jt_6 (List.mem_of_getElem? (i := 174) rfl)) rfl
theorem jf_c_mL_sizeAfterSteps : jm_cw mL_sizeAfterSteps ∈ jm_ws := jm_wsin (jt_6 (List.mem_of_getElem? (i := 155) rfl)) rfl
theorem jf_c_mL_sizeOf : jm_cw mL_sizeOf ∈ jm_ws := jm_wsin (jt_5 (List.mem_of_getElem? (i := 121) rfl)) rfl
theorem jf_c_mL_standsIn : jm_cw mL_standsIn ∈ jm_ws := jm_wsin (jt_5 (List.mem_of_getElem? (i := 138) rfl)) rfl
theorem jf_c_mL_stepsDone : jm_cw mL_stepsDone ∈ jm_ws := jm_wsin (jt_5 (List.mem_of_getElem? (i := 142) rfl)) rfl
theorem jf_c_mL_stepsToFinish : jm_cw mL_stepsToFinish ∈ jm_ws := jm_wsin (jt_6 (List.mem_of_getElem? (i := 142) rfl)) rfl
theorem jf_c_mL_textLength : jm_cw mL_textLength ∈ jm_ws := jm_wsin (jt_5 (List.mem_of_getElem? (i := 170) rfl)) rfl
theorem jf_c_mL_trim : jm_cw mL_trim ∈ jm_ws := jm_wsin (jt_5 (List.mem_of_getElem? (i := 97) rfl)) rfl
set_option maxRecDepth 100000 in
theorem jf_mc22 : ∀ y ∈ jm_ml22, jm_cw y ∈ jm_ws := List.forall_mem_cons.mpr ⟨jf_c_mL_bestGift, List.forall_mem_cons.mpr ⟨jf_c_mL_canStep, List.forall_mem_cons.mpr ⟨jf_c_mL_doStep, List.forall_mem_cons.mpr ⟨jf_c_mL_endSame, List.forall_mem_cons.mpr ⟨jf_c_mL_eveningsUntilFinished, List.forall_mem_cons.mpr ⟨jf_c_mL_feed, List.forall_mem_cons.mpr ⟨jf_c_mL_give, List.forall_mem_cons.mpr ⟨jf_c_mL_isAsTold, List.forall_mem_cons.mpr ⟨jf_c_mL_isFinished, List.forall_mem_cons.mpr ⟨jf_c_mL_isSame, List.forall_mem_cons.mpr ⟨jf_c_mL_letterAt, List.forall_mem_cons.mpr ⟨jf_c_mL_masksIn, List.forall_mem_cons.mpr ⟨jf_c_mL_mostMasksAround, List.forall_mem_cons.mpr ⟨jf_c_mL_nextSceneAt, List.forall_mem_cons.mpr ⟨jf_c_mL_passEvenings, List.forall_mem_cons.mpr ⟨jf_c_mL_renamedByStep, List.forall_mem_cons.mpr ⟨jf_c_mL_renew, List.forall_mem_cons.mpr ⟨jf_c_mL_scenesIn, List.forall_mem_cons.mpr ⟨jf_c_mL_sizeAfterEvenings, List.forall_mem_cons.mpr ⟨jf_c_mL_sizeAfterSteps, List.forall_mem_cons.mpr ⟨jf_c_mL_sizeOf, List.forall_mem_cons.mpr ⟨jf_c_mL_standsIn, List.forall_mem_cons.mpr ⟨jf_c_mL_stepsDone, List.forall_mem_cons.mpr ⟨jf_c_mL_stepsToFinish, List.forall_mem_cons.mpr ⟨jf_c_mL_textLength, List.forall_mem_cons.mpr ⟨jf_c_mL_trim, fun _ h => absurd h List.not_mem_nil⟩⟩⟩⟩⟩⟩⟩⟩⟩⟩⟩⟩⟩⟩⟩⟩⟩⟩⟩⟩⟩⟩⟩⟩⟩⟩
def jm_mll : Nat → List jm_M := fun c => match c with
  | 0 => jm_ml0
  | 1 => jm_ml1
  | 2 => jm_ml2
  | 3 => jm_ml3
  | 4 => jm_ml4
  | 5 => jm_ml5
  | 6 => jm_ml6
  | 7 => jm_ml7
  | 8 => jm_ml8
  | 9 => jm_ml9
  | 10 => jm_ml10
  | 11 => jm_ml11
  | 12 => jm_ml12
  | 13 => jm_ml13
  | 14 => jm_ml14
  | 15 => jm_ml15
  | 17 => jm_ml17
  | 21 => jm_ml21
  | 22 => jm_ml22
  | _ => []
theorem jf_mw : ∀ c, ∀ w ∈ (jm_mll c).flatMap jm_mwd, w ∈ jm_ws := by
  intro c
  match c with
  | 0 => exact jf_mw0
  | 1 => exact jf_mw1
  | 2 => exact jf_mw2
  | 3 => exact jf_mw3
  | 4 => exact jf_mw4
  | 5 => exact jf_mw5
  | 6 => exact jf_mw6
  | 7 => exact jf_mw7
  | 8 => exact jf_mw8
  | 9 => exact jf_mw9
  | 10 => exact jf_mw10
  | 11 => exact jf_mw11
  | 12 => exact jf_mw12
  | 13 => exact jf_mw13
  | 14 => exact jf_mw14
  | 15 => exact jf_mw15
  | 16 => exact fun w h => absurd h List.not_mem_nil
  | 17 => exact jf_mw17
  | 18 => exact fun w h => absurd h List.not_mem_nil
  | 19 => exact fun w h => absurd h List.not_mem_nil
  | 20 => exact fun w h => absurd h List.not_mem_nil
  | 21 => exact jf_mw21
  | 22 => exact jf_mw22
  | _ + 23 => exact fun w h => absurd h List.not_mem_nil
theorem jf_mo : ∀ c, ∀ y ∈ jm_mll c, jm_mok y = true := by
  intro c
  match c with
  | 0 => exact jf_mo0
  | 1 => exact jf_mo1
  | 2 => exact jf_mo2
  | 3 => exact jf_mo3
  | 4 => exact jf_mo4
  | 5 => exact jf_mo5
  | 6 => exact jf_mo6
  | 7 => exact jf_mo7
  | 8 => exact jf_mo8
  | 9 => exact jf_mo9
  | 10 => exact jf_mo10
  | 11 => exact jf_mo11
  | 12 => exact jf_mo12
  | 13 => exact jf_mo13
  | 14 => exact jf_mo14
  | 15 => exact jf_mo15
  | 16 => exact fun w h => absurd h List.not_mem_nil
  | 17 => exact jf_mo17
  | 18 => exact fun w h => absurd h List.not_mem_nil
  | 19 => exact fun w h => absurd h List.not_mem_nil
  | 20 => exact fun w h => absurd h List.not_mem_nil
  | 21 => exact jf_mo21
  | 22 => exact jf_mo22
  | _ + 23 => exact fun w h => absurd h List.not_mem_nil
theorem jf_mc : ∀ c, ∀ y ∈ jm_mll c, jm_cw y ∈ jm_ws := by
  intro c
  match c with
  | 0 => exact jf_mc0
  | 1 => exact jf_mc1
  | 2 => exact jf_mc2
  | 3 => exact jf_mc3
  | 4 => exact jf_mc4
  | 5 => exact jf_mc5
  | 6 => exact jf_mc6
  | 7 => exact jf_mc7
  | 8 => exact jf_mc8
  | 9 => exact jf_mc9
  | 10 => exact jf_mc10
  | 11 => exact jf_mc11
  | 12 => exact jf_mc12
  | 13 => exact jf_mc13
  | 14 => exact jf_mc14
  | 15 => exact jf_mc15
  | 16 => exact fun w h => absurd h List.not_mem_nil
  | 17 => exact jf_mc17
  | 18 => exact fun w h => absurd h List.not_mem_nil
  | 19 => exact fun w h => absurd h List.not_mem_nil
  | 20 => exact fun w h => absurd h List.not_mem_nil
  | 21 => exact jf_mc21
  | 22 => exact jf_mc22
  | _ + 23 => exact fun w h => absurd h List.not_mem_nil
set_option maxRecDepth 100000 in
theorem jf_mi0 : ∀ q ∈ jm_mpl 0, q.2.1 < 10 → q.2.2 ∈ jm_mll q.2.2.2.2.2.2.2.1 ∧ jm_kok q.2.1 q.2.2 = true := List.forall_mem_cons.mpr ⟨fun q => absurd q (by decide), List.forall_mem_cons.mpr ⟨fun _ => ⟨List.mem_of_getElem? (i := 10) rfl, by decide⟩, List.forall_mem_cons.mpr ⟨fun _ => ⟨List.mem_of_getElem? (i := 0) rfl, by decide⟩, List.forall_mem_cons.mpr ⟨fun _ => ⟨List.mem_of_getElem? (i := 12) rfl, by decide⟩, List.forall_mem_cons.mpr ⟨fun _ => ⟨List.mem_of_getElem? (i := 1) rfl, by decide⟩, List.forall_mem_cons.mpr ⟨fun _ => ⟨List.mem_of_getElem? (i := 13) rfl, by decide⟩, List.forall_mem_cons.mpr ⟨fun _ => ⟨List.mem_of_getElem? (i := 7) rfl, by decide⟩, List.forall_mem_cons.mpr ⟨fun _ => ⟨List.mem_of_getElem? (i := 9) rfl, by decide⟩, fun _ h => absurd h List.not_mem_nil⟩⟩⟩⟩⟩⟩⟩⟩
set_option maxRecDepth 100000 in
theorem jf_mi1 : ∀ q ∈ jm_mpl 1, q.2.1 < 10 → q.2.2 ∈ jm_mll q.2.2.2.2.2.2.2.1 ∧ jm_kok q.2.1 q.2.2 = true := List.forall_mem_cons.mpr ⟨fun q => absurd q (by decide), List.forall_mem_cons.mpr ⟨fun _ => ⟨List.mem_of_getElem? (i := 8) rfl, by decide⟩, List.forall_mem_cons.mpr ⟨fun _ => ⟨List.mem_of_getElem? (i := 3) rfl, by decide⟩, List.forall_mem_cons.mpr ⟨fun _ => ⟨List.mem_of_getElem? (i := 6) rfl, by decide⟩, List.forall_mem_cons.mpr ⟨fun _ => ⟨List.mem_of_getElem? (i := 11) rfl, by decide⟩, List.forall_mem_cons.mpr ⟨fun _ => ⟨List.mem_of_getElem? (i := 4) rfl, by decide⟩, List.forall_mem_cons.mpr ⟨fun _ => ⟨List.mem_of_getElem? (i := 14) rfl, by decide⟩, List.forall_mem_cons.mpr ⟨fun _ => ⟨List.mem_of_getElem? (i := 7) rfl, by decide⟩, List.forall_mem_cons.mpr ⟨fun _ => ⟨List.mem_of_getElem? (i := 8) rfl, by decide⟩, List.forall_mem_cons.mpr ⟨fun _ => ⟨List.mem_of_getElem? (i := 12) rfl, by decide⟩, List.forall_mem_cons.mpr ⟨fun _ => ⟨List.mem_of_getElem? (i := 6) rfl, by decide⟩, List.forall_mem_cons.mpr ⟨fun _ => ⟨List.mem_of_getElem? (i := 3) rfl, by decide⟩, List.forall_mem_cons.mpr ⟨fun _ => ⟨List.mem_of_getElem? (i := 0) rfl, by decide⟩, List.forall_mem_cons.mpr ⟨fun _ => ⟨List.mem_of_getElem? (i := 9) rfl, by decide⟩, List.forall_mem_cons.mpr ⟨fun _ => ⟨List.mem_of_getElem? (i := 10) rfl, by decide⟩, List.forall_mem_cons.mpr ⟨fun _ => ⟨List.mem_of_getElem? (i := 5) rfl, by decide⟩, List.forall_mem_cons.mpr ⟨fun _ => ⟨List.mem_of_getElem? (i := 13) rfl, by decide⟩, List.forall_mem_cons.mpr ⟨fun _ => ⟨List.mem_of_getElem? (i := 16) rfl, by decide⟩, fun _ h => absurd h List.not_mem_nil⟩⟩⟩⟩⟩⟩⟩⟩⟩⟩⟩⟩⟩⟩⟩⟩⟩⟩
set_option maxRecDepth 100000 in
theorem jf_mi2 : ∀ q ∈ jm_mpl 2, q.2.1 < 10 → q.2.2 ∈ jm_mll q.2.2.2.2.2.2.2.1 ∧ jm_kok q.2.1 q.2.2 = true := List.forall_mem_cons.mpr ⟨fun q => absurd q (by decide), fun _ h => absurd h List.not_mem_nil⟩
set_option maxRecDepth 100000 in
theorem jf_mi3 : ∀ q ∈ jm_mpl 3, q.2.1 < 10 → q.2.2 ∈ jm_mll q.2.2.2.2.2.2.2.1 ∧ jm_kok q.2.1 q.2.2 = true := List.forall_mem_cons.mpr ⟨fun q => absurd q (by decide), List.forall_mem_cons.mpr ⟨fun _ => ⟨List.mem_of_getElem? (i := 12) rfl, by decide⟩, List.forall_mem_cons.mpr ⟨fun _ => ⟨List.mem_of_getElem? (i := 17) rfl, by decide⟩, List.forall_mem_cons.mpr ⟨fun _ => ⟨List.mem_of_getElem? (i := 0) rfl, by decide⟩, List.forall_mem_cons.mpr ⟨fun q => absurd q (by decide), List.forall_mem_cons.mpr ⟨fun q => absurd q (by decide), List.forall_mem_cons.mpr ⟨fun q => absurd q (by decide), List.forall_mem_cons.mpr ⟨fun _ => ⟨List.mem_of_getElem? (i := 3) rfl, by decide⟩, List.forall_mem_cons.mpr ⟨fun _ => ⟨List.mem_of_getElem? (i := 1) rfl, by decide⟩, List.forall_mem_cons.mpr ⟨fun _ => ⟨List.mem_of_getElem? (i := 13) rfl, by decide⟩, List.forall_mem_cons.mpr ⟨fun _ => ⟨List.mem_of_getElem? (i := 6) rfl, by decide⟩, List.forall_mem_cons.mpr ⟨fun _ => ⟨List.mem_of_getElem? (i := 22) rfl, by decide⟩, List.forall_mem_cons.mpr ⟨fun _ => ⟨List.mem_of_getElem? (i := 18) rfl, by decide⟩, List.forall_mem_cons.mpr ⟨fun _ => ⟨List.mem_of_getElem? (i := 14) rfl, by decide⟩, List.forall_mem_cons.mpr ⟨fun _ => ⟨List.mem_of_getElem? (i := 15) rfl, by decide⟩, List.forall_mem_cons.mpr ⟨fun _ => ⟨List.mem_of_getElem? (i := 21) rfl, by decide⟩, List.forall_mem_cons.mpr ⟨fun _ => ⟨List.mem_of_getElem? (i := 2) rfl, by decide⟩, fun _ h => absurd h List.not_mem_nil⟩⟩⟩⟩⟩⟩⟩⟩⟩⟩⟩⟩⟩⟩⟩⟩⟩
set_option maxRecDepth 100000 in
theorem jf_mi4 : ∀ q ∈ jm_mpl 4, q.2.1 < 10 → q.2.2 ∈ jm_mll q.2.2.2.2.2.2.2.1 ∧ jm_kok q.2.1 q.2.2 = true := List.forall_mem_cons.mpr ⟨fun q => absurd q (by decide), List.forall_mem_cons.mpr ⟨fun _ => ⟨List.mem_of_getElem? (i := 10) rfl, by decide⟩, List.forall_mem_cons.mpr ⟨fun _ => ⟨List.mem_of_getElem? (i := 1) rfl, by decide⟩, List.forall_mem_cons.mpr ⟨fun _ => ⟨List.mem_of_getElem? (i := 14) rfl, by decide⟩, List.forall_mem_cons.mpr ⟨fun _ => ⟨List.mem_of_getElem? (i := 23) rfl, by decide⟩, List.forall_mem_cons.mpr ⟨fun _ => ⟨List.mem_of_getElem? (i := 7) rfl, by decide⟩, List.forall_mem_cons.mpr ⟨fun _ => ⟨List.mem_of_getElem? (i := 4) rfl, by decide⟩, List.forall_mem_cons.mpr ⟨fun _ => ⟨List.mem_of_getElem? (i := 10) rfl, by decide⟩, List.forall_mem_cons.mpr ⟨fun _ => ⟨List.mem_of_getElem? (i := 11) rfl, by decide⟩, List.forall_mem_cons.mpr ⟨fun _ => ⟨List.mem_of_getElem? (i := 7) rfl, by decide⟩, List.forall_mem_cons.mpr ⟨fun _ => ⟨List.mem_of_getElem? (i := 24) rfl, by decide⟩, List.forall_mem_cons.mpr ⟨fun _ => ⟨List.mem_of_getElem? (i := 8) rfl, by decide⟩, List.forall_mem_cons.mpr ⟨fun _ => ⟨List.mem_of_getElem? (i := 12) rfl, by decide⟩, List.forall_mem_cons.mpr ⟨fun _ => ⟨List.mem_of_getElem? (i := 0) rfl, by decide⟩, List.forall_mem_cons.mpr ⟨fun _ => ⟨List.mem_of_getElem? (i := 1) rfl, by decide⟩, List.forall_mem_cons.mpr ⟨fun _ => ⟨List.mem_of_getElem? (i := 9) rfl, by decide⟩, List.forall_mem_cons.mpr ⟨fun _ => ⟨List.mem_of_getElem? (i := 2) rfl, by decide⟩, List.forall_mem_cons.mpr ⟨fun _ => ⟨List.mem_of_getElem? (i := 6) rfl, by decide⟩, fun _ h => absurd h List.not_mem_nil⟩⟩⟩⟩⟩⟩⟩⟩⟩⟩⟩⟩⟩⟩⟩⟩⟩⟩
set_option maxRecDepth 100000 in
theorem jf_mi5 : ∀ q ∈ jm_mpl 5, q.2.1 < 10 → q.2.2 ∈ jm_mll q.2.2.2.2.2.2.2.1 ∧ jm_kok q.2.1 q.2.2 = true := List.forall_mem_cons.mpr ⟨fun q => absurd q (by decide), List.forall_mem_cons.mpr ⟨fun _ => ⟨List.mem_of_getElem? (i := 10) rfl, by decide⟩, List.forall_mem_cons.mpr ⟨fun _ => ⟨List.mem_of_getElem? (i := 2) rfl, by decide⟩, List.forall_mem_cons.mpr ⟨fun _ => ⟨List.mem_of_getElem? (i := 19) rfl, by decide⟩, List.forall_mem_cons.mpr ⟨fun _ => ⟨List.mem_of_getElem? (i := 6) rfl, by decide⟩, List.forall_mem_cons.mpr ⟨fun _ => ⟨List.mem_of_getElem? (i := 5) rfl, by decide⟩, List.forall_mem_cons.mpr ⟨fun _ => ⟨List.mem_of_getElem? (i := 2) rfl, by decide⟩, List.forall_mem_cons.mpr ⟨fun _ => ⟨List.mem_of_getElem? (i := 23) rfl, by decide⟩, List.forall_mem_cons.mpr ⟨fun _ => ⟨List.mem_of_getElem? (i := 4) rfl, by decide⟩, List.forall_mem_cons.mpr ⟨fun _ => ⟨List.mem_of_getElem? (i := 3) rfl, by decide⟩, List.forall_mem_cons.mpr ⟨fun _ => ⟨List.mem_of_getElem? (i := 10) rfl, by decide⟩, List.forall_mem_cons.mpr ⟨fun _ => ⟨List.mem_of_getElem? (i := 1) rfl, by decide⟩, List.forall_mem_cons.mpr ⟨fun _ => ⟨List.mem_of_getElem? (i := 8) rfl, by decide⟩, List.forall_mem_cons.mpr ⟨fun _ => ⟨List.mem_of_getElem? (i := 11) rfl, by decide⟩, List.forall_mem_cons.mpr ⟨fun _ => ⟨List.mem_of_getElem? (i := 17) rfl, by decide⟩, List.forall_mem_cons.mpr ⟨fun _ => ⟨List.mem_of_getElem? (i := 12) rfl, by decide⟩, List.forall_mem_cons.mpr ⟨fun _ => ⟨List.mem_of_getElem? (i := 14) rfl, by decide⟩, List.forall_mem_cons.mpr ⟨fun _ => ⟨List.mem_of_getElem? (i := 8) rfl, by decide⟩, List.forall_mem_cons.mpr ⟨fun _ => ⟨List.mem_of_getElem? (i := 0) rfl, by decide⟩, List.forall_mem_cons.mpr ⟨fun _ => ⟨List.mem_of_getElem? (i := 9) rfl, by decide⟩, List.forall_mem_cons.mpr ⟨fun _ => ⟨List.mem_of_getElem? (i := 18) rfl, by decide⟩, List.forall_mem_cons.mpr ⟨fun _ => ⟨List.mem_of_getElem? (i := 6) rfl, by decide⟩, List.forall_mem_cons.mpr ⟨fun _ => ⟨List.mem_of_getElem? (i := 20) rfl, by decide⟩, List.forall_mem_cons.mpr ⟨fun _ => ⟨List.mem_of_getElem? (i := 9) rfl, by decide⟩, List.forall_mem_cons.mpr ⟨fun _ => ⟨List.mem_of_getElem? (i := 3) rfl, by decide⟩, List.forall_mem_cons.mpr ⟨fun _ => ⟨List.mem_of_getElem? (i := 1) rfl, by decide⟩, List.forall_mem_cons.mpr ⟨fun _ => ⟨List.mem_of_getElem? (i := 0) rfl, by decide⟩, List.forall_mem_cons.mpr ⟨fun _ => ⟨List.mem_of_getElem? (i := 13) rfl, by decide⟩, fun _ h => absurd h List.not_mem_nil⟩⟩⟩⟩⟩⟩⟩⟩⟩⟩⟩⟩⟩⟩⟩⟩⟩⟩⟩⟩⟩⟩⟩⟩⟩⟩⟩⟩
set_option maxRecDepth 100000 in
theorem jf_mi6 : ∀ q ∈ jm_mpl 6, q.2.1 < 10 → q.2.2 ∈ jm_mll q.2.2.2.2.2.2.2.1 ∧ jm_kok q.2.1 q.2.2 = true := List.forall_mem_cons.mpr ⟨fun q => absurd q (by decide), List.forall_mem_cons.mpr ⟨fun _ => ⟨List.mem_of_getElem? (i := 6) rfl, by decide⟩, List.forall_mem_cons.mpr ⟨fun _ => ⟨List.mem_of_getElem? (i := 5) rfl, by decide⟩, List.forall_mem_cons.mpr ⟨fun _ => ⟨List.mem_of_getElem? (i := 11) rfl, by decide⟩, List.forall_mem_cons.mpr ⟨fun _ => ⟨List.mem_of_getElem? (i := 0) rfl, by decide⟩, List.forall_mem_cons.mpr ⟨fun _ => ⟨List.mem_of_getElem? (i := 10) rfl, by decide⟩, List.forall_mem_cons.mpr ⟨fun _ => ⟨List.mem_of_getElem? (i := 8) rfl, by decide⟩, List.forall_mem_cons.mpr ⟨fun _ => ⟨List.mem_of_getElem? (i := 17) rfl, by decide⟩, List.forall_mem_cons.mpr ⟨fun _ => ⟨List.mem_of_getElem? (i := 10) rfl, by decide⟩, List.forall_mem_cons.mpr ⟨fun _ => ⟨List.mem_of_getElem? (i := 2) rfl, by decide⟩, List.forall_mem_cons.mpr ⟨fun _ => ⟨List.mem_of_getElem? (i := 14) rfl, by decide⟩, List.forall_mem_cons.mpr ⟨fun _ => ⟨List.mem_of_getElem? (i := 3) rfl, by decide⟩, List.forall_mem_cons.mpr ⟨fun _ => ⟨List.mem_of_getElem? (i := 11) rfl, by decide⟩, List.forall_mem_cons.mpr ⟨fun _ => ⟨List.mem_of_getElem? (i := 13) rfl, by decide⟩, List.forall_mem_cons.mpr ⟨fun _ => ⟨List.mem_of_getElem? (i := 5) rfl, by decide⟩, List.forall_mem_cons.mpr ⟨fun _ => ⟨List.mem_of_getElem? (i := 6) rfl, by decide⟩, List.forall_mem_cons.mpr ⟨fun _ => ⟨List.mem_of_getElem? (i := 9) rfl, by decide⟩, List.forall_mem_cons.mpr ⟨fun _ => ⟨List.mem_of_getElem? (i := 1) rfl, by decide⟩, List.forall_mem_cons.mpr ⟨fun _ => ⟨List.mem_of_getElem? (i := 7) rfl, by decide⟩, List.forall_mem_cons.mpr ⟨fun _ => ⟨List.mem_of_getElem? (i := 0) rfl, by decide⟩, List.forall_mem_cons.mpr ⟨fun _ => ⟨List.mem_of_getElem? (i := 4) rfl, by decide⟩, List.forall_mem_cons.mpr ⟨fun _ => ⟨List.mem_of_getElem? (i := 1) rfl, by decide⟩, List.forall_mem_cons.mpr ⟨fun _ => ⟨List.mem_of_getElem? (i := 13) rfl, by decide⟩, List.forall_mem_cons.mpr ⟨fun _ => ⟨List.mem_of_getElem? (i := 1) rfl, by decide⟩, List.forall_mem_cons.mpr ⟨fun _ => ⟨List.mem_of_getElem? (i := 8) rfl, by decide⟩, List.forall_mem_cons.mpr ⟨fun _ => ⟨List.mem_of_getElem? (i := 4) rfl, by decide⟩, fun _ h => absurd h List.not_mem_nil⟩⟩⟩⟩⟩⟩⟩⟩⟩⟩⟩⟩⟩⟩⟩⟩⟩⟩⟩⟩⟩⟩⟩⟩⟩⟩
set_option maxRecDepth 100000 in
theorem jf_mi7 : ∀ q ∈ jm_mpl 7, q.2.1 < 10 → q.2.2 ∈ jm_mll q.2.2.2.2.2.2.2.1 ∧ jm_kok q.2.1 q.2.2 = true := List.forall_mem_cons.mpr ⟨fun q => absurd q (by decide), List.forall_mem_cons.mpr ⟨fun _ => ⟨List.mem_of_getElem? (i := 7) rfl, by decide⟩, List.forall_mem_cons.mpr ⟨fun _ => ⟨List.mem_of_getElem? (i := 8) rfl, by decide⟩, List.forall_mem_cons.mpr ⟨fun _ => ⟨List.mem_of_getElem? (i := 7) rfl, by decide⟩, List.forall_mem_cons.mpr ⟨fun _ => ⟨List.mem_of_getElem? (i := 5) rfl, by decide⟩, List.forall_mem_cons.mpr ⟨fun _ => ⟨List.mem_of_getElem? (i := 6) rfl, by decide⟩, List.forall_mem_cons.mpr ⟨fun _ => ⟨List.mem_of_getElem? (i := 4) rfl, by decide⟩, List.forall_mem_cons.mpr ⟨fun _ => ⟨List.mem_of_getElem? (i := 4) rfl, by decide⟩, List.forall_mem_cons.mpr ⟨fun _ => ⟨List.mem_of_getElem? (i := 11) rfl, by decide⟩, List.forall_mem_cons.mpr ⟨fun _ => ⟨List.mem_of_getElem? (i := 2) rfl, by decide⟩, List.forall_mem_cons.mpr ⟨fun _ => ⟨List.mem_of_getElem? (i := 3) rfl, by decide⟩, List.forall_mem_cons.mpr ⟨fun _ => ⟨List.mem_of_getElem? (i := 4) rfl, by decide⟩, List.forall_mem_cons.mpr ⟨fun _ => ⟨List.mem_of_getElem? (i := 10) rfl, by decide⟩, List.forall_mem_cons.mpr ⟨fun _ => ⟨List.mem_of_getElem? (i := 19) rfl, by decide⟩, List.forall_mem_cons.mpr ⟨fun q => absurd q (by decide), List.forall_mem_cons.mpr ⟨fun q => absurd q (by decide), fun _ h => absurd h List.not_mem_nil⟩⟩⟩⟩⟩⟩⟩⟩⟩⟩⟩⟩⟩⟩⟩⟩
set_option maxRecDepth 100000 in
theorem jf_mi8 : ∀ q ∈ jm_mpl 8, q.2.1 < 10 → q.2.2 ∈ jm_mll q.2.2.2.2.2.2.2.1 ∧ jm_kok q.2.1 q.2.2 = true := List.forall_mem_cons.mpr ⟨fun q => absurd q (by decide), List.forall_mem_cons.mpr ⟨fun _ => ⟨List.mem_of_getElem? (i := 12) rfl, by decide⟩, List.forall_mem_cons.mpr ⟨fun _ => ⟨List.mem_of_getElem? (i := 3) rfl, by decide⟩, List.forall_mem_cons.mpr ⟨fun _ => ⟨List.mem_of_getElem? (i := 5) rfl, by decide⟩, List.forall_mem_cons.mpr ⟨fun _ => ⟨List.mem_of_getElem? (i := 4) rfl, by decide⟩, List.forall_mem_cons.mpr ⟨fun _ => ⟨List.mem_of_getElem? (i := 17) rfl, by decide⟩, List.forall_mem_cons.mpr ⟨fun _ => ⟨List.mem_of_getElem? (i := 6) rfl, by decide⟩, List.forall_mem_cons.mpr ⟨fun _ => ⟨List.mem_of_getElem? (i := 7) rfl, by decide⟩, List.forall_mem_cons.mpr ⟨fun _ => ⟨List.mem_of_getElem? (i := 6) rfl, by decide⟩, List.forall_mem_cons.mpr ⟨fun _ => ⟨List.mem_of_getElem? (i := 0) rfl, by decide⟩, List.forall_mem_cons.mpr ⟨fun _ => ⟨List.mem_of_getElem? (i := 1) rfl, by decide⟩, fun _ h => absurd h List.not_mem_nil⟩⟩⟩⟩⟩⟩⟩⟩⟩⟩⟩
set_option maxRecDepth 100000 in
theorem jf_mi9 : ∀ q ∈ jm_mpl 9, q.2.1 < 10 → q.2.2 ∈ jm_mll q.2.2.2.2.2.2.2.1 ∧ jm_kok q.2.1 q.2.2 = true := List.forall_mem_cons.mpr ⟨fun q => absurd q (by decide), List.forall_mem_cons.mpr ⟨fun _ => ⟨List.mem_of_getElem? (i := 6) rfl, by decide⟩, List.forall_mem_cons.mpr ⟨fun _ => ⟨List.mem_of_getElem? (i := 0) rfl, by decide⟩, List.forall_mem_cons.mpr ⟨fun _ => ⟨List.mem_of_getElem? (i := 0) rfl, by decide⟩, List.forall_mem_cons.mpr ⟨fun _ => ⟨List.mem_of_getElem? (i := 1) rfl, by decide⟩, List.forall_mem_cons.mpr ⟨fun _ => ⟨List.mem_of_getElem? (i := 0) rfl, by decide⟩, List.forall_mem_cons.mpr ⟨fun _ => ⟨List.mem_of_getElem? (i := 14) rfl, by decide⟩, List.forall_mem_cons.mpr ⟨fun _ => ⟨List.mem_of_getElem? (i := 2) rfl, by decide⟩, List.forall_mem_cons.mpr ⟨fun _ => ⟨List.mem_of_getElem? (i := 5) rfl, by decide⟩, List.forall_mem_cons.mpr ⟨fun _ => ⟨List.mem_of_getElem? (i := 15) rfl, by decide⟩, List.forall_mem_cons.mpr ⟨fun _ => ⟨List.mem_of_getElem? (i := 4) rfl, by decide⟩, List.forall_mem_cons.mpr ⟨fun _ => ⟨List.mem_of_getElem? (i := 12) rfl, by decide⟩, List.forall_mem_cons.mpr ⟨fun _ => ⟨List.mem_of_getElem? (i := 13) rfl, by decide⟩, List.forall_mem_cons.mpr ⟨fun _ => ⟨List.mem_of_getElem? (i := 7) rfl, by decide⟩, List.forall_mem_cons.mpr ⟨fun _ => ⟨List.mem_of_getElem? (i := 3) rfl, by decide⟩, fun _ h => absurd h List.not_mem_nil⟩⟩⟩⟩⟩⟩⟩⟩⟩⟩⟩⟩⟩⟩⟩
set_option maxRecDepth 100000 in
theorem jf_mi10 : ∀ q ∈ jm_mpl 10, q.2.1 < 10 → q.2.2 ∈ jm_mll q.2.2.2.2.2.2.2.1 ∧ jm_kok q.2.1 q.2.2 = true := List.forall_mem_cons.mpr ⟨fun _ => ⟨List.mem_of_getElem? (i := 0) rfl, by decide⟩, fun _ h => absurd h List.not_mem_nil⟩
set_option maxRecDepth 100000 in
theorem jf_mi11 : ∀ q ∈ jm_mpl 11, q.2.1 < 10 → q.2.2 ∈ jm_mll q.2.2.2.2.2.2.2.1 ∧ jm_kok q.2.1 q.2.2 = true := List.forall_mem_cons.mpr ⟨fun q => absurd q (by decide), List.forall_mem_cons.mpr ⟨fun _ => ⟨List.mem_of_getElem? (i := 9) rfl, by decide⟩, List.forall_mem_cons.mpr ⟨fun _ => ⟨List.mem_of_getElem? (i := 10) rfl, by decide⟩, List.forall_mem_cons.mpr ⟨fun _ => ⟨List.mem_of_getElem? (i := 1) rfl, by decide⟩, List.forall_mem_cons.mpr ⟨fun _ => ⟨List.mem_of_getElem? (i := 3) rfl, by decide⟩, List.forall_mem_cons.mpr ⟨fun _ => ⟨List.mem_of_getElem? (i := 7) rfl, by decide⟩, List.forall_mem_cons.mpr ⟨fun _ => ⟨List.mem_of_getElem? (i := 2) rfl, by decide⟩, List.forall_mem_cons.mpr ⟨fun _ => ⟨List.mem_of_getElem? (i := 3) rfl, by decide⟩, List.forall_mem_cons.mpr ⟨fun _ => ⟨List.mem_of_getElem? (i := 3) rfl, by decide⟩, List.forall_mem_cons.mpr ⟨fun _ => ⟨List.mem_of_getElem? (i := 1) rfl, by decide⟩, List.forall_mem_cons.mpr ⟨fun _ => ⟨List.mem_of_getElem? (i := 11) rfl, by decide⟩, List.forall_mem_cons.mpr ⟨fun _ => ⟨List.mem_of_getElem? (i := 6) rfl, by decide⟩, List.forall_mem_cons.mpr ⟨fun _ => ⟨List.mem_of_getElem? (i := 1) rfl, by decide⟩, List.forall_mem_cons.mpr ⟨fun _ => ⟨List.mem_of_getElem? (i := 2) rfl, by decide⟩, List.forall_mem_cons.mpr ⟨fun _ => ⟨List.mem_of_getElem? (i := 9) rfl, by decide⟩, List.forall_mem_cons.mpr ⟨fun _ => ⟨List.mem_of_getElem? (i := 10) rfl, by decide⟩, List.forall_mem_cons.mpr ⟨fun _ => ⟨List.mem_of_getElem? (i := 0) rfl, by decide⟩, List.forall_mem_cons.mpr ⟨fun _ => ⟨List.mem_of_getElem? (i := 25) rfl, by decide⟩, List.forall_mem_cons.mpr ⟨fun _ => ⟨List.mem_of_getElem? (i := 4) rfl, by decide⟩, List.forall_mem_cons.mpr ⟨fun _ => ⟨List.mem_of_getElem? (i := 16) rfl, by decide⟩, List.forall_mem_cons.mpr ⟨fun _ => ⟨List.mem_of_getElem? (i := 0) rfl, by decide⟩, List.forall_mem_cons.mpr ⟨fun _ => ⟨List.mem_of_getElem? (i := 5) rfl, by decide⟩, List.forall_mem_cons.mpr ⟨fun _ => ⟨List.mem_of_getElem? (i := 5) rfl, by decide⟩, List.forall_mem_cons.mpr ⟨fun _ => ⟨List.mem_of_getElem? (i := 10) rfl, by decide⟩, List.forall_mem_cons.mpr ⟨fun _ => ⟨List.mem_of_getElem? (i := 19) rfl, by decide⟩, List.forall_mem_cons.mpr ⟨fun _ => ⟨List.mem_of_getElem? (i := 2) rfl, by decide⟩, List.forall_mem_cons.mpr ⟨fun _ => ⟨List.mem_of_getElem? (i := 8) rfl, by decide⟩, List.forall_mem_cons.mpr ⟨fun _ => ⟨List.mem_of_getElem? (i := 2) rfl, by decide⟩, List.forall_mem_cons.mpr ⟨fun _ => ⟨List.mem_of_getElem? (i := 0) rfl, by decide⟩, List.forall_mem_cons.mpr ⟨fun _ => ⟨List.mem_of_getElem? (i := 23) rfl, by decide⟩, List.forall_mem_cons.mpr ⟨fun _ => ⟨List.mem_of_getElem? (i := 11) rfl, by decide⟩, List.forall_mem_cons.mpr ⟨fun _ => ⟨List.mem_of_getElem? (i := 11) rfl, by decide⟩, List.forall_mem_cons.mpr ⟨fun _ => ⟨List.mem_of_getElem? (i := 14) rfl, by decide⟩, List.forall_mem_cons.mpr ⟨fun _ => ⟨List.mem_of_getElem? (i := 9) rfl, by decide⟩, List.forall_mem_cons.mpr ⟨fun _ => ⟨List.mem_of_getElem? (i := 7) rfl, by decide⟩, List.forall_mem_cons.mpr ⟨fun _ => ⟨List.mem_of_getElem? (i := 2) rfl, by decide⟩, List.forall_mem_cons.mpr ⟨fun _ => ⟨List.mem_of_getElem? (i := 4) rfl, by decide⟩, List.forall_mem_cons.mpr ⟨fun _ => ⟨List.mem_of_getElem? (i := 5) rfl, by decide⟩, List.forall_mem_cons.mpr ⟨fun _ => ⟨List.mem_of_getElem? (i := 12) rfl, by decide⟩, List.forall_mem_cons.mpr ⟨fun _ => ⟨List.mem_of_getElem? (i := 13) rfl, by decide⟩, List.forall_mem_cons.mpr ⟨fun _ => ⟨List.mem_of_getElem? (i := 8) rfl, by decide⟩, List.forall_mem_cons.mpr ⟨fun _ => ⟨List.mem_of_getElem? (i := 4) rfl, by decide⟩, List.forall_mem_cons.mpr ⟨fun _ => ⟨List.mem_of_getElem? (i := 37) rfl, by decide⟩, List.forall_mem_cons.mpr ⟨fun _ => ⟨List.mem_of_getElem? (i := 24) rfl, by decide⟩, List.forall_mem_cons.mpr ⟨fun _ => ⟨List.mem_of_getElem? (i := 0) rfl, by decide⟩, List.forall_mem_cons.mpr ⟨fun _ => ⟨List.mem_of_getElem? (i := 27) rfl, by decide⟩, List.forall_mem_cons.mpr ⟨fun _ => ⟨List.mem_of_getElem? (i := 23) rfl, by decide⟩, List.forall_mem_cons.mpr ⟨fun _ => ⟨List.mem_of_getElem? (i := 10) rfl, by decide⟩, List.forall_mem_cons.mpr ⟨fun _ => ⟨List.mem_of_getElem? (i := 24) rfl, by decide⟩, List.forall_mem_cons.mpr ⟨fun _ => ⟨List.mem_of_getElem? (i := 38) rfl, by decide⟩, List.forall_mem_cons.mpr ⟨fun _ => ⟨List.mem_of_getElem? (i := 42) rfl, by decide⟩, List.forall_mem_cons.mpr ⟨fun _ => ⟨List.mem_of_getElem? (i := 33) rfl, by decide⟩, List.forall_mem_cons.mpr ⟨fun _ => ⟨List.mem_of_getElem? (i := 19) rfl, by decide⟩, List.forall_mem_cons.mpr ⟨fun _ => ⟨List.mem_of_getElem? (i := 30) rfl, by decide⟩, List.forall_mem_cons.mpr ⟨fun _ => ⟨List.mem_of_getElem? (i := 21) rfl, by decide⟩, List.forall_mem_cons.mpr ⟨fun _ => ⟨List.mem_of_getElem? (i := 35) rfl, by decide⟩, List.forall_mem_cons.mpr ⟨fun _ => ⟨List.mem_of_getElem? (i := 16) rfl, by decide⟩, List.forall_mem_cons.mpr ⟨fun _ => ⟨List.mem_of_getElem? (i := 15) rfl, by decide⟩, List.forall_mem_cons.mpr ⟨fun _ => ⟨List.mem_of_getElem? (i := 40) rfl, by decide⟩, List.forall_mem_cons.mpr ⟨fun _ => ⟨List.mem_of_getElem? (i := 34) rfl, by decide⟩, fun _ h => absurd h List.not_mem_nil⟩⟩⟩⟩⟩⟩⟩⟩⟩⟩⟩⟩⟩⟩⟩⟩⟩⟩⟩⟩⟩⟩⟩⟩⟩⟩⟩⟩⟩⟩⟩⟩⟩⟩⟩⟩⟩⟩⟩⟩⟩⟩⟩⟩⟩⟩⟩⟩⟩⟩⟩⟩⟩⟩⟩⟩⟩⟩⟩⟩
set_option maxRecDepth 100000 in
theorem jf_mi12 : ∀ q ∈ jm_mpl 12, q.2.1 < 10 → q.2.2 ∈ jm_mll q.2.2.2.2.2.2.2.1 ∧ jm_kok q.2.1 q.2.2 = true := List.forall_mem_cons.mpr ⟨fun q => absurd q (by decide), fun _ h => absurd h List.not_mem_nil⟩
set_option maxRecDepth 100000 in
theorem jf_mi13 : ∀ q ∈ jm_mpl 13, q.2.1 < 10 → q.2.2 ∈ jm_mll q.2.2.2.2.2.2.2.1 ∧ jm_kok q.2.1 q.2.2 = true := List.forall_mem_cons.mpr ⟨fun q => absurd q (by decide), List.forall_mem_cons.mpr ⟨fun _ => ⟨List.mem_of_getElem? (i := 0) rfl, by decide⟩, List.forall_mem_cons.mpr ⟨fun _ => ⟨List.mem_of_getElem? (i := 45) rfl, by decide⟩, List.forall_mem_cons.mpr ⟨fun _ => ⟨List.mem_of_getElem? (i := 19) rfl, by decide⟩, List.forall_mem_cons.mpr ⟨fun _ => ⟨List.mem_of_getElem? (i := 87) rfl, by decide⟩, List.forall_mem_cons.mpr ⟨fun _ => ⟨List.mem_of_getElem? (i := 71) rfl, by decide⟩, List.forall_mem_cons.mpr ⟨fun _ => ⟨List.mem_of_getElem? (i := 78) rfl, by decide⟩, List.forall_mem_cons.mpr ⟨fun _ => ⟨List.mem_of_getElem? (i := 105) rfl, by decide⟩, List.forall_mem_cons.mpr ⟨fun _ => ⟨List.mem_of_getElem? (i := 130) rfl, by decide⟩, List.forall_mem_cons.mpr ⟨fun _ => ⟨List.mem_of_getElem? (i := 48) rfl, by decide⟩, List.forall_mem_cons.mpr ⟨fun _ => ⟨List.mem_of_getElem? (i := 52) rfl, by decide⟩, List.forall_mem_cons.mpr ⟨fun _ => ⟨List.mem_of_getElem? (i := 34) rfl, by decide⟩, List.forall_mem_cons.mpr ⟨fun _ => ⟨List.mem_of_getElem? (i := 94) rfl, by decide⟩, List.forall_mem_cons.mpr ⟨fun _ => ⟨List.mem_of_getElem? (i := 95) rfl, by decide⟩, List.forall_mem_cons.mpr ⟨fun q => absurd q (by decide), List.forall_mem_cons.mpr ⟨fun _ => ⟨List.mem_of_getElem? (i := 0) rfl, by decide⟩, List.forall_mem_cons.mpr ⟨fun _ => ⟨List.mem_of_getElem? (i := 116) rfl, by decide⟩, List.forall_mem_cons.mpr ⟨fun _ => ⟨List.mem_of_getElem? (i := 101) rfl, by decide⟩, List.forall_mem_cons.mpr ⟨fun _ => ⟨List.mem_of_getElem? (i := 37) rfl, by decide⟩, List.forall_mem_cons.mpr ⟨fun _ => ⟨List.mem_of_getElem? (i := 118) rfl, by decide⟩, List.forall_mem_cons.mpr ⟨fun _ => ⟨List.mem_of_getElem? (i := 127) rfl, by decide⟩, List.forall_mem_cons.mpr ⟨fun _ => ⟨List.mem_of_getElem? (i := 128) rfl, by decide⟩, List.forall_mem_cons.mpr ⟨fun _ => ⟨List.mem_of_getElem? (i := 11) rfl, by decide⟩, List.forall_mem_cons.mpr ⟨fun _ => ⟨List.mem_of_getElem? (i := 77) rfl, by decide⟩, List.forall_mem_cons.mpr ⟨fun _ => ⟨List.mem_of_getElem? (i := 6) rfl, by decide⟩, List.forall_mem_cons.mpr ⟨fun _ => ⟨List.mem_of_getElem? (i := 0) rfl, by decide⟩, List.forall_mem_cons.mpr ⟨fun _ => ⟨List.mem_of_getElem? (i := 70) rfl, by decide⟩, List.forall_mem_cons.mpr ⟨fun _ => ⟨List.mem_of_getElem? (i := 73) rfl, by decide⟩, List.forall_mem_cons.mpr ⟨fun _ => ⟨List.mem_of_getElem? (i := 31) rfl, by decide⟩, List.forall_mem_cons.mpr ⟨fun _ => ⟨List.mem_of_getElem? (i := 98) rfl, by decide⟩, List.forall_mem_cons.mpr ⟨fun q => absurd q (by decide), List.forall_mem_cons.mpr ⟨fun q => absurd q (by decide), List.forall_mem_cons.mpr ⟨fun _ => ⟨List.mem_of_getElem? (i := 85) rfl, by decide⟩, List.forall_mem_cons.mpr ⟨fun _ => ⟨List.mem_of_getElem? (i := 39) rfl, by decide⟩, List.forall_mem_cons.mpr ⟨fun _ => ⟨List.mem_of_getElem? (i := 3) rfl, by decide⟩, List.forall_mem_cons.mpr ⟨fun _ => ⟨List.mem_of_getElem? (i := 93) rfl, by decide⟩, List.forall_mem_cons.mpr ⟨fun _ => ⟨List.mem_of_getElem? (i := 35) rfl, by decide⟩, List.forall_mem_cons.mpr ⟨fun _ => ⟨List.mem_of_getElem? (i := 7) rfl, by decide⟩, List.forall_mem_cons.mpr ⟨fun _ => ⟨List.mem_of_getElem? (i := 117) rfl, by decide⟩, List.forall_mem_cons.mpr ⟨fun _ => ⟨List.mem_of_getElem? (i := 91) rfl, by decide⟩, List.forall_mem_cons.mpr ⟨fun _ => ⟨List.mem_of_getElem? (i := 9) rfl, by decide⟩, List.forall_mem_cons.mpr ⟨fun _ => ⟨List.mem_of_getElem? (i := 111) rfl, by decide⟩, List.forall_mem_cons.mpr ⟨fun _ => ⟨List.mem_of_getElem? (i := 53) rfl, by decide⟩, List.forall_mem_cons.mpr ⟨fun _ => ⟨List.mem_of_getElem? (i := 115) rfl, by decide⟩, List.forall_mem_cons.mpr ⟨fun _ => ⟨List.mem_of_getElem? (i := 10) rfl, by decide⟩, List.forall_mem_cons.mpr ⟨fun _ => ⟨List.mem_of_getElem? (i := 110) rfl, by decide⟩, List.forall_mem_cons.mpr ⟨fun _ => ⟨List.mem_of_getElem? (i := 6) rfl, by decide⟩, List.forall_mem_cons.mpr ⟨fun _ => ⟨List.mem_of_getElem? (i := 60) rfl, by decide⟩, List.forall_mem_cons.mpr ⟨fun _ => ⟨List.mem_of_getElem? (i := 43) rfl, by decide⟩, List.forall_mem_cons.mpr ⟨fun _ => ⟨List.mem_of_getElem? (i := 83) rfl, by decide⟩, List.forall_mem_cons.mpr ⟨fun _ => ⟨List.mem_of_getElem? (i := 126) rfl, by decide⟩, List.forall_mem_cons.mpr ⟨fun _ => ⟨List.mem_of_getElem? (i := 20) rfl, by decide⟩, List.forall_mem_cons.mpr ⟨fun _ => ⟨List.mem_of_getElem? (i := 67) rfl, by decide⟩, List.forall_mem_cons.mpr ⟨fun _ => ⟨List.mem_of_getElem? (i := 18) rfl, by decide⟩, List.forall_mem_cons.mpr ⟨fun _ => ⟨List.mem_of_getElem? (i := 47) rfl, by decide⟩, List.forall_mem_cons.mpr ⟨fun _ => ⟨List.mem_of_getElem? (i := 58) rfl, by decide⟩, List.forall_mem_cons.mpr ⟨fun _ => ⟨List.mem_of_getElem? (i := 76) rfl, by decide⟩, List.forall_mem_cons.mpr ⟨fun _ => ⟨List.mem_of_getElem? (i := 14) rfl, by decide⟩, List.forall_mem_cons.mpr ⟨fun _ => ⟨List.mem_of_getElem? (i := 54) rfl, by decide⟩, List.forall_mem_cons.mpr ⟨fun _ => ⟨List.mem_of_getElem? (i := 12) rfl, by decide⟩, List.forall_mem_cons.mpr ⟨fun _ => ⟨List.mem_of_getElem? (i := 41) rfl, by decide⟩, List.forall_mem_cons.mpr ⟨fun _ => ⟨List.mem_of_getElem? (i := 86) rfl, by decide⟩, List.forall_mem_cons.mpr ⟨fun _ => ⟨List.mem_of_getElem? (i := 59) rfl, by decide⟩, List.forall_mem_cons.mpr ⟨fun _ => ⟨List.mem_of_getElem? (i := 62) rfl, by decide⟩, List.forall_mem_cons.mpr ⟨fun _ => ⟨List.mem_of_getElem? (i := 42) rfl, by decide⟩, List.forall_mem_cons.mpr ⟨fun _ => ⟨List.mem_of_getElem? (i := 61) rfl, by decide⟩, List.forall_mem_cons.mpr ⟨fun _ => ⟨List.mem_of_getElem? (i := 56) rfl, by decide⟩, List.forall_mem_cons.mpr ⟨fun _ => ⟨List.mem_of_getElem? (i := 64) rfl, by decide⟩, List.forall_mem_cons.mpr ⟨fun _ => ⟨List.mem_of_getElem? (i := 51) rfl, by decide⟩, List.forall_mem_cons.mpr ⟨fun _ => ⟨List.mem_of_getElem? (i := 50) rfl, by decide⟩, List.forall_mem_cons.mpr ⟨fun _ => ⟨List.mem_of_getElem? (i := 46) rfl, by decide⟩, List.forall_mem_cons.mpr ⟨fun _ => ⟨List.mem_of_getElem? (i := 30) rfl, by decide⟩, List.forall_mem_cons.mpr ⟨fun _ => ⟨List.mem_of_getElem? (i := 63) rfl, by decide⟩, List.forall_mem_cons.mpr ⟨fun _ => ⟨List.mem_of_getElem? (i := 65) rfl, by decide⟩, List.forall_mem_cons.mpr ⟨fun _ => ⟨List.mem_of_getElem? (i := 121) rfl, by decide⟩, List.forall_mem_cons.mpr ⟨fun _ => ⟨List.mem_of_getElem? (i := 107) rfl, by decide⟩, List.forall_mem_cons.mpr ⟨fun _ => ⟨List.mem_of_getElem? (i := 68) rfl, by decide⟩, List.forall_mem_cons.mpr ⟨fun _ => ⟨List.mem_of_getElem? (i := 89) rfl, by decide⟩, List.forall_mem_cons.mpr ⟨fun _ => ⟨List.mem_of_getElem? (i := 13) rfl, by decide⟩, List.forall_mem_cons.mpr ⟨fun _ => ⟨List.mem_of_getElem? (i := 40) rfl, by decide⟩, List.forall_mem_cons.mpr ⟨fun _ => ⟨List.mem_of_getElem? (i := 24) rfl, by decide⟩, List.forall_mem_cons.mpr ⟨fun _ => ⟨List.mem_of_getElem? (i := 102) rfl, by decide⟩, List.forall_mem_cons.mpr ⟨fun _ => ⟨List.mem_of_getElem? (i := 80) rfl, by decide⟩, List.forall_mem_cons.mpr ⟨fun _ => ⟨List.mem_of_getElem? (i := 92) rfl, by decide⟩, List.forall_mem_cons.mpr ⟨fun _ => ⟨List.mem_of_getElem? (i := 84) rfl, by decide⟩, List.forall_mem_cons.mpr ⟨fun _ => ⟨List.mem_of_getElem? (i := 55) rfl, by decide⟩, List.forall_mem_cons.mpr ⟨fun _ => ⟨List.mem_of_getElem? (i := 100) rfl, by decide⟩, List.forall_mem_cons.mpr ⟨fun _ => ⟨List.mem_of_getElem? (i := 1) rfl, by decide⟩, List.forall_mem_cons.mpr ⟨fun _ => ⟨List.mem_of_getElem? (i := 108) rfl, by decide⟩, List.forall_mem_cons.mpr ⟨fun _ => ⟨List.mem_of_getElem? (i := 49) rfl, by decide⟩, List.forall_mem_cons.mpr ⟨fun _ => ⟨List.mem_of_getElem? (i := 123) rfl, by decide⟩, List.forall_mem_cons.mpr ⟨fun _ => ⟨List.mem_of_getElem? (i := 129) rfl, by decide⟩, List.forall_mem_cons.mpr ⟨fun _ => ⟨List.mem_of_getElem? (i := 2) rfl, by decide⟩, List.forall_mem_cons.mpr ⟨fun _ => ⟨List.mem_of_getElem? (i := 25) rfl, by decide⟩, List.forall_mem_cons.mpr ⟨fun _ => ⟨List.mem_of_getElem? (i := 113) rfl, by decide⟩, List.forall_mem_cons.mpr ⟨fun _ => ⟨List.mem_of_getElem? (i := 22) rfl, by decide⟩, List.forall_mem_cons.mpr ⟨fun _ => ⟨List.mem_of_getElem? (i := 66) rfl, by decide⟩, List.forall_mem_cons.mpr ⟨fun _ => ⟨List.mem_of_getElem? (i := 5) rfl, by decide⟩, List.forall_mem_cons.mpr ⟨fun _ => ⟨List.mem_of_getElem? (i := 27) rfl, by decide⟩, List.forall_mem_cons.mpr ⟨fun _ => ⟨List.mem_of_getElem? (i := 32) rfl, by decide⟩, List.forall_mem_cons.mpr ⟨fun _ => ⟨List.mem_of_getElem? (i := 16) rfl, by decide⟩, fun _ h => absurd h List.not_mem_nil⟩⟩⟩⟩⟩⟩⟩⟩⟩⟩⟩⟩⟩⟩⟩⟩⟩⟩⟩⟩⟩⟩⟩⟩⟩⟩⟩⟩⟩⟩⟩⟩⟩⟩⟩⟩⟩⟩⟩⟩⟩⟩⟩⟩⟩⟩⟩⟩⟩⟩⟩⟩⟩⟩⟩⟩⟩⟩⟩⟩⟩⟩⟩⟩⟩⟩⟩⟩⟩⟩⟩⟩⟩⟩⟩⟩⟩⟩⟩⟩⟩⟩⟩⟩⟩⟩⟩⟩⟩⟩⟩⟩⟩⟩⟩⟩⟩⟩⟩⟩⟩
set_option maxRecDepth 100000 in
theorem jf_mi14 : ∀ q ∈ jm_mpl 14, q.2.1 < 10 → q.2.2 ∈ jm_mll q.2.2.2.2.2.2.2.1 ∧ jm_kok q.2.1 q.2.2 = true := List.forall_mem_cons.mpr ⟨fun _ => ⟨List.mem_of_getElem? (i := 2) rfl, by decide⟩, List.forall_mem_cons.mpr ⟨fun _ => ⟨List.mem_of_getElem? (i := 5) rfl, by decide⟩, List.forall_mem_cons.mpr ⟨fun _ => ⟨List.mem_of_getElem? (i := 1) rfl, by decide⟩, List.forall_mem_cons.mpr ⟨fun _ => ⟨List.mem_of_getElem? (i := 6) rfl, by decide⟩, List.forall_mem_cons.mpr ⟨fun _ => ⟨List.mem_of_getElem? (i := 4) rfl, by decide⟩, List.forall_mem_cons.mpr ⟨fun _ => ⟨List.mem_of_getElem? (i := 3) rfl, by decide⟩, List.forall_mem_cons.mpr ⟨fun _ => ⟨List.mem_of_getElem? (i := 0) rfl, by decide⟩, fun _ h => absurd h List.not_mem_nil⟩⟩⟩⟩⟩⟩⟩
set_option maxRecDepth 100000 in
theorem jf_mi15 : ∀ q ∈ jm_mpl 15, q.2.1 < 10 → q.2.2 ∈ jm_mll q.2.2.2.2.2.2.2.1 ∧ jm_kok q.2.1 q.2.2 = true := List.forall_mem_cons.mpr ⟨fun _ => ⟨List.mem_of_getElem? (i := 1) rfl, by decide⟩, List.forall_mem_cons.mpr ⟨fun q => absurd q (by decide), List.forall_mem_cons.mpr ⟨fun _ => ⟨List.mem_of_getElem? (i := 0) rfl, by decide⟩, List.forall_mem_cons.mpr ⟨fun q => absurd q (by decide), List.forall_mem_cons.mpr ⟨fun _ => ⟨List.mem_of_getElem? (i := 2) rfl, by decide⟩, fun _ h => absurd h List.not_mem_nil⟩⟩⟩⟩⟩
set_option maxRecDepth 100000 in
theorem jf_mi22 : ∀ q ∈ jm_mpl 22, q.2.1 < 10 → q.2.2 ∈ jm_mll q.2.2.2.2.2.2.2.1 ∧ jm_kok q.2.1 q.2.2 = true := List.forall_mem_cons.mpr ⟨fun _ => ⟨List.mem_of_getElem? (i := 12) rfl, by decide⟩, List.forall_mem_cons.mpr ⟨fun _ => ⟨List.mem_of_getElem? (i := 41) rfl, by decide⟩, List.forall_mem_cons.mpr ⟨fun _ => ⟨List.mem_of_getElem? (i := 33) rfl, by decide⟩, List.forall_mem_cons.mpr ⟨fun _ => ⟨List.mem_of_getElem? (i := 19) rfl, by decide⟩, List.forall_mem_cons.mpr ⟨fun _ => ⟨List.mem_of_getElem? (i := 30) rfl, by decide⟩, List.forall_mem_cons.mpr ⟨fun _ => ⟨List.mem_of_getElem? (i := 21) rfl, by decide⟩, List.forall_mem_cons.mpr ⟨fun _ => ⟨List.mem_of_getElem? (i := 34) rfl, by decide⟩, List.forall_mem_cons.mpr ⟨fun _ => ⟨List.mem_of_getElem? (i := 35) rfl, by decide⟩, List.forall_mem_cons.mpr ⟨fun _ => ⟨List.mem_of_getElem? (i := 16) rfl, by decide⟩, List.forall_mem_cons.mpr ⟨fun _ => ⟨List.mem_of_getElem? (i := 3) rfl, by decide⟩, List.forall_mem_cons.mpr ⟨fun _ => ⟨List.mem_of_getElem? (i := 40) rfl, by decide⟩, List.forall_mem_cons.mpr ⟨fun _ => ⟨List.mem_of_getElem? (i := 18) rfl, by decide⟩, List.forall_mem_cons.mpr ⟨fun _ => ⟨List.mem_of_getElem? (i := 22) rfl, by decide⟩, List.forall_mem_cons.mpr ⟨fun _ => ⟨List.mem_of_getElem? (i := 28) rfl, by decide⟩, List.forall_mem_cons.mpr ⟨fun _ => ⟨List.mem_of_getElem? (i := 17) rfl, by decide⟩, List.forall_mem_cons.mpr ⟨fun _ => ⟨List.mem_of_getElem? (i := 15) rfl, by decide⟩, List.forall_mem_cons.mpr ⟨fun _ => ⟨List.mem_of_getElem? (i := 7) rfl, by decide⟩, List.forall_mem_cons.mpr ⟨fun _ => ⟨List.mem_of_getElem? (i := 13) rfl, by decide⟩, List.forall_mem_cons.mpr ⟨fun _ => ⟨List.mem_of_getElem? (i := 29) rfl, by decide⟩, List.forall_mem_cons.mpr ⟨fun _ => ⟨List.mem_of_getElem? (i := 26) rfl, by decide⟩, List.forall_mem_cons.mpr ⟨fun _ => ⟨List.mem_of_getElem? (i := 36) rfl, by decide⟩, List.forall_mem_cons.mpr ⟨fun _ => ⟨List.mem_of_getElem? (i := 32) rfl, by decide⟩, List.forall_mem_cons.mpr ⟨fun _ => ⟨List.mem_of_getElem? (i := 8) rfl, by decide⟩, List.forall_mem_cons.mpr ⟨fun _ => ⟨List.mem_of_getElem? (i := 31) rfl, by decide⟩, List.forall_mem_cons.mpr ⟨fun _ => ⟨List.mem_of_getElem? (i := 11) rfl, by decide⟩, List.forall_mem_cons.mpr ⟨fun _ => ⟨List.mem_of_getElem? (i := 2) rfl, by decide⟩, List.forall_mem_cons.mpr ⟨fun _ => ⟨List.mem_of_getElem? (i := 14) rfl, by decide⟩, List.forall_mem_cons.mpr ⟨fun _ => ⟨List.mem_of_getElem? (i := 36) rfl, by decide⟩, List.forall_mem_cons.mpr ⟨fun _ => ⟨List.mem_of_getElem? (i := 5) rfl, by decide⟩, List.forall_mem_cons.mpr ⟨fun _ => ⟨List.mem_of_getElem? (i := 29) rfl, by decide⟩, List.forall_mem_cons.mpr ⟨fun _ => ⟨List.mem_of_getElem? (i := 124) rfl, by decide⟩, List.forall_mem_cons.mpr ⟨fun _ => ⟨List.mem_of_getElem? (i := 25) rfl, by decide⟩, List.forall_mem_cons.mpr ⟨fun _ => ⟨List.mem_of_getElem? (i := 125) rfl, by decide⟩, List.forall_mem_cons.mpr ⟨fun _ => ⟨List.mem_of_getElem? (i := 39) rfl, by decide⟩, List.forall_mem_cons.mpr ⟨fun _ => ⟨List.mem_of_getElem? (i := 120) rfl, by decide⟩, List.forall_mem_cons.mpr ⟨fun _ => ⟨List.mem_of_getElem? (i := 9) rfl, by decide⟩, List.forall_mem_cons.mpr ⟨fun _ => ⟨List.mem_of_getElem? (i := 23) rfl, by decide⟩, List.forall_mem_cons.mpr ⟨fun _ => ⟨List.mem_of_getElem? (i := 0) rfl, by decide⟩, List.forall_mem_cons.mpr ⟨fun _ => ⟨List.mem_of_getElem? (i := 0) rfl, by decide⟩, List.forall_mem_cons.mpr ⟨fun _ => ⟨List.mem_of_getElem? (i := 27) rfl, by decide⟩, List.forall_mem_cons.mpr ⟨fun _ => ⟨List.mem_of_getElem? (i := 90) rfl, by decide⟩, List.forall_mem_cons.mpr ⟨fun _ => ⟨List.mem_of_getElem? (i := 23) rfl, by decide⟩, List.forall_mem_cons.mpr ⟨fun _ => ⟨List.mem_of_getElem? (i := 81) rfl, by decide⟩, List.forall_mem_cons.mpr ⟨fun _ => ⟨List.mem_of_getElem? (i := 10) rfl, by decide⟩, List.forall_mem_cons.mpr ⟨fun _ => ⟨List.mem_of_getElem? (i := 26) rfl, by decide⟩, List.forall_mem_cons.mpr ⟨fun _ => ⟨List.mem_of_getElem? (i := 24) rfl, by decide⟩, List.forall_mem_cons.mpr ⟨fun _ => ⟨List.mem_of_getElem? (i := 82) rfl, by decide⟩, List.forall_mem_cons.mpr ⟨fun _ => ⟨List.mem_of_getElem? (i := 38) rfl, by decide⟩, List.forall_mem_cons.mpr ⟨fun _ => ⟨List.mem_of_getElem? (i := 119) rfl, by decide⟩, List.forall_mem_cons.mpr ⟨fun _ => ⟨List.mem_of_getElem? (i := 20) rfl, by decide⟩, List.forall_mem_cons.mpr ⟨fun _ => ⟨List.mem_of_getElem? (i := 106) rfl, by decide⟩, List.forall_mem_cons.mpr ⟨fun _ => ⟨List.mem_of_getElem? (i := 11) rfl, by decide⟩, List.forall_mem_cons.mpr ⟨fun _ => ⟨List.mem_of_getElem? (i := 72) rfl, by decide⟩, List.forall_mem_cons.mpr ⟨fun _ => ⟨List.mem_of_getElem? (i := 17) rfl, by decide⟩, List.forall_mem_cons.mpr ⟨fun _ => ⟨List.mem_of_getElem? (i := 99) rfl, by decide⟩, List.forall_mem_cons.mpr ⟨fun _ => ⟨List.mem_of_getElem? (i := 12) rfl, by decide⟩, List.forall_mem_cons.mpr ⟨fun _ => ⟨List.mem_of_getElem? (i := 75) rfl, by decide⟩, List.forall_mem_cons.mpr ⟨fun _ => ⟨List.mem_of_getElem? (i := 21) rfl, by decide⟩, List.forall_mem_cons.mpr ⟨fun _ => ⟨List.mem_of_getElem? (i := 109) rfl, by decide⟩, List.forall_mem_cons.mpr ⟨fun _ => ⟨List.mem_of_getElem? (i := 22) rfl, by decide⟩, List.forall_mem_cons.mpr ⟨fun _ => ⟨List.mem_of_getElem? (i := 112) rfl, by decide⟩, List.forall_mem_cons.mpr ⟨fun _ => ⟨List.mem_of_getElem? (i := 8) rfl, by decide⟩, List.forall_mem_cons.mpr ⟨fun _ => ⟨List.mem_of_getElem? (i := 44) rfl, by decide⟩, List.forall_mem_cons.mpr ⟨fun _ => ⟨List.mem_of_getElem? (i := 1) rfl, by decide⟩, List.forall_mem_cons.mpr ⟨fun _ => ⟨List.mem_of_getElem? (i := 8) rfl, by decide⟩, List.forall_mem_cons.mpr ⟨fun _ => ⟨List.mem_of_getElem? (i := 24) rfl, by decide⟩, List.forall_mem_cons.mpr ⟨fun _ => ⟨List.mem_of_getElem? (i := 122) rfl, by decide⟩, List.forall_mem_cons.mpr ⟨fun _ => ⟨List.mem_of_getElem? (i := 10) rfl, by decide⟩, List.forall_mem_cons.mpr ⟨fun _ => ⟨List.mem_of_getElem? (i := 69) rfl, by decide⟩, List.forall_mem_cons.mpr ⟨fun _ => ⟨List.mem_of_getElem? (i := 13) rfl, by decide⟩, List.forall_mem_cons.mpr ⟨fun _ => ⟨List.mem_of_getElem? (i := 79) rfl, by decide⟩, List.forall_mem_cons.mpr ⟨fun _ => ⟨List.mem_of_getElem? (i := 15) rfl, by decide⟩, List.forall_mem_cons.mpr ⟨fun _ => ⟨List.mem_of_getElem? (i := 96) rfl, by decide⟩, List.forall_mem_cons.mpr ⟨fun _ => ⟨List.mem_of_getElem? (i := 9) rfl, by decide⟩, List.forall_mem_cons.mpr ⟨fun _ => ⟨List.mem_of_getElem? (i := 57) rfl, by decide⟩, List.forall_mem_cons.mpr ⟨fun _ => ⟨List.mem_of_getElem? (i := 7) rfl, by decide⟩, List.forall_mem_cons.mpr ⟨fun _ => ⟨List.mem_of_getElem? (i := 38) rfl, by decide⟩, List.forall_mem_cons.mpr ⟨fun _ => ⟨List.mem_of_getElem? (i := 2) rfl, by decide⟩, List.forall_mem_cons.mpr ⟨fun _ => ⟨List.mem_of_getElem? (i := 17) rfl, by decide⟩, List.forall_mem_cons.mpr ⟨fun _ => ⟨List.mem_of_getElem? (i := 6) rfl, by decide⟩, List.forall_mem_cons.mpr ⟨fun _ => ⟨List.mem_of_getElem? (i := 33) rfl, by decide⟩, List.forall_mem_cons.mpr ⟨fun _ => ⟨List.mem_of_getElem? (i := 16) rfl, by decide⟩, List.forall_mem_cons.mpr ⟨fun _ => ⟨List.mem_of_getElem? (i := 97) rfl, by decide⟩, List.forall_mem_cons.mpr ⟨fun _ => ⟨List.mem_of_getElem? (i := 14) rfl, by decide⟩, List.forall_mem_cons.mpr ⟨fun _ => ⟨List.mem_of_getElem? (i := 88) rfl, by decide⟩, List.forall_mem_cons.mpr ⟨fun _ => ⟨List.mem_of_getElem? (i := 23) rfl, by decide⟩, List.forall_mem_cons.mpr ⟨fun _ => ⟨List.mem_of_getElem? (i := 114) rfl, by decide⟩, List.forall_mem_cons.mpr ⟨fun _ => ⟨List.mem_of_getElem? (i := 19) rfl, by decide⟩, List.forall_mem_cons.mpr ⟨fun _ => ⟨List.mem_of_getElem? (i := 104) rfl, by decide⟩, List.forall_mem_cons.mpr ⟨fun _ => ⟨List.mem_of_getElem? (i := 3) rfl, by decide⟩, List.forall_mem_cons.mpr ⟨fun _ => ⟨List.mem_of_getElem? (i := 21) rfl, by decide⟩, List.forall_mem_cons.mpr ⟨fun _ => ⟨List.mem_of_getElem? (i := 18) rfl, by decide⟩, List.forall_mem_cons.mpr ⟨fun _ => ⟨List.mem_of_getElem? (i := 103) rfl, by decide⟩, List.forall_mem_cons.mpr ⟨fun _ => ⟨List.mem_of_getElem? (i := 4) rfl, by decide⟩, List.forall_mem_cons.mpr ⟨fun _ => ⟨List.mem_of_getElem? (i := 28) rfl, by decide⟩, List.forall_mem_cons.mpr ⟨fun _ => ⟨List.mem_of_getElem? (i := 0) rfl, by decide⟩, List.forall_mem_cons.mpr ⟨fun _ => ⟨List.mem_of_getElem? (i := 4) rfl, by decide⟩, List.forall_mem_cons.mpr ⟨fun _ => ⟨List.mem_of_getElem? (i := 20) rfl, by decide⟩, List.forall_mem_cons.mpr ⟨fun _ => ⟨List.mem_of_getElem? (i := 74) rfl, by decide⟩, List.forall_mem_cons.mpr ⟨fun _ => ⟨List.mem_of_getElem? (i := 6) rfl, by decide⟩, List.forall_mem_cons.mpr ⟨fun _ => ⟨List.mem_of_getElem? (i := 15) rfl, by decide⟩, fun _ h => absurd h List.not_mem_nil⟩⟩⟩⟩⟩⟩⟩⟩⟩⟩⟩⟩⟩⟩⟩⟩⟩⟩⟩⟩⟩⟩⟩⟩⟩⟩⟩⟩⟩⟩⟩⟩⟩⟩⟩⟩⟩⟩⟩⟩⟩⟩⟩⟩⟩⟩⟩⟩⟩⟩⟩⟩⟩⟩⟩⟩⟩⟩⟩⟩⟩⟩⟩⟩⟩⟩⟩⟩⟩⟩⟩⟩⟩⟩⟩⟩⟩⟩⟩⟩⟩⟩⟩⟩⟩⟩⟩⟩⟩⟩⟩⟩⟩⟩⟩⟩⟩⟩⟩⟩⟩
theorem jf_mi : ∀ c, ∀ q ∈ jm_mpl c, q.2.1 < 10 → q.2.2 ∈ jm_mll q.2.2.2.2.2.2.2.1 ∧ jm_kok q.2.1 q.2.2 = true := by
  intro c
  match c with
  | 0 => exact jf_mi0
  | 1 => exact jf_mi1
  | 2 => exact jf_mi2
  | 3 => exact jf_mi3
  | 4 => exact jf_mi4
  | 5 => exact jf_mi5
  | 6 => exact jf_mi6
  | 7 => exact jf_mi7
  | 8 => exact jf_mi8
  | 9 => exact jf_mi9
  | 10 => exact jf_mi10
  | 11 => exact jf_mi11
  | 12 => exact jf_mi12
  | 13 => exact jf_mi13
  | 14 => exact jf_mi14
  | 15 => exact jf_mi15
  | 16 => exact fun w h => absurd h List.not_mem_nil
  | 17 => exact fun w h => absurd h List.not_mem_nil
  | 18 => exact fun w h => absurd h List.not_mem_nil
  | 19 => exact fun w h => absurd h List.not_mem_nil
  | 20 => exact fun w h => absurd h List.not_mem_nil
  | 21 => exact fun w h => absurd h List.not_mem_nil
  | 22 => exact jf_mi22
  | _ + 23 => exact fun w h => absurd h List.not_mem_nil
theorem jf_call {c i k : Nat} {y : jm_M} (h : jm_mp c i = some (k, y)) (hk : k < 10) : (∀ w ∈ jm_mwd y, w ∈ jm_ws) ∧ jm_mok y = true ∧ jm_cw y ∈ jm_ws ∧ jm_kok k y = true := by
  obtain ⟨h1, h2⟩ := jf_mi c _ (jf_mp_in h) hk
  exact ⟨fun w hw => jf_mw _ w (List.mem_flatMap.mpr ⟨y, h1, hw⟩), jf_mo _ y h1, jf_mc _ y h1, h2⟩
set_option maxRecDepth 100000 in
theorem jf_nat : ∀ w ∈ ([.instanceMethod objectInit, .static Lib.Math.max.name, .initialized "java/lang/Math", .static Lib.Math.min.name, .native arraycopyName, .static arraycopyName, .initialized "java/lang/System", .code objectInit ⟨#[0xb1]⟩ 1 none, .code Lib.Math.max.name Lib.Math.max.code 2 (some .int), .code Lib.Math.min.name Lib.Math.min.code 2 (some .int)] : List Cond), w ∈ jm_ws := jm_at_pl [172, 648, 161, 651, 918, 917, 163, 173, 649, 652] (by decide +kernel) (by decide +kernel)
/-- the words of nest mates -/
def jm_isN : Cond → Bool
  | .fieldLinkNest _ _ _ _ _ _ => true
  | .methodLinkNest _ _ _ _ => true
  | _ => false
def jm_nw : List Cond := lw_tbl.filter jm_isN
theorem jm_nwin {w : Cond} (h1 : w ∈ lw_tbl) (h2 : jm_isN w = true) : w ∈ jm_nw := List.mem_filter.mpr ⟨h1, h2⟩
/-- class, fields, how many, of a number -/
def jm_vq (ci : Nat) : vw_C := vwCl.getD ci ("", fun _ => ("", "", "", false), 0)
def jm_fw (c : Nat) (q : Nat × Nat × Nat × Nat × Nat) : Cond := match q.2.2.2.2 with
  | 1 => .fieldLinkNest (jm_cl c) q.1 ((jm_vq q.2.1).2.1 q.2.2.1).1 ((jm_vq q.2.1).2.1 q.2.2.1).2.1 ((jm_vq q.2.1).2.1 q.2.2.1).2.2.1 "MaskPlaysModel"
  | _ => if q.2.1 = 90 then (if q.2.2.1 = 0 then .fieldLink (jm_cl c) q.1 "java/lang/String" "value" "[B" else .fieldLink (jm_cl c) q.1 "java/lang/String" "coder" "B") else .fieldLink (jm_cl c) q.1 ((jm_vq q.2.1).2.1 q.2.2.1).1 ((jm_vq q.2.1).2.1 q.2.2.1).2.1 ((jm_vq q.2.1).2.1 q.2.2.1).2.2.1
theorem jm_at_plF {c : Nat} {L : List (Nat × Nat × Nat × Nat × Nat)} (ps : List Nat) (h : L.map (jm_fw c) = ps.filterMap (fun i => lw_tbl[i]?)) (hg : (L.map (jm_fw c)).all (fun w => goodWord w || jm_isN w) = true) : ∀ q ∈ L, jm_fw c q ∈ lw_tbl ∧ (goodWord (jm_fw c q) = true ∨ jm_isN (jm_fw c q) = true) := by
  intro q hq
  have hw : jm_fw c q ∈ L.map (jm_fw c) := List.mem_map.mpr ⟨q, hq, rfl⟩
  have h1 := List.all_eq_true.mp hg _ hw
  rw [h] at hw
  obtain ⟨i, -, hi⟩ := List.mem_filterMap.mp hw
  exact ⟨List.mem_of_getElem? hi, by simpa using h1⟩
set_option maxRecDepth 100000 in
theorem jf_fp0 : ∀ q ∈ jm_fpl 0, jm_fw 0 q ∈ lw_tbl ∧ (goodWord (jm_fw 0 q) = true ∨ jm_isN (jm_fw 0 q) = true) := jm_at_plF [248, 249, 250, 251, 252, 253, 254, 255, 235, 238, 241, 245, 217, 219, 221, 224] (by decide +kernel) (by decide +kernel)
set_option maxRecDepth 100000 in
theorem jf_fp1 : ∀ q ∈ jm_fpl 1, jm_fw 1 q ∈ lw_tbl ∧ (goodWord (jm_fw 1 q) = true ∨ jm_isN (jm_fw 1 q) = true) := jm_at_plF [458, 459, 460, 247] (by decide +kernel) (by decide +kernel)
set_option maxRecDepth 100000 in
theorem jf_fp2 : ∀ q ∈ jm_fpl 2, jm_fw 2 q ∈ lw_tbl ∧ (goodWord (jm_fw 2 q) = true ∨ jm_isN (jm_fw 2 q) = true) := jm_at_plF [223] (by decide +kernel) (by decide +kernel)
set_option maxRecDepth 100000 in
theorem jf_fp3 : ∀ q ∈ jm_fpl 3, jm_fw 3 q ∈ lw_tbl ∧ (goodWord (jm_fw 3 q) = true ∨ jm_isN (jm_fw 3 q) = true) := jm_at_plF [195, 196, 197, 198, 189] (by decide +kernel) (by decide +kernel)
set_option maxRecDepth 100000 in
theorem jf_fp4 : ∀ q ∈ jm_fpl 4, jm_fw 4 q ∈ lw_tbl ∧ (goodWord (jm_fw 4 q) = true ∨ jm_isN (jm_fw 4 q) = true) := jm_at_plF [519, 520, 521, 522, 524, 523, 514, 517, 409, 243, 225, 218, 220, 222] (by decide +kernel) (by decide +kernel)
set_option maxRecDepth 100000 in
theorem jf_fp5 : ∀ q ∈ jm_fpl 5, jm_fw 5 q ∈ lw_tbl ∧ (goodWord (jm_fw 5 q) = true ∨ jm_isN (jm_fw 5 q) = true) := jm_at_plF [410, 411, 412, 413, 414, 416, 417, 418, 419, 420, 191, 421, 406, 408, 415] (by decide +kernel) (by decide +kernel)
set_option maxRecDepth 100000 in
theorem jf_fp6 : ∀ q ∈ jm_fpl 6, jm_fw 6 q ∈ lw_tbl ∧ (goodWord (jm_fw 6 q) = true ∨ jm_isN (jm_fw 6 q) = true) := jm_at_plF [475, 474, 478, 479, 236, 239, 477, 476, 193, 244] (by decide +kernel) (by decide +kernel)
set_option maxRecDepth 100000 in
theorem jf_fp7 : ∀ q ∈ jm_fpl 7, jm_fw 7 q ∈ lw_tbl ∧ (goodWord (jm_fw 7 q) = true ∨ jm_isN (jm_fw 7 q) = true) := jm_at_plF [507, 508, 246, 515, 192] (by decide +kernel) (by decide +kernel)
set_option maxRecDepth 100000 in
theorem jf_fp8 : ∀ q ∈ jm_fpl 8, jm_fw 8 q ∈ lw_tbl ∧ (goodWord (jm_fw 8 q) = true ∨ jm_isN (jm_fw 8 q) = true) := jm_at_plF [291, 292, 293, 289, 294, 190] (by decide +kernel) (by decide +kernel)
set_option maxRecDepth 100000 in
theorem jf_fp9 : ∀ q ∈ jm_fpl 9, jm_fw 9 q ∈ lw_tbl ∧ (goodWord (jm_fw 9 q) = true ∨ jm_isN (jm_fw 9 q) = true) := jm_at_plF [366, 367, 368, 369, 370, 371, 373, 374, 372] (by decide +kernel) (by decide +kernel)
set_option maxRecDepth 100000 in
theorem jf_fp11 : ∀ q ∈ jm_fpl 11, jm_fw 11 q ∈ lw_tbl ∧ (goodWord (jm_fw 11 q) = true ∨ jm_isN (jm_fw 11 q) = true) := jm_at_plF [543, 544, 548, 553, 554, 555, 542, 545, 546, 547, 549, 550, 551, 552, 237, 240, 242, 516, 518, 194, 290, 407] (by decide +kernel) (by decide +kernel)
set_option maxRecDepth 100000 in
theorem jf_fp12 : ∀ q ∈ jm_fpl 12, jm_fw 12 q ∈ lw_tbl ∧ (goodWord (jm_fw 12 q) = true ∨ jm_isN (jm_fw 12 q) = true) := jm_at_plF [1551, 1553, 1555, 1557, 1559, 1561, 1564, 1567, 1569, 1571, 1574, 1576, 1578, 1580, 1582, 1584, 1586, 1589] (by decide +kernel) (by decide +kernel)
set_option maxRecDepth 100000 in
theorem jf_fp13 : ∀ q ∈ jm_fpl 13, jm_fw 13 q ∈ lw_tbl ∧ (goodWord (jm_fw 13 q) = true ∨ jm_isN (jm_fw 13 q) = true) := jm_at_plF [1637, 1639, 1640, 1644, 1645, 1646, 1647, 1648, 1649, 1654, 1656, 1657, 1658, 1659, 1661, 1662, 1663, 1636, 1566, 1655, 1572, 1570, 1660, 1650, 1581, 1583, 1585, 1587, 1577, 1575, 1579, 1573, 1651, 1652, 1653, 1638, 1558, 1554, 1552, 1641, 1556, 1560, 1643, 1642, 1588, 1590, 1562, 1565, 1563, 1568, 1666, 1664, 1665] (by decide +kernel) (by decide +kernel)
set_option maxRecDepth 100000 in
theorem jf_fp14 : ∀ q ∈ jm_fpl 14, jm_fw 14 q ∈ lw_tbl ∧ (goodWord (jm_fw 14 q) = true ∨ jm_isN (jm_fw 14 q) = true) := jm_at_plF [2251, 2252] (by decide +kernel) (by decide +kernel)
theorem jf_fp : ∀ c, ∀ q ∈ jm_fpl c, jm_fw c q ∈ lw_tbl ∧ (goodWord (jm_fw c q) = true ∨ jm_isN (jm_fw c q) = true) := by
  intro c
  match c with
  | 0 => exact jf_fp0
  | 1 => exact jf_fp1
  | 2 => exact jf_fp2
  | 3 => exact jf_fp3
  | 4 => exact jf_fp4
  | 5 => exact jf_fp5
  | 6 => exact jf_fp6
  | 7 => exact jf_fp7
  | 8 => exact jf_fp8
  | 9 => exact jf_fp9
  | 10 => exact fun w h => absurd h List.not_mem_nil
  | 11 => exact jf_fp11
  | 12 => exact jf_fp12
  | 13 => exact jf_fp13
  | 14 => exact jf_fp14
  | _ + 15 => exact fun w h => absurd h List.not_mem_nil
/-- what a field of the tables is: its type by its kind; a final one is of the class itself -/
def jm_fok (c : Nat) (q : Nat × Nat × Nat × Nat × Nat) : Bool := (decide (q.2.1 = 90) && decide (q.2.2.1 ≤ 1 ∧ q.2.2.2.2 = 0)) || (decide (q.2.1 < 13) && decide (q.2.2.1 < (jm_vq q.2.1).2.2) && (match parseFieldDescriptor ((jm_vq q.2.1).2.1 q.2.2.1).2.2.1, q.2.2.2.1 with
  | some .int, 0 => true
  | some .boolean, 4 => true
  | some .long, 1 => true
  | some (.object _), 2 => true
  | some (.array _), 2 => true
  | _, _ => false) && (!(decide (q.2.2.2.2 = 2)) || decide (((jm_vq q.2.1).2.1 q.2.2.1).1 = jm_cl c)) && (decide (q.2.2.2.2 ≠ 1) || !((jm_vq q.2.1).2.1 q.2.2.1).2.2.2 || true))
set_option maxRecDepth 100000 in
theorem jf_fo0 : ∀ q ∈ jm_fpl 0, jm_fok 0 q = true := by decide +kernel
set_option maxRecDepth 100000 in
theorem jf_fo1 : ∀ q ∈ jm_fpl 1, jm_fok 1 q = true := by decide +kernel
set_option maxRecDepth 100000 in
theorem jf_fo2 : ∀ q ∈ jm_fpl 2, jm_fok 2 q = true := by decide +kernel
set_option maxRecDepth 100000 in
theorem jf_fo3 : ∀ q ∈ jm_fpl 3, jm_fok 3 q = true := by decide +kernel
set_option maxRecDepth 100000 in
theorem jf_fo4 : ∀ q ∈ jm_fpl 4, jm_fok 4 q = true := by decide +kernel
set_option maxRecDepth 100000 in
theorem jf_fo5 : ∀ q ∈ jm_fpl 5, jm_fok 5 q = true := by decide +kernel
set_option maxRecDepth 100000 in
theorem jf_fo6 : ∀ q ∈ jm_fpl 6, jm_fok 6 q = true := by decide +kernel
set_option maxRecDepth 100000 in
theorem jf_fo7 : ∀ q ∈ jm_fpl 7, jm_fok 7 q = true := by decide +kernel
set_option maxRecDepth 100000 in
theorem jf_fo8 : ∀ q ∈ jm_fpl 8, jm_fok 8 q = true := by decide +kernel
set_option maxRecDepth 100000 in
theorem jf_fo9 : ∀ q ∈ jm_fpl 9, jm_fok 9 q = true := by decide +kernel
set_option maxRecDepth 100000 in
theorem jf_fo11 : ∀ q ∈ jm_fpl 11, jm_fok 11 q = true := by decide +kernel
set_option maxRecDepth 100000 in
theorem jf_fo12 : ∀ q ∈ jm_fpl 12, jm_fok 12 q = true := by decide +kernel
set_option maxRecDepth 100000 in
theorem jf_fo13 : ∀ q ∈ jm_fpl 13, jm_fok 13 q = true := by decide +kernel
set_option maxRecDepth 100000 in
theorem jf_fo14 : ∀ q ∈ jm_fpl 14, jm_fok 14 q = true := by decide +kernel
theorem jf_fo : ∀ c, ∀ q ∈ jm_fpl c, jm_fok c q = true := by
  intro c
  match c with
  | 0 => exact jf_fo0
  | 1 => exact jf_fo1
  | 2 => exact jf_fo2
  | 3 => exact jf_fo3
  | 4 => exact jf_fo4
  | 5 => exact jf_fo5
  | 6 => exact jf_fo6
  | 7 => exact jf_fo7
  | 8 => exact jf_fo8
  | 9 => exact jf_fo9
  | 10 => exact fun w h => absurd h List.not_mem_nil
  | 11 => exact jf_fo11
  | 12 => exact jf_fo12
  | 13 => exact jf_fo13
  | 14 => exact jf_fo14
  | _ + 15 => exact fun w h => absurd h List.not_mem_nil
theorem jf_fp_in {c i : Nat} {q : Nat × Nat × Nat × Nat} (h : jm_fp c i = some q) : (i, q) ∈ jm_fpl c := by
  unfold jm_fp at h
  rw [Option.map_eq_some_iff] at h
  obtain ⟨z, h1, h2⟩ := h
  have h3 := List.mem_of_find?_eq_some h1
  have h4 := List.find?_some h1
  obtain ⟨q1, q2⟩ := z
  have h5 : q1 = i := by simpa using h4
  have h6 : q2 = q := h2
  rw [h5, h6] at h3
  exact h3
/-- what a class of vwCl is -/
def jm_clok (q : vw_C) : Bool := (List.range q.2.2).all (fun k => (parseFieldDescriptor (q.2.1 k).2.2.1).isSome && (List.range q.2.2).all (fun j => decide (k = j) || decide ((q.2.1 k).2.1 ≠ (q.2.1 j).2.1)))
set_option maxRecDepth 100000 in
theorem jf_cl : ∀ q ∈ vwCl, jm_clok q = true := by decide +kernel
set_option maxRecDepth 100000 in
theorem jf_cw0 : ∀ w ∈ u_ws RX0 TX0 12, w ∈ jm_ws := jm_at_pl [256, 258, 260, 262, 264, 266, 268, 270, 272, 274, 276, 278] (by decide +kernel) (by decide +kernel)
set_option maxRecDepth 100000 in
theorem jf_cw1 : ∀ w ∈ u_ws RX1 TX1 3, w ∈ jm_ws := jm_at_pl [461, 463, 465] (by decide +kernel) (by decide +kernel)
set_option maxRecDepth 100000 in
theorem jf_cw2 : ∀ w ∈ u_ws RX2 TX2 4, w ∈ jm_ws := jm_at_pl [226, 228, 230, 232] (by decide +kernel) (by decide +kernel)
set_option maxRecDepth 100000 in
theorem jf_cw3 : ∀ w ∈ u_ws RX3 TX3 5, w ∈ jm_ws := jm_at_pl [199, 201, 203, 205, 207] (by decide +kernel) (by decide +kernel)
set_option maxRecDepth 100000 in
theorem jf_cw4 : ∀ w ∈ u_ws RX4 TX4 8, w ∈ jm_ws := jm_at_pl [525, 527, 529, 531, 533, 535, 537, 539] (by decide +kernel) (by decide +kernel)
set_option maxRecDepth 100000 in
theorem jf_cw5 : ∀ w ∈ u_ws RX5 TX5 14, w ∈ jm_ws := jm_at_pl [422, 424, 426, 428, 430, 432, 434, 436, 438, 440, 442, 444, 446, 448] (by decide +kernel) (by decide +kernel)
set_option maxRecDepth 100000 in
theorem jf_cw6 : ∀ w ∈ u_ws RX6 TX6 6, w ∈ jm_ws := jm_at_pl [480, 482, 484, 486, 488, 490] (by decide +kernel) (by decide +kernel)
set_option maxRecDepth 100000 in
theorem jf_cw7 : ∀ w ∈ u_ws RX7 TX7 2, w ∈ jm_ws := jm_at_pl [509, 511] (by decide +kernel) (by decide +kernel)
set_option maxRecDepth 100000 in
theorem jf_cw8 : ∀ w ∈ u_ws RX8 TX8 5, w ∈ jm_ws := jm_at_pl [295, 297, 299, 301, 303] (by decide +kernel) (by decide +kernel)
set_option maxRecDepth 100000 in
theorem jf_cw9 : ∀ w ∈ u_ws RX9 TX9 9, w ∈ jm_ws := jm_at_pl [375, 377, 379, 381, 383, 385, 387, 389, 391] (by decide +kernel) (by decide +kernel)
set_option maxRecDepth 100000 in
theorem jf_cw10 : ∀ w ∈ u_ws RX11 TX11 14, w ∈ jm_ws := jm_at_pl [556, 558, 560, 562, 564, 566, 568, 570, 572, 574, 576, 578, 580, 582] (by decide +kernel) (by decide +kernel)
set_option maxRecDepth 100000 in
theorem jf_cw11 : ∀ w ∈ u_ws RX12 TX12 22, w ∈ jm_ws := jm_at_pl [1591, 1593, 1595, 1597, 1599, 1601, 1603, 1605, 1607, 1609, 1611, 1613, 1615, 1617, 1619, 1621, 1623, 1625, 1627, 1629, 1631, 1633] (by decide +kernel) (by decide +kernel)
set_option maxRecDepth 100000 in
theorem jf_cw12 : ∀ w ∈ u_ws RX13 TX13 31, w ∈ jm_ws := jm_at_pl [1667, 1669, 1671, 1673, 1675, 1677, 1679, 1681, 1683, 1685, 1687, 1689, 1691, 1693, 1695, 1697, 1699, 1701, 1703, 1705, 1707, 1709, 1711, 1713, 1715, 1717, 1719, 1721, 1723, 1725, 1727] (by decide +kernel) (by decide +kernel)
theorem jf_cw {ci : Nat} {q : vw_C} (h : vwCl[ci]? = some q) : ∀ w ∈ u_ws q.1 q.2.1 q.2.2, w ∈ jm_ws := by
  match ci, h with
  | 0, h => cases h; exact jf_cw0
  | 1, h => cases h; exact jf_cw1
  | 2, h => cases h; exact jf_cw2
  | 3, h => cases h; exact jf_cw3
  | 4, h => cases h; exact jf_cw4
  | 5, h => cases h; exact jf_cw5
  | 6, h => cases h; exact jf_cw6
  | 7, h => cases h; exact jf_cw7
  | 8, h => cases h; exact jf_cw8
  | 9, h => cases h; exact jf_cw9
  | 10, h => cases h; exact jf_cw10
  | 11, h => cases h; exact jf_cw11
  | 12, h => cases h; exact jf_cw12
  | _ + 13, h => simp [vwCl] at h
/-- the words of a making: class link, instantiable, initialized; of a kind of array -/
def jm_nwd (c : Nat) (q : Nat × Nat × Nat) : List Cond := if q.2.1 < 100 then [.classLink (jm_cl c) q.1 (jm_vq q.2.1).1, .instantiable (jm_vq q.2.1).1 (jm_vq q.2.1).2.2, .initialized (jm_vq q.2.1).1] else []
set_option maxRecDepth 100000 in
theorem jf_np0 : ∀ w ∈ (jm_npl 0).flatMap (jm_nwd 0), w ∈ jm_ws := jm_at_pl [180, 184, 140, 182, 212, 141] (by decide +kernel) (by decide +kernel)
set_option maxRecDepth 100000 in
theorem jf_np4 : ∀ w ∈ (jm_npl 4).flatMap (jm_nwd 4), w ∈ jm_ws := jm_at_pl [499, 184, 140, 501, 502, 153] (by decide +kernel) (by decide +kernel)
set_option maxRecDepth 100000 in
theorem jf_np5 : ∀ w ∈ (jm_npl 5).flatMap (jm_nwd 5), w ∈ jm_ws := jm_at_pl [400, 184, 140] (by decide +kernel) (by decide +kernel)
set_option maxRecDepth 100000 in
theorem jf_np11 : ∀ w ∈ (jm_npl 11).flatMap (jm_nwd 11), w ∈ jm_ws := jm_at_pl [174, 175, 139, 281, 184, 140, 283, 284, 142, 308, 309, 143, 394, 395, 149, 452, 453, 150, 468, 469, 151, 493, 494, 152] (by decide +kernel) (by decide +kernel)
set_option maxRecDepth 100000 in
theorem jf_np13 : ∀ w ∈ (jm_npl 13).flatMap (jm_nwd 13), w ∈ jm_ws := jm_at_pl [1545, 1546, 155] (by decide +kernel) (by decide +kernel)
set_option maxRecDepth 100000 in
theorem jf_np22 : ∀ w ∈ (jm_npl 22).flatMap (jm_nwd 22), w ∈ jm_ws := jm_at_pl [166, 167, 138, 1539, 1540, 154] (by decide +kernel) (by decide +kernel)
theorem jf_np : ∀ c, ∀ w ∈ (jm_npl c).flatMap (jm_nwd c), w ∈ jm_ws := by
  intro c
  match c with
  | 0 => exact jf_np0
  | 1 => exact fun w h => absurd h List.not_mem_nil
  | 2 => exact fun w h => absurd h List.not_mem_nil
  | 3 => exact fun w h => absurd h List.not_mem_nil
  | 4 => exact jf_np4
  | 5 => exact jf_np5
  | 6 => exact fun w h => absurd h List.not_mem_nil
  | 7 => exact fun w h => absurd h List.not_mem_nil
  | 8 => exact fun w h => absurd h List.not_mem_nil
  | 9 => exact fun w h => absurd h List.not_mem_nil
  | 10 => exact fun w h => absurd h List.not_mem_nil
  | 11 => exact jf_np11
  | 12 => exact fun w h => absurd h List.not_mem_nil
  | 13 => exact jf_np13
  | 14 => exact fun w h => absurd h List.not_mem_nil
  | 15 => exact fun w h => absurd h List.not_mem_nil
  | 16 => exact fun w h => absurd h List.not_mem_nil
  | 17 => exact fun w h => absurd h List.not_mem_nil
  | 18 => exact fun w h => absurd h List.not_mem_nil
  | 19 => exact fun w h => absurd h List.not_mem_nil
  | 20 => exact fun w h => absurd h List.not_mem_nil
  | 21 => exact fun w h => absurd h List.not_mem_nil
  | 22 => exact jf_np22
  | _ + 23 => exact fun w h => absurd h List.not_mem_nil
theorem jf_np_in {c i : Nat} {q : Nat × Nat} (h : jm_np c i = some q) : (i, q) ∈ jm_npl c := by
  unfold jm_np at h
  rw [Option.map_eq_some_iff] at h
  obtain ⟨z, h1, h2⟩ := h
  have h3 := List.mem_of_find?_eq_some h1
  have h4 := List.find?_some h1
  obtain ⟨q1, q2⟩ := z
  have h5 : q1 = i := by simpa using h4
  have h6 : q2 = q := h2
  rw [h5, h6] at h3
  exact h3
theorem jf_nw {c i ci t : Nat} (h : jm_np c i = some (ci, t)) : ∀ w ∈ jm_nwd c (i, ci, t), w ∈ jm_ws := fun w hw => jf_np c w (List.mem_flatMap.mpr ⟨_, jf_np_in h, hw⟩)
/-- the kind of array that a class makes -/
def jm_nok (q : Nat × Nat × Nat) : Bool := (decide (q.2.2 = 0) || (decide (q.2.2 = 5) && decide (q.2.1 = 3)) || (decide (q.2.2 = 6) && decide (q.2.1 = 2))) && (decide (q.2.1 < 13) || decide (100 ≤ q.2.1 ∧ q.2.1 ≤ 102))
theorem jf_no0 : ∀ q ∈ jm_npl 0, jm_nok q = true := by decide +kernel
theorem jf_no4 : ∀ q ∈ jm_npl 4, jm_nok q = true := by decide +kernel
theorem jf_no5 : ∀ q ∈ jm_npl 5, jm_nok q = true := by decide +kernel
theorem jf_no11 : ∀ q ∈ jm_npl 11, jm_nok q = true := by decide +kernel
theorem jf_no13 : ∀ q ∈ jm_npl 13, jm_nok q = true := by decide +kernel
theorem jf_no22 : ∀ q ∈ jm_npl 22, jm_nok q = true := by decide +kernel
theorem jf_no : ∀ c, ∀ q ∈ jm_npl c, jm_nok q = true := by
  intro c
  match c with
  | 0 => exact jf_no0
  | 1 => exact fun w h => absurd h List.not_mem_nil
  | 2 => exact fun w h => absurd h List.not_mem_nil
  | 3 => exact fun w h => absurd h List.not_mem_nil
  | 4 => exact jf_no4
  | 5 => exact jf_no5
  | 6 => exact fun w h => absurd h List.not_mem_nil
  | 7 => exact fun w h => absurd h List.not_mem_nil
  | 8 => exact fun w h => absurd h List.not_mem_nil
  | 9 => exact fun w h => absurd h List.not_mem_nil
  | 10 => exact fun w h => absurd h List.not_mem_nil
  | 11 => exact jf_no11
  | 12 => exact fun w h => absurd h List.not_mem_nil
  | 13 => exact jf_no13
  | 14 => exact fun w h => absurd h List.not_mem_nil
  | 15 => exact fun w h => absurd h List.not_mem_nil
  | 16 => exact fun w h => absurd h List.not_mem_nil
  | 17 => exact fun w h => absurd h List.not_mem_nil
  | 18 => exact fun w h => absurd h List.not_mem_nil
  | 19 => exact fun w h => absurd h List.not_mem_nil
  | 20 => exact fun w h => absurd h List.not_mem_nil
  | 21 => exact fun w h => absurd h List.not_mem_nil
  | 22 => exact jf_no22
  | _ + 23 => exact fun w h => absurd h List.not_mem_nil
set_option maxRecDepth 100000 in
theorem jf_ac : ∀ w ∈ ([.arrayClass .int, .arrayClass .long, .arrayClass .byte, .arrayClass .boolean, .arrayClass .char] : List Cond), w ∈ jm_ws := jm_at_pl [211, 210, 306, 451, 307] (by decide +kernel) (by decide +kernel)
set_option maxRecDepth 100000 in
theorem jf_ao5 : Cond.arrayOver (.object "MaskPlays$Part") ∈ lw_tbl := jt_1 (List.mem_of_getElem? (i := 44) rfl)
theorem jf_ao6 : Cond.arrayOver (.object "MaskPlays$Note") ∈ lw_tbl := jt_1 (List.mem_of_getElem? (i := 46) rfl)
def jm_lw (c : Nat) (q : Nat × Int64) : Cond := .constantLong (jm_cl c) q.1 q.2
set_option maxRecDepth 100000 in
theorem jf_lp11 : ∀ w ∈ (jm_lpl 11).map (jm_lw 11), w ∈ jm_ws := jm_at_pl [963, 964] (by decide +kernel) (by decide +kernel)
set_option maxRecDepth 100000 in
theorem jf_lp13 : ∀ w ∈ (jm_lpl 13).map (jm_lw 13), w ∈ jm_ws := jm_at_pl [2094, 1787, 2095, 1795, 2245, 2244] (by decide +kernel) (by decide +kernel)
theorem jf_lp : ∀ c, ∀ w ∈ (jm_lpl c).map (jm_lw c), w ∈ jm_ws := by
  intro c
  match c with
  | 0 => exact fun w h => absurd h List.not_mem_nil
  | 1 => exact fun w h => absurd h List.not_mem_nil
  | 2 => exact fun w h => absurd h List.not_mem_nil
  | 3 => exact fun w h => absurd h List.not_mem_nil
  | 4 => exact fun w h => absurd h List.not_mem_nil
  | 5 => exact fun w h => absurd h List.not_mem_nil
  | 6 => exact fun w h => absurd h List.not_mem_nil
  | 7 => exact fun w h => absurd h List.not_mem_nil
  | 8 => exact fun w h => absurd h List.not_mem_nil
  | 9 => exact fun w h => absurd h List.not_mem_nil
  | 10 => exact fun w h => absurd h List.not_mem_nil
  | 11 => exact jf_lp11
  | 12 => exact fun w h => absurd h List.not_mem_nil
  | 13 => exact jf_lp13
  | _ + 14 => exact fun w h => absurd h List.not_mem_nil
theorem jf_lw {c i : Nat} {v : Int64} (h : jm_lp c i = some v) : Cond.constantLong (jm_cl c) i v ∈ jm_ws := by
  unfold jm_lp at h
  rw [Option.map_eq_some_iff] at h
  obtain ⟨z, h1, h2⟩ := h
  have h3 := List.mem_of_find?_eq_some h1
  have h4 := List.find?_some h1
  obtain ⟨q1, q2⟩ := z
  have h5 : q1 = i := by simpa using h4
  have h6 : q2 = v := h2
  rw [h5, h6] at h3
  exact jf_lp c _ (List.mem_map.mpr ⟨_, h3, rfl⟩)
/-- the texts' places -/
def jm_sok (c : Nat) (q : Nat × Nat) : Bool := match jm_tx[q.2]? with
  | some z => decide (z.1 = jm_cl c ∧ z.2.1 = q.1)
  | none => false
theorem jf_sp : ∀ c, c < 23 → ∀ q ∈ jm_spl c, jm_sok c q = true := by decide +kernel
