/-! the words that the tables give: by their places in lw_tbl -/
def mm_nm (k : Nat) : String := [RX0, RX1, RX2, RX3, RX4, RX5, RX6, RX7, RX8, RX9, RX10, RL, RJ6, RJ7, RJ9].getD k ""
def mm_ws : List Cond := lw_tbl.filter goodWord
theorem mm_ws_of {w : Cond} {i : Nat} (h : lw_tbl[i]? = some w) (hg : goodWord w = true) : w ∈ mm_ws := List.mem_filter.mpr ⟨List.mem_of_getElem? h, hg⟩
def mm_pF : List (Nat × Nat × Nat × Nat × Nat) := [(5, 18, 5, 0, 182), (5, 9, 5, 1, 183), (5, 15, 5, 2, 186), (5, 22, 5, 3, 189), (1, 14, 1, 0, 207), (1, 20, 1, 1, 211), (1, 24, 1, 2, 215), (1, 27, 1, 3, 220), (1, 30, 1, 4, 224), (1, 33, 1, 5, 227), (1, 43, 1, 6, 230), (1, 46, 1, 7, 235), (1, 49, 1, 8, 239), (1, 36, 1, 9, 243), (1, 52, 1, 10, 246), (1, 56, 1, 11, 249), (6, 11, 6, 0, 278), (6, 33, 6, 1, 279), (6, 46, 6, 2, 281), (6, 65, 6, 3, 282), (6, 75, 6, 4, 283), (6, 49, 6, 5, 284), (6, 207, 6, 6, 285), (6, 223, 6, 7, 286), (6, 139, 6, 8, 287), (6, 15, 6, 9, 288), (6, 19, 6, 10, 289), (6, 23, 6, 11, 290), (6, 52, 6, 12, 291), (6, 29, 6, 13, 292), (6, 55, 6, 14, 294), (0, 14, 0, 0, 334), (0, 43, 0, 1, 339), (0, 59, 0, 2, 342), (0, 18, 0, 3, 347), (0, 22, 0, 4, 351), (0, 25, 0, 5, 354), (0, 28, 0, 6, 357), (0, 126, 0, 7, 360), (0, 31, 0, 8, 362), (0, 34, 0, 9, 363), (0, 37, 0, 10, 365), (0, 129, 0, 11, 366), (0, 40, 0, 12, 367), (0, 62, 0, 13, 368), (0, 161, 0, 14, 370), (4, 18, 4, 0, 408), (4, 11, 4, 1, 410), (4, 22, 4, 2, 411), (4, 15, 4, 3, 413), (4, 25, 4, 4, 414), (9, 12, 9, 0, 427), (9, 70, 9, 1, 428), (9, 19, 9, 2, 429), (9, 26, 9, 3, 430), (9, 320, 9, 4, 431), (9, 327, 9, 5, 432), (9, 332, 9, 6, 433), (9, 86, 9, 7, 434), (9, 49, 9, 8, 435), (9, 56, 9, 9, 436), (2, 23, 2, 0, 921), (2, 9, 2, 1, 922), (2, 15, 2, 2, 924), (2, 27, 2, 3, 926), (2, 20, 2, 4, 928), (2, 31, 2, 5, 929), (7, 32, 7, 0, 943), (7, 41, 7, 1, 944), (7, 13, 7, 2, 945), (7, 17, 7, 3, 946), (7, 20, 7, 4, 947), (7, 103, 7, 5, 948), (7, 23, 7, 6, 949), (7, 26, 7, 7, 950), (7, 29, 7, 8, 951), (7, 45, 7, 9, 952), (7, 52, 7, 10, 953), (7, 55, 7, 11, 954), (7, 58, 7, 12, 955), (7, 61, 7, 13, 956), (3, 37, 3, 0, 1164), (3, 74, 3, 1, 1165), (3, 15, 3, 2, 1166), (3, 18, 3, 3, 1167), (3, 21, 3, 4, 1168), (3, 24, 3, 5, 1169), (3, 28, 3, 6, 1170), (3, 31, 3, 7, 1171), (3, 34, 3, 8, 1172), (3, 68, 3, 9, 1173), (3, 44, 3, 10, 1174), (3, 48, 3, 11, 1175), (3, 51, 3, 12, 1176), (8, 15, 8, 0, 1295), (8, 9, 8, 1, 1296), (10, 72, 10, 0, 1470), (10, 7, 10, 1, 1471), (10, 78, 10, 2, 1472), (10, 81, 10, 3, 1473), (10, 91, 10, 4, 1474), (10, 84, 10, 5, 1475), (10, 100, 10, 6, 1476), (10, 97, 10, 7, 1477), (10, 94, 10, 8, 1478), (10, 114, 10, 9, 1479), (10, 13, 10, 10, 1480), (10, 75, 10, 11, 1481), (10, 17, 10, 12, 1482), (10, 110, 10, 13, 1483), (10, 187, 10, 14, 1484), (10, 20, 10, 15, 1485), (10, 23, 10, 16, 1486), (10, 199, 10, 17, 1487), (10, 202, 10, 18, 1488), (10, 190, 10, 19, 1489), (10, 193, 10, 20, 1490), (10, 26, 10, 21, 1491), (10, 29, 10, 22, 1492), (10, 32, 10, 23, 1493), (10, 35, 10, 24, 1494), (10, 38, 10, 25, 1495), (10, 41, 10, 26, 1496), (10, 281, 10, 27, 1497), (10, 44, 10, 28, 1498), (10, 47, 10, 29, 1499), (10, 50, 10, 30, 1500), (10, 53, 10, 31, 1501), (10, 324, 10, 32, 1502), (10, 339, 10, 33, 1503), (10, 336, 10, 34, 1504), (10, 342, 10, 35, 1505), (10, 58, 10, 36, 1506), (10, 62, 10, 37, 1507), (10, 65, 10, 38, 1508), (10, 69, 10, 39, 1509)]
def mm_pN : List (Nat × Nat × Nat × Nat × Nat) := [(0, 80, 5, 1, 184), (9, 99, 5, 1, 185), (0, 83, 5, 2, 187), (9, 105, 5, 2, 188), (1, 39, 5, 3, 190), (0, 51, 5, 3, 191), (6, 151, 5, 3, 192), (7, 149, 5, 3, 193), (9, 272, 5, 3, 194), (0, 77, 1, 0, 208), (9, 93, 1, 0, 209), (6, 89, 1, 0, 210), (0, 86, 1, 1, 212), (9, 108, 1, 1, 213), (6, 166, 1, 1, 214), (0, 47, 1, 2, 216), (6, 102, 1, 2, 217), (7, 143, 1, 2, 218), (9, 301, 1, 2, 219), (6, 107, 1, 3, 221), (0, 179, 1, 3, 222), (9, 269, 1, 3, 223), (0, 117, 1, 4, 225), (6, 185, 1, 4, 226), (0, 114, 1, 5, 228), (6, 189, 1, 5, 229), (0, 56, 1, 6, 231), (6, 180, 1, 6, 232), (7, 167, 1, 6, 233), (9, 304, 1, 6, 234), (6, 128, 1, 7, 236), (0, 139, 1, 7, 237), (9, 307, 1, 7, 238), (6, 144, 1, 8, 240), (9, 204, 1, 8, 241), (0, 173, 1, 8, 242), (3, 88, 1, 9, 244), (6, 195, 1, 9, 245), (6, 191, 1, 10, 247), (9, 310, 1, 10, 248), (8, 63, 1, 11, 250), (6, 197, 1, 11, 251), (9, 313, 1, 11, 252), (9, 38, 6, 1, 280), (9, 63, 6, 13, 293), (9, 59, 0, 0, 335), (8, 59, 0, 0, 336), (3, 84, 0, 0, 337), (7, 139, 0, 0, 338), (7, 49, 0, 1, 340), (3, 77, 0, 1, 341), (8, 32, 0, 2, 343), (9, 80, 0, 2, 344), (2, 37, 0, 2, 345), (3, 96, 0, 2, 346), (2, 47, 0, 3, 348), (9, 114, 0, 3, 349), (7, 158, 0, 3, 350), (8, 35, 0, 4, 352), (3, 103, 0, 4, 353), (8, 42, 0, 5, 355), (3, 121, 0, 5, 356), (8, 29, 0, 6, 358), (8, 23, 0, 7, 359), (3, 118, 0, 7, 361), (9, 145, 0, 9, 364), (7, 80, 0, 13, 369), (9, 148, 4, 0, 409), (9, 292, 4, 2, 412), (9, 295, 4, 4, 415), (7, 109, 2, 1, 923), (7, 124, 2, 2, 925), (7, 106, 2, 3, 927)]
def mm_pI : List (Nat × Nat × Int32 × Nat) := [(12, 265, 1431655765, 838), (12, 266, 858993459, 839), (12, 267, 252645135, 840), (7, 132, 1000000, 1043), (10, 57, 81920, 1468), (10, 61, 262144, 1469), (10, 400, 1000000, 2023)]
def mm_pL : List (Nat × Nat × Int64 × Nat) := [(6, 238, 32, 500), (9, 230, -1, 1151), (10, 382, -1, 1975)]
def mm_pS : List (Nat × Nat × Nat × Nat) := [(6, 78, 98, 512), (6, 131, 99, 573), (6, 142, 100, 582), (6, 87, 101, 583), (6, 100, 102, 600), (6, 105, 103, 601), (6, 110, 104, 602), (6, 115, 105, 603), (6, 120, 106, 604), (6, 199, 107, 605), (6, 157, 108, 610), (6, 172, 109, 628), (6, 174, 110, 629), (6, 176, 111, 630), (6, 178, 112, 631), (6, 183, 113, 640), (6, 187, 114, 641), (10, 141, 98, 1633), (10, 236, 99, 1652), (10, 241, 100, 1669), (10, 143, 101, 1670), (10, 145, 102, 1683), (10, 146, 103, 1684), (10, 148, 104, 1685), (10, 150, 105, 1686), (10, 152, 106, 1687), (10, 154, 107, 1688), (10, 243, 108, 1697), (10, 253, 109, 1706), (10, 255, 110, 1707), (10, 257, 111, 1708), (10, 259, 112, 1709), (10, 261, 113, 1722), (10, 263, 114, 1723)]
def mm_fn (ci k : Nat) : String × String × String × Bool := ((vwCl.getD ci ("", fun _ => ("", "", "", false), 0)).2.1 k)
def mm_pFw (e : Nat × Nat × Nat × Nat × Nat) : Cond := .fieldLink (mm_nm e.1) e.2.1 (mm_fn e.2.2.1 e.2.2.2.1).1 (mm_fn e.2.2.1 e.2.2.2.1).2.1 (mm_fn e.2.2.1 e.2.2.2.1).2.2.1
def mm_pNw (e : Nat × Nat × Nat × Nat × Nat) : Cond := .fieldLinkNest (mm_nm e.1) e.2.1 (mm_fn e.2.2.1 e.2.2.2.1).1 (mm_fn e.2.2.1 e.2.2.2.1).2.1 (mm_fn e.2.2.1 e.2.2.2.1).2.2.1 RX9
theorem mm_pF_at : ∀ e ∈ mm_pF, lw_tbl[e.2.2.2.2]? = some (mm_pFw e) := by decide +kernel
theorem mm_pN_at : ∀ e ∈ mm_pN, lw_tbl[e.2.2.2.2]? = some (mm_pNw e) := by decide +kernel
theorem mm_pI_at : ∀ e ∈ mm_pI, lw_tbl[e.2.2.2]? = some (.constant (mm_nm e.1) e.2.1 e.2.2.1) := by decide +kernel
theorem mm_pL_at : ∀ e ∈ mm_pL, lw_tbl[e.2.2.2]? = some (.constantLong (mm_nm e.1) e.2.1 e.2.2.1) := by decide +kernel
theorem mm_pF_ws {e : Nat × Nat × Nat × Nat × Nat} (h : e ∈ mm_pF) : mm_pFw e ∈ mm_ws := mm_ws_of (mm_pF_at e h) rfl
theorem mm_pI_ws {e : Nat × Nat × Int32 × Nat} (h : e ∈ mm_pI) : Cond.constant (mm_nm e.1) e.2.1 e.2.2.1 ∈ mm_ws := mm_ws_of (mm_pI_at e h) rfl
theorem mm_pL_ws {e : Nat × Nat × Int64 × Nat} (h : e ∈ mm_pL) : Cond.constantLong (mm_nm e.1) e.2.1 e.2.2.1 ∈ mm_ws := mm_ws_of (mm_pL_at e h) rfl
theorem mm_i0 : ∀ w ∈ wsX00, w ∈ mm_ws := by
  have h : ∀ k, k < 15 → lw_tbl[([371, 373, 375, 377, 379, 381, 383, 385, 387, 389, 391, 393, 395, 397, 399] : List Nat).getD k 0]? = some (u_lay RX0 TX0 k) := by decide +kernel
  have g : ∀ k, k < 15 → goodWord (u_lay RX0 TX0 k) = true := by decide +kernel
  intro w hw
  obtain ⟨k, hk, rfl⟩ := List.mem_map.mp hw
  exact mm_ws_of (h k (List.mem_range.mp hk)) (g k (List.mem_range.mp hk))
theorem mm_i1 : ∀ w ∈ wsX10, w ∈ mm_ws := by
  have h : ∀ k, k < 12 → lw_tbl[([253, 255, 257, 259, 261, 263, 265, 267, 269, 271, 273, 275] : List Nat).getD k 0]? = some (u_lay RX1 TX1 k) := by decide +kernel
  have g : ∀ k, k < 12 → goodWord (u_lay RX1 TX1 k) = true := by decide +kernel
  intro w hw
  obtain ⟨k, hk, rfl⟩ := List.mem_map.mp hw
  exact mm_ws_of (h k (List.mem_range.mp hk)) (g k (List.mem_range.mp hk))
theorem mm_i2 : ∀ w ∈ wsX20, w ∈ mm_ws := by
  have h : ∀ k, k < 6 → lw_tbl[([930, 932, 934, 936, 938, 940] : List Nat).getD k 0]? = some (u_lay RX2 TX2 k) := by decide +kernel
  have g : ∀ k, k < 6 → goodWord (u_lay RX2 TX2 k) = true := by decide +kernel
  intro w hw
  obtain ⟨k, hk, rfl⟩ := List.mem_map.mp hw
  exact mm_ws_of (h k (List.mem_range.mp hk)) (g k (List.mem_range.mp hk))
theorem mm_i3 : ∀ w ∈ wsX30, w ∈ mm_ws := by
  have h : ∀ k, k < 13 → lw_tbl[([1177, 1179, 1181, 1183, 1185, 1187, 1189, 1191, 1193, 1195, 1197, 1199, 1201] : List Nat).getD k 0]? = some (u_lay RX3 TX3 k) := by decide +kernel
  have g : ∀ k, k < 13 → goodWord (u_lay RX3 TX3 k) = true := by decide +kernel
  intro w hw
  obtain ⟨k, hk, rfl⟩ := List.mem_map.mp hw
  exact mm_ws_of (h k (List.mem_range.mp hk)) (g k (List.mem_range.mp hk))
theorem mm_i4 : ∀ w ∈ wsX40, w ∈ mm_ws := by
  have h : ∀ k, k < 5 → lw_tbl[([416, 418, 420, 422, 424] : List Nat).getD k 0]? = some (u_lay RX4 TX4 k) := by decide +kernel
  have g : ∀ k, k < 5 → goodWord (u_lay RX4 TX4 k) = true := by decide +kernel
  intro w hw
  obtain ⟨k, hk, rfl⟩ := List.mem_map.mp hw
  exact mm_ws_of (h k (List.mem_range.mp hk)) (g k (List.mem_range.mp hk))
theorem mm_i5 : ∀ w ∈ wsX50, w ∈ mm_ws := by
  have h : ∀ k, k < 4 → lw_tbl[([195, 197, 199, 201] : List Nat).getD k 0]? = some (u_lay RX5 TX5 k) := by decide +kernel
  have g : ∀ k, k < 4 → goodWord (u_lay RX5 TX5 k) = true := by decide +kernel
  intro w hw
  obtain ⟨k, hk, rfl⟩ := List.mem_map.mp hw
  exact mm_ws_of (h k (List.mem_range.mp hk)) (g k (List.mem_range.mp hk))
theorem mm_i6 : ∀ w ∈ wsX60, w ∈ mm_ws := by
  have h : ∀ k, k < 15 → lw_tbl[([295, 297, 299, 301, 303, 305, 307, 309, 311, 313, 315, 317, 319, 321, 323] : List Nat).getD k 0]? = some (u_lay RX6 TX6 k) := by decide +kernel
  have g : ∀ k, k < 15 → goodWord (u_lay RX6 TX6 k) = true := by decide +kernel
  intro w hw
  obtain ⟨k, hk, rfl⟩ := List.mem_map.mp hw
  exact mm_ws_of (h k (List.mem_range.mp hk)) (g k (List.mem_range.mp hk))
theorem mm_i7 : ∀ w ∈ wsX70, w ∈ mm_ws := by
  have h : ∀ k, k < 14 → lw_tbl[([957, 959, 961, 963, 965, 967, 969, 971, 973, 975, 977, 979, 981, 983] : List Nat).getD k 0]? = some (u_lay RX7 TX7 k) := by decide +kernel
  have g : ∀ k, k < 14 → goodWord (u_lay RX7 TX7 k) = true := by decide +kernel
  intro w hw
  obtain ⟨k, hk, rfl⟩ := List.mem_map.mp hw
  exact mm_ws_of (h k (List.mem_range.mp hk)) (g k (List.mem_range.mp hk))
theorem mm_i8 : ∀ w ∈ wsX80, w ∈ mm_ws := by
  have h : ∀ k, k < 2 → lw_tbl[([1297, 1299] : List Nat).getD k 0]? = some (u_lay RX8 TX8 k) := by decide +kernel
  have g : ∀ k, k < 2 → goodWord (u_lay RX8 TX8 k) = true := by decide +kernel
  intro w hw
  obtain ⟨k, hk, rfl⟩ := List.mem_map.mp hw
  exact mm_ws_of (h k (List.mem_range.mp hk)) (g k (List.mem_range.mp hk))
theorem mm_i9 : ∀ w ∈ wsX90, w ∈ mm_ws := by
  have h : ∀ k, k < 10 → lw_tbl[([437, 439, 441, 443, 445, 447, 449, 451, 453, 455] : List Nat).getD k 0]? = some (u_lay RX9 TX9 k) := by decide +kernel
  have g : ∀ k, k < 10 → goodWord (u_lay RX9 TX9 k) = true := by decide +kernel
  intro w hw
  obtain ⟨k, hk, rfl⟩ := List.mem_map.mp hw
  exact mm_ws_of (h k (List.mem_range.mp hk)) (g k (List.mem_range.mp hk))
theorem mm_i10 : ∀ w ∈ wsX100, w ∈ mm_ws := by
  have h : ∀ k, k < 40 → lw_tbl[([1510, 1512, 1514, 1516, 1518, 1520, 1522, 1524, 1526, 1528, 1530, 1532, 1534, 1536, 1538, 1540, 1542, 1544, 1546, 1548, 1550, 1552, 1554, 1556, 1558, 1560, 1562, 1564, 1566, 1568, 1570, 1572, 1574, 1576, 1578, 1580, 1582, 1584, 1586, 1588] : List Nat).getD k 0]? = some (u_lay RX10 TX10 k) := by decide +kernel
  have g : ∀ k, k < 40 → goodWord (u_lay RX10 TX10 k) = true := by decide +kernel
  intro w hw
  obtain ⟨k, hk, rfl⟩ := List.mem_map.mp hw
  exact mm_ws_of (h k (List.mem_range.mp hk)) (g k (List.mem_range.mp hk))
/-- what is known of the class ci -/
def mm_clf (ci : Nat) (C : String) (T : u_T) (N : Nat) : Prop := (∀ w ∈ u_ws C T N, w ∈ mm_ws) ∧ (∃ ty : Nat → FieldType, ∀ k, k < N → parseFieldDescriptor (T k).2.2.1 = some (ty k)) ∧ (∀ a, a < N → ∀ b, b < N → a ≠ b → (T a).2.1 ≠ (T b).2.1) ∧ (mm_F.getD ci []).length = N ∧ mm_nm ci = C
theorem mm_clf_of : ∀ {ci : Nat}, ci < 11 → ∃ C T N, vwCl[ci]? = some (C, T, N) ∧ mm_clf ci C T N
  | 0, _ => ⟨RX0, TX0, 15, rfl, mm_i0, ⟨tyX0, tyX0_ok⟩, nmX0, rfl, rfl⟩
  | 1, _ => ⟨RX1, TX1, 12, rfl, mm_i1, ⟨tyX1, tyX1_ok⟩, nmX1, rfl, rfl⟩
  | 2, _ => ⟨RX2, TX2, 6, rfl, mm_i2, ⟨tyX2, tyX2_ok⟩, nmX2, rfl, rfl⟩
  | 3, _ => ⟨RX3, TX3, 13, rfl, mm_i3, ⟨tyX3, tyX3_ok⟩, nmX3, rfl, rfl⟩
  | 4, _ => ⟨RX4, TX4, 5, rfl, mm_i4, ⟨tyX4, tyX4_ok⟩, nmX4, rfl, rfl⟩
  | 5, _ => ⟨RX5, TX5, 4, rfl, mm_i5, ⟨tyX5, tyX5_ok⟩, nmX5, rfl, rfl⟩
  | 6, _ => ⟨RX6, TX6, 15, rfl, mm_i6, ⟨tyX6, tyX6_ok⟩, nmX6, rfl, rfl⟩
  | 7, _ => ⟨RX7, TX7, 14, rfl, mm_i7, ⟨tyX7, tyX7_ok⟩, nmX7, rfl, rfl⟩
  | 8, _ => ⟨RX8, TX8, 2, rfl, mm_i8, ⟨tyX8, tyX8_ok⟩, nmX8, rfl, rfl⟩
  | 9, _ => ⟨RX9, TX9, 10, rfl, mm_i9, ⟨tyX9, tyX9_ok⟩, nmX9, rfl, rfl⟩
  | 10, _ => ⟨RX10, TX10, 40, rfl, mm_i10, ⟨tyX10, tyX10_ok⟩, nmX10, rfl, rfl⟩
  | n + 11, h => absurd h (by omega)
