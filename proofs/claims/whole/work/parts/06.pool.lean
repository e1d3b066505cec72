/-! the words that the tables give: by their places in lw_tbl -/
def mm_nm (k : Nat) : String := [RX0, RX1, RX2, RX3, RX4, RX5, RX6, RX7, RX8, RX9, RX10, RL, RJ6, RJ7, RJ9].getD k ""
def mm_ws : List Cond := lw_tbl.filter goodWord
theorem mm_ws_of {w : Cond} {i : Nat} (h : lw_tbl[i]? = some w) (hg : goodWord w = true) : w ∈ mm_ws := List.mem_filter.mpr ⟨List.mem_of_getElem? h, hg⟩
def mm_pF : List (Nat × Nat × Nat × Nat × Nat) := [(5, 18, 5, 0, 183), (5, 9, 5, 1, 184), (5, 15, 5, 2, 187), (5, 22, 5, 3, 190), (1, 14, 1, 0, 208), (1, 20, 1, 1, 212), (1, 24, 1, 2, 216), (1, 27, 1, 3, 221), (1, 30, 1, 4, 225), (1, 33, 1, 5, 228), (1, 43, 1, 6, 231), (1, 46, 1, 7, 236), (1, 49, 1, 8, 240), (1, 36, 1, 9, 244), (1, 52, 1, 10, 247), (1, 56, 1, 11, 250), (6, 11, 6, 0, 279), (6, 33, 6, 1, 280), (6, 46, 6, 2, 282), (6, 65, 6, 3, 283), (6, 75, 6, 4, 284), (6, 49, 6, 5, 285), (6, 207, 6, 6, 286), (6, 223, 6, 7, 287), (6, 139, 6, 8, 288), (6, 15, 6, 9, 289), (6, 19, 6, 10, 290), (6, 23, 6, 11, 291), (6, 52, 6, 12, 292), (6, 29, 6, 13, 293), (6, 55, 6, 14, 295), (0, 14, 0, 0, 335), (0, 43, 0, 1, 340), (0, 59, 0, 2, 343), (0, 18, 0, 3, 348), (0, 22, 0, 4, 352), (0, 25, 0, 5, 355), (0, 28, 0, 6, 358), (0, 126, 0, 7, 361), (0, 31, 0, 8, 363), (0, 34, 0, 9, 364), (0, 37, 0, 10, 366), (0, 129, 0, 11, 367), (0, 40, 0, 12, 368), (0, 62, 0, 13, 369), (0, 161, 0, 14, 371), (4, 18, 4, 0, 409), (4, 11, 4, 1, 411), (4, 22, 4, 2, 412), (4, 15, 4, 3, 414), (4, 25, 4, 4, 415), (9, 12, 9, 0, 428), (9, 70, 9, 1, 429), (9, 19, 9, 2, 430), (9, 26, 9, 3, 431), (9, 320, 9, 4, 432), (9, 327, 9, 5, 433), (9, 332, 9, 6, 434), (9, 86, 9, 7, 435), (9, 49, 9, 8, 436), (9, 56, 9, 9, 437), (2, 23, 2, 0, 922), (2, 9, 2, 1, 923), (2, 15, 2, 2, 925), (2, 27, 2, 3, 927), (2, 20, 2, 4, 929), (2, 31, 2, 5, 930), (7, 32, 7, 0, 944), (7, 41, 7, 1, 945), (7, 13, 7, 2, 946), (7, 17, 7, 3, 947), (7, 20, 7, 4, 948), (7, 103, 7, 5, 949), (7, 23, 7, 6, 950), (7, 26, 7, 7, 951), (7, 29, 7, 8, 952), (7, 45, 7, 9, 953), (7, 52, 7, 10, 954), (7, 55, 7, 11, 955), (7, 58, 7, 12, 956), (7, 61, 7, 13, 957), (3, 37, 3, 0, 1165), (3, 69, 3, 1, 1166), (3, 15, 3, 2, 1167), (3, 18, 3, 3, 1168), (3, 21, 3, 4, 1169), (3, 24, 3, 5, 1170), (3, 28, 3, 6, 1171), (3, 31, 3, 7, 1172), (3, 34, 3, 8, 1173), (3, 62, 3, 9, 1174), (3, 88, 3, 10, 1175), (3, 91, 3, 11, 1176), (3, 94, 3, 12, 1177), (8, 15, 8, 0, 1299), (8, 9, 8, 1, 1300), (10, 72, 10, 0, 1474), (10, 7, 10, 1, 1475), (10, 78, 10, 2, 1476), (10, 81, 10, 3, 1477), (10, 91, 10, 4, 1478), (10, 84, 10, 5, 1479), (10, 100, 10, 6, 1480), (10, 97, 10, 7, 1481), (10, 94, 10, 8, 1482), (10, 114, 10, 9, 1483), (10, 13, 10, 10, 1484), (10, 75, 10, 11, 1485), (10, 17, 10, 12, 1486), (10, 110, 10, 13, 1487), (10, 187, 10, 14, 1488), (10, 20, 10, 15, 1489), (10, 23, 10, 16, 1490), (10, 199, 10, 17, 1491), (10, 202, 10, 18, 1492), (10, 190, 10, 19, 1493), (10, 193, 10, 20, 1494), (10, 26, 10, 21, 1495), (10, 29, 10, 22, 1496), (10, 32, 10, 23, 1497), (10, 35, 10, 24, 1498), (10, 38, 10, 25, 1499), (10, 41, 10, 26, 1500), (10, 281, 10, 27, 1501), (10, 44, 10, 28, 1502), (10, 47, 10, 29, 1503), (10, 50, 10, 30, 1504), (10, 53, 10, 31, 1505), (10, 324, 10, 32, 1506), (10, 339, 10, 33, 1507), (10, 336, 10, 34, 1508), (10, 342, 10, 35, 1509), (10, 58, 10, 36, 1510), (10, 62, 10, 37, 1511), (10, 65, 10, 38, 1512), (10, 69, 10, 39, 1513)]
def mm_pN : List (Nat × Nat × Nat × Nat × Nat) := [(0, 80, 5, 1, 185), (9, 99, 5, 1, 186), (0, 83, 5, 2, 188), (9, 105, 5, 2, 189), (1, 39, 5, 3, 191), (0, 51, 5, 3, 192), (6, 151, 5, 3, 193), (7, 149, 5, 3, 194), (9, 272, 5, 3, 195), (0, 77, 1, 0, 209), (9, 93, 1, 0, 210), (6, 89, 1, 0, 211), (0, 86, 1, 1, 213), (9, 108, 1, 1, 214), (6, 166, 1, 1, 215), (0, 47, 1, 2, 217), (6, 102, 1, 2, 218), (7, 143, 1, 2, 219), (9, 301, 1, 2, 220), (6, 107, 1, 3, 222), (0, 179, 1, 3, 223), (9, 269, 1, 3, 224), (0, 117, 1, 4, 226), (6, 185, 1, 4, 227), (0, 114, 1, 5, 229), (6, 189, 1, 5, 230), (0, 56, 1, 6, 232), (6, 180, 1, 6, 233), (7, 167, 1, 6, 234), (9, 304, 1, 6, 235), (6, 128, 1, 7, 237), (0, 139, 1, 7, 238), (9, 307, 1, 7, 239), (6, 144, 1, 8, 241), (9, 204, 1, 8, 242), (0, 173, 1, 8, 243), (3, 83, 1, 9, 245), (6, 195, 1, 9, 246), (6, 191, 1, 10, 248), (9, 310, 1, 10, 249), (8, 63, 1, 11, 251), (6, 197, 1, 11, 252), (9, 313, 1, 11, 253), (9, 38, 6, 1, 281), (9, 63, 6, 13, 294), (9, 59, 0, 0, 336), (8, 59, 0, 0, 337), (3, 79, 0, 0, 338), (7, 139, 0, 0, 339), (7, 49, 0, 1, 341), (3, 72, 0, 1, 342), (8, 32, 0, 2, 344), (9, 80, 0, 2, 345), (2, 37, 0, 2, 346), (3, 100, 0, 2, 347), (2, 47, 0, 3, 349), (9, 114, 0, 3, 350), (7, 158, 0, 3, 351), (8, 35, 0, 4, 353), (3, 106, 0, 4, 354), (8, 42, 0, 5, 356), (3, 121, 0, 5, 357), (8, 29, 0, 6, 359), (8, 23, 0, 7, 360), (3, 118, 0, 7, 362), (9, 145, 0, 9, 365), (7, 80, 0, 13, 370), (9, 148, 4, 0, 410), (9, 292, 4, 2, 413), (9, 295, 4, 4, 416), (7, 109, 2, 1, 924), (7, 124, 2, 2, 926), (7, 106, 2, 3, 928)]
def mm_pI : List (Nat × Nat × Int32 × Nat) := [(12, 265, 1431655765, 839), (12, 266, 858993459, 840), (12, 267, 252645135, 841), (7, 132, 1000000, 1044), (10, 57, 81920, 1472), (10, 61, 262144, 1473), (10, 400, 1000000, 2027)]
def mm_pL : List (Nat × Nat × Int64 × Nat) := [(6, 238, 32, 501), (9, 230, -1, 1152), (10, 382, -1, 1979)]
def mm_pS : List (Nat × Nat × Nat × Nat) := [(6, 78, 98, 513), (6, 131, 99, 574), (6, 142, 100, 583), (6, 87, 101, 584), (6, 100, 102, 601), (6, 105, 103, 602), (6, 110, 104, 603), (6, 115, 105, 604), (6, 120, 106, 605), (6, 199, 107, 606), (6, 157, 108, 611), (6, 172, 109, 629), (6, 174, 110, 630), (6, 176, 111, 631), (6, 178, 112, 632), (6, 183, 113, 641), (6, 187, 114, 642), (10, 141, 98, 1637), (10, 236, 99, 1656), (10, 241, 100, 1673), (10, 143, 101, 1674), (10, 145, 102, 1687), (10, 146, 103, 1688), (10, 148, 104, 1689), (10, 150, 105, 1690), (10, 152, 106, 1691), (10, 154, 107, 1692), (10, 243, 108, 1701), (10, 253, 109, 1710), (10, 255, 110, 1711), (10, 257, 111, 1712), (10, 259, 112, 1713), (10, 261, 113, 1726), (10, 263, 114, 1727)]
def mm_fn (ci k : Nat) : String × String × String × Bool := ((vwCl.getD ci ("", fun _ => ("", "", "", false), 0)).2.1 k)
def mm_pFw (e : Nat × Nat × Nat × Nat × Nat) : Cond := .fieldLink (mm_nm e.1) e.2.1 (mm_fn e.2.2.1 e.2.2.2.1).1 (mm_fn e.2.2.1 e.2.2.2.1).2.1 (mm_fn e.2.2.1 e.2.2.2.1).2.2.1
def mm_pNw (e : Nat × Nat × Nat × Nat × Nat) : Cond := .fieldLinkNest (mm_nm e.1) e.2.1 (mm_fn e.2.2.1 e.2.2.2.1).1 (mm_fn e.2.2.1 e.2.2.2.1).2.1 (mm_fn e.2.2.1 e.2.2.2.1).2.2.1 RX9
theorem mm_pF_at : ∀ e ∈ mm_pF, lw_tbl[e.2.2.2.2]? = some (mm_pFw e) := by decide +kernel
theorem mm_pN_at : ∀ e ∈ mm_pN, lw_tbl[e.2.2.2.2]? = some (mm_pNw e) := by decide +kernel
theorem mm_pI_at : ∀ e ∈ mm_pI, lw_tbl[e.2.2.2]? = some (.constant (mm_nm e.1) e.2.1 e.2.2.1) := by decide +kernel
theorem mm_pL_at : ∀ e ∈ mm_pL, lw_tbl[e.2.2.2]? = some (.constantLong (mm_nm e.1) e.2.1 e.2.2.1) := by decide +kernel
theorem mm_pF_ws {e : Nat × Nat × Nat × Nat × Nat} (h : e ∈ mm_pF) : mm_pFw e ∈ mm_ws := mm_ws_of (mm_pF_at e h) rfl
theorem mm_pI_ws {e : Nat × Nat × Int32 × Nat} (h : e ∈ mm_pI) : Cond.constant (mm_nm e.1) e.2.1 e.2.2.1 ∈ mm_ws := mm_ws_of (mm_pI_at e h) rfl
theorem mm_pL_ws {e : Nat × Nat × Int64 × Nat} (h : e ∈ mm_pL) : Cond.constantLong (mm_nm e.1) e.2.1 e.2.2.1 ∈ mm_ws := mm_ws_of (mm_pL_at e h) rfl
theorem mm_i0 : ∀ w ∈ wsX00, w ∈ mm_ws := by
  have h : ∀ k, k < 15 → lw_tbl[([372, 374, 376, 378, 380, 382, 384, 386, 388, 390, 392, 394, 396, 398, 400] : List Nat).getD k 0]? = some (u_lay RX0 TX0 k) := by decide +kernel
  have g : ∀ k, k < 15 → goodWord (u_lay RX0 TX0 k) = true := by decide +kernel
  intro w hw
  obtain ⟨k, hk, rfl⟩ := List.mem_map.mp hw
  exact mm_ws_of (h k (List.mem_range.mp hk)) (g k (List.mem_range.mp hk))
theorem mm_i1 : ∀ w ∈ wsX10, w ∈ mm_ws := by
  have h : ∀ k, k < 12 → lw_tbl[([254, 256, 258, 260, 262, 264, 266, 268, 270, 272, 274, 276] : List Nat).getD k 0]? = some (u_lay RX1 TX1 k) := by decide +kernel
  have g : ∀ k, k < 12 → goodWord (u_lay RX1 TX1 k) = true := by decide +kernel
  intro w hw
  obtain ⟨k, hk, rfl⟩ := List.mem_map.mp hw
  exact mm_ws_of (h k (List.mem_range.mp hk)) (g k (List.mem_range.mp hk))
theorem mm_i2 : ∀ w ∈ wsX20, w ∈ mm_ws := by
  have h : ∀ k, k < 6 → lw_tbl[([931, 933, 935, 937, 939, 941] : List Nat).getD k 0]? = some (u_lay RX2 TX2 k) := by decide +kernel
  have g : ∀ k, k < 6 → goodWord (u_lay RX2 TX2 k) = true := by decide +kernel
  intro w hw
  obtain ⟨k, hk, rfl⟩ := List.mem_map.mp hw
  exact mm_ws_of (h k (List.mem_range.mp hk)) (g k (List.mem_range.mp hk))
theorem mm_i3 : ∀ w ∈ wsX30, w ∈ mm_ws := by
  have h : ∀ k, k < 13 → lw_tbl[([1178, 1180, 1182, 1184, 1186, 1188, 1190, 1192, 1194, 1196, 1198, 1200, 1202] : List Nat).getD k 0]? = some (u_lay RX3 TX3 k) := by decide +kernel
  have g : ∀ k, k < 13 → goodWord (u_lay RX3 TX3 k) = true := by decide +kernel
  intro w hw
  obtain ⟨k, hk, rfl⟩ := List.mem_map.mp hw
  exact mm_ws_of (h k (List.mem_range.mp hk)) (g k (List.mem_range.mp hk))
theorem mm_i4 : ∀ w ∈ wsX40, w ∈ mm_ws := by
  have h : ∀ k, k < 5 → lw_tbl[([417, 419, 421, 423, 425] : List Nat).getD k 0]? = some (u_lay RX4 TX4 k) := by decide +kernel
  have g : ∀ k, k < 5 → goodWord (u_lay RX4 TX4 k) = true := by decide +kernel
  intro w hw
  obtain ⟨k, hk, rfl⟩ := List.mem_map.mp hw
  exact mm_ws_of (h k (List.mem_range.mp hk)) (g k (List.mem_range.mp hk))
theorem mm_i5 : ∀ w ∈ wsX50, w ∈ mm_ws := by
  have h : ∀ k, k < 4 → lw_tbl[([196, 198, 200, 202] : List Nat).getD k 0]? = some (u_lay RX5 TX5 k) := by decide +kernel
  have g : ∀ k, k < 4 → goodWord (u_lay RX5 TX5 k) = true := by decide +kernel
  intro w hw
  obtain ⟨k, hk, rfl⟩ := List.mem_map.mp hw
  exact mm_ws_of (h k (List.mem_range.mp hk)) (g k (List.mem_range.mp hk))
theorem mm_i6 : ∀ w ∈ wsX60, w ∈ mm_ws := by
  have h : ∀ k, k < 15 → lw_tbl[([296, 298, 300, 302, 304, 306, 308, 310, 312, 314, 316, 318, 320, 322, 324] : List Nat).getD k 0]? = some (u_lay RX6 TX6 k) := by decide +kernel
  have g : ∀ k, k < 15 → goodWord (u_lay RX6 TX6 k) = true := by decide +kernel
  intro w hw
  obtain ⟨k, hk, rfl⟩ := List.mem_map.mp hw
  exact mm_ws_of (h k (List.mem_range.mp hk)) (g k (List.mem_range.mp hk))
theorem mm_i7 : ∀ w ∈ wsX70, w ∈ mm_ws := by
  have h : ∀ k, k < 14 → lw_tbl[([958, 960, 962, 964, 966, 968, 970, 972, 974, 976, 978, 980, 982, 984] : List Nat).getD k 0]? = some (u_lay RX7 TX7 k) := by decide +kernel
  have g : ∀ k, k < 14 → goodWord (u_lay RX7 TX7 k) = true := by decide +kernel
  intro w hw
  obtain ⟨k, hk, rfl⟩ := List.mem_map.mp hw
  exact mm_ws_of (h k (List.mem_range.mp hk)) (g k (List.mem_range.mp hk))
theorem mm_i8 : ∀ w ∈ wsX80, w ∈ mm_ws := by
  have h : ∀ k, k < 2 → lw_tbl[([1301, 1303] : List Nat).getD k 0]? = some (u_lay RX8 TX8 k) := by decide +kernel
  have g : ∀ k, k < 2 → goodWord (u_lay RX8 TX8 k) = true := by decide +kernel
  intro w hw
  obtain ⟨k, hk, rfl⟩ := List.mem_map.mp hw
  exact mm_ws_of (h k (List.mem_range.mp hk)) (g k (List.mem_range.mp hk))
theorem mm_i9 : ∀ w ∈ wsX90, w ∈ mm_ws := by
  have h : ∀ k, k < 10 → lw_tbl[([438, 440, 442, 444, 446, 448, 450, 452, 454, 456] : List Nat).getD k 0]? = some (u_lay RX9 TX9 k) := by decide +kernel
  have g : ∀ k, k < 10 → goodWord (u_lay RX9 TX9 k) = true := by decide +kernel
  intro w hw
  obtain ⟨k, hk, rfl⟩ := List.mem_map.mp hw
  exact mm_ws_of (h k (List.mem_range.mp hk)) (g k (List.mem_range.mp hk))
theorem mm_i10 : ∀ w ∈ wsX100, w ∈ mm_ws := by
  have h : ∀ k, k < 40 → lw_tbl[([1514, 1516, 1518, 1520, 1522, 1524, 1526, 1528, 1530, 1532, 1534, 1536, 1538, 1540, 1542, 1544, 1546, 1548, 1550, 1552, 1554, 1556, 1558, 1560, 1562, 1564, 1566, 1568, 1570, 1572, 1574, 1576, 1578, 1580, 1582, 1584, 1586, 1588, 1590, 1592] : List Nat).getD k 0]? = some (u_lay RX10 TX10 k) := by decide +kernel
  have g : ∀ k, k < 40 → goodWord (u_lay RX10 TX10 k) = true := by decide +kernel
  intro w hw
  obtain ⟨k, hk, rfl⟩ := List.mem_map.mp hw
  exact mm_ws_of (h k (List.mem_range.mp hk)) (g k (List.mem_range.mp hk))
/-- what is known of the class ci -/
def mm_clf (ci : Nat) (C : String) (T : u_T) (N : Nat) : Prop := (∀ w ∈ u_ws C T N, w ∈ mm_ws) ∧ (∃ ty : Nat → FieldType, ∀ k, k < N → parseFieldDescriptor (T k).2.2.1 = some (ty k)) ∧ (∀ a, a < N → ∀ b, b < N → a ≠ b → (T a).2.1 ≠ (T b).2.1) ∧ (mm_F.getD ci []).length = N ∧ mm_nm ci = C
theorem mm_clf_of : ∀ {ci : Nat}, ci < 11 → ∃ C T N, vwCl[ci]? = some (C, T, N) ∧ mm_clf ci C T N
  | 0, _ => ⟨RX0, TX0, 15, rfl, mm_i0, ⟨tyX0, tyX0_ok⟩, nmX0, rfl, rfl⟩
  | 1, _ => ⟨RX1, TX1, 12, rfl, mm_i1, ⟨tyX1, tyX1_ok⟩, nmX1, rfl, rfl⟩
  | 2, _ => ⟨RX2, TX2, 6, rfl, mm_i2, ⟨tyX2, tyX2_ok⟩, nmX2, rfl, rfl⟩
  | 3, _ => ⟨RX3, TX3, 13, rfl, mm_i3, ⟨tyX3, tyX3_ok⟩, nmX3, rfl, rfl⟩
  | 4, _ => ⟨RX4, TX4, 5, rfl, mm_i4, ⟨tyX4, tyX4_ok⟩, nmX4, rfl, rfl⟩
  | 5, _ => ⟨RX5, TX5, 4, rfl, mm_i5, ⟨tyX5, tyX5_ok⟩, nmX5, rfl, rfl⟩
  | 6, _ => ⟨RX6, TX6, 15, rfl, mm_i6, ⟨tyX6, tyX6_ok⟩, nmX6, rfl, rfl⟩
  | 7, _ => ⟨RX7, TX7, 14, rfl, mm_i7, ⟨tyX7, tyX7_ok⟩, nmX7, rfl, rfl⟩
  | 8, _ => ⟨RX8, TX8, 2, rfl, mm_i8, ⟨tyX8, tyX8_ok⟩, nmX8, rfl, rfl⟩
  | 9, _ => ⟨RX9, TX9, 10, rfl, mm_i9, ⟨tyX9, tyX9_ok⟩, nmX9, rfl, rfl⟩
  | 10, _ => ⟨RX10, TX10, 40, rfl, mm_i10, ⟨tyX10, tyX10_ok⟩, nmX10, rfl, rfl⟩
  | n + 11, h => absurd h (by omega)
