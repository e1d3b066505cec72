/-! the words that the tables give: by their places in lw_tbl -/
def mm_nm (k : Nat) : String := [RX0, RX1, RX2, RX3, RX4, RX5, RX6, RX7, RX8, RX9, RX10, RL, RJ6, RJ7, RJ9].getD k ""
def mm_ws : List Cond := lw_tbl.filter goodWord
theorem mm_ws_of {w : Cond} {i : Nat} (h : lw_tbl[i]? = some w) (hg : goodWord w = true) : w ∈ mm_ws := List.mem_filter.mpr ⟨List.mem_of_getElem? h, hg⟩
def mm_pF : List (Nat × Nat × Nat × Nat × Nat) := [(5, 18, 5, 0, 181), (5, 9, 5, 1, 182), (5, 15, 5, 2, 185), (5, 22, 5, 3, 188), (1, 14, 1, 0, 206), (1, 20, 1, 1, 210), (1, 24, 1, 2, 214), (1, 27, 1, 3, 219), (1, 30, 1, 4, 223), (1, 33, 1, 5, 226), (1, 43, 1, 6, 229), (1, 46, 1, 7, 234), (1, 49, 1, 8, 238), (1, 36, 1, 9, 242), (1, 52, 1, 10, 245), (1, 56, 1, 11, 248), (6, 11, 6, 0, 277), (6, 33, 6, 1, 278), (6, 46, 6, 2, 280), (6, 65, 6, 3, 281), (6, 75, 6, 4, 282), (6, 49, 6, 5, 283), (6, 207, 6, 6, 284), (6, 223, 6, 7, 285), (6, 139, 6, 8, 286), (6, 15, 6, 9, 287), (6, 19, 6, 10, 288), (6, 23, 6, 11, 289), (6, 52, 6, 12, 290), (6, 29, 6, 13, 291), (6, 55, 6, 14, 293), (0, 14, 0, 0, 333), (0, 43, 0, 1, 338), (0, 59, 0, 2, 341), (0, 18, 0, 3, 346), (0, 22, 0, 4, 350), (0, 25, 0, 5, 353), (0, 28, 0, 6, 356), (0, 126, 0, 7, 359), (0, 31, 0, 8, 361), (0, 34, 0, 9, 362), (0, 37, 0, 10, 364), (0, 129, 0, 11, 365), (0, 40, 0, 12, 366), (0, 62, 0, 13, 367), (0, 161, 0, 14, 369), (4, 18, 4, 0, 407), (4, 11, 4, 1, 409), (4, 22, 4, 2, 410), (4, 15, 4, 3, 412), (4, 25, 4, 4, 413), (9, 12, 9, 0, 426), (9, 70, 9, 1, 427), (9, 19, 9, 2, 428), (9, 26, 9, 3, 429), (9, 320, 9, 4, 430), (9, 327, 9, 5, 431), (9, 332, 9, 6, 432), (9, 86, 9, 7, 433), (9, 49, 9, 8, 434), (9, 56, 9, 9, 435), (2, 23, 2, 0, 920), (2, 9, 2, 1, 921), (2, 15, 2, 2, 923), (2, 27, 2, 3, 925), (2, 20, 2, 4, 927), (2, 31, 2, 5, 928), (7, 32, 7, 0, 942), (7, 41, 7, 1, 943), (7, 13, 7, 2, 944), (7, 17, 7, 3, 945), (7, 20, 7, 4, 946), (7, 103, 7, 5, 947), (7, 23, 7, 6, 948), (7, 26, 7, 7, 949), (7, 29, 7, 8, 950), (7, 45, 7, 9, 951), (7, 52, 7, 10, 952), (7, 55, 7, 11, 953), (7, 58, 7, 12, 954), (7, 61, 7, 13, 955), (3, 37, 3, 0, 1163), (3, 74, 3, 1, 1164), (3, 15, 3, 2, 1165), (3, 18, 3, 3, 1166), (3, 21, 3, 4, 1167), (3, 24, 3, 5, 1168), (3, 28, 3, 6, 1169), (3, 31, 3, 7, 1170), (3, 34, 3, 8, 1171), (3, 68, 3, 9, 1172), (3, 44, 3, 10, 1173), (3, 48, 3, 11, 1174), (3, 51, 3, 12, 1175), (8, 15, 8, 0, 1290), (8, 9, 8, 1, 1291), (10, 72, 10, 0, 1465), (10, 7, 10, 1, 1466), (10, 78, 10, 2, 1467), (10, 81, 10, 3, 1468), (10, 91, 10, 4, 1469), (10, 84, 10, 5, 1470), (10, 100, 10, 6, 1471), (10, 97, 10, 7, 1472), (10, 94, 10, 8, 1473), (10, 114, 10, 9, 1474), (10, 13, 10, 10, 1475), (10, 75, 10, 11, 1476), (10, 17, 10, 12, 1477), (10, 110, 10, 13, 1478), (10, 187, 10, 14, 1479), (10, 20, 10, 15, 1480), (10, 23, 10, 16, 1481), (10, 199, 10, 17, 1482), (10, 202, 10, 18, 1483), (10, 190, 10, 19, 1484), (10, 193, 10, 20, 1485), (10, 26, 10, 21, 1486), (10, 29, 10, 22, 1487), (10, 32, 10, 23, 1488), (10, 35, 10, 24, 1489), (10, 38, 10, 25, 1490), (10, 41, 10, 26, 1491), (10, 281, 10, 27, 1492), (10, 44, 10, 28, 1493), (10, 47, 10, 29, 1494), (10, 50, 10, 30, 1495), (10, 53, 10, 31, 1496), (10, 324, 10, 32, 1497), (10, 339, 10, 33, 1498), (10, 336, 10, 34, 1499), (10, 342, 10, 35, 1500), (10, 58, 10, 36, 1501), (10, 62, 10, 37, 1502), (10, 65, 10, 38, 1503), (10, 69, 10, 39, 1504)]
def mm_pN : List (Nat × Nat × Nat × Nat × Nat) := [(0, 80, 5, 1, 183), (9, 99, 5, 1, 184), (0, 83, 5, 2, 186), (9, 105, 5, 2, 187), (1, 39, 5, 3, 189), (0, 51, 5, 3, 190), (6, 151, 5, 3, 191), (7, 149, 5, 3, 192), (9, 272, 5, 3, 193), (0, 77, 1, 0, 207), (9, 93, 1, 0, 208), (6, 89, 1, 0, 209), (0, 86, 1, 1, 211), (9, 108, 1, 1, 212), (6, 166, 1, 1, 213), (0, 47, 1, 2, 215), (6, 102, 1, 2, 216), (7, 143, 1, 2, 217), (9, 301, 1, 2, 218), (6, 107, 1, 3, 220), (0, 179, 1, 3, 221), (9, 269, 1, 3, 222), (0, 117, 1, 4, 224), (6, 185, 1, 4, 225), (0, 114, 1, 5, 227), (6, 189, 1, 5, 228), (0, 56, 1, 6, 230), (6, 180, 1, 6, 231), (7, 167, 1, 6, 232), (9, 304, 1, 6, 233), (6, 128, 1, 7, 235), (0, 139, 1, 7, 236), (9, 307, 1, 7, 237), (6, 144, 1, 8, 239), (9, 204, 1, 8, 240), (0, 173, 1, 8, 241), (3, 88, 1, 9, 243), (6, 195, 1, 9, 244), (6, 191, 1, 10, 246), (9, 310, 1, 10, 247), (8, 63, 1, 11, 249), (6, 197, 1, 11, 250), (9, 313, 1, 11, 251), (9, 38, 6, 1, 279), (9, 63, 6, 13, 292), (9, 59, 0, 0, 334), (8, 59, 0, 0, 335), (3, 84, 0, 0, 336), (7, 139, 0, 0, 337), (7, 49, 0, 1, 339), (3, 77, 0, 1, 340), (8, 32, 0, 2, 342), (9, 80, 0, 2, 343), (2, 37, 0, 2, 344), (3, 96, 0, 2, 345), (2, 47, 0, 3, 347), (9, 114, 0, 3, 348), (7, 158, 0, 3, 349), (8, 35, 0, 4, 351), (3, 103, 0, 4, 352), (8, 42, 0, 5, 354), (3, 121, 0, 5, 355), (8, 29, 0, 6, 357), (8, 23, 0, 7, 358), (3, 118, 0, 7, 360), (9, 145, 0, 9, 363), (7, 80, 0, 13, 368), (9, 148, 4, 0, 408), (9, 292, 4, 2, 411), (9, 295, 4, 4, 414), (7, 109, 2, 1, 922), (7, 124, 2, 2, 924), (7, 106, 2, 3, 926)]
def mm_pI : List (Nat × Nat × Int32 × Nat) := [(12, 265, 1431655765, 837), (12, 266, 858993459, 838), (12, 267, 252645135, 839), (7, 132, 1000000, 1042), (10, 57, 81920, 1463), (10, 61, 262144, 1464), (10, 400, 1000000, 2018)]
def mm_pL : List (Nat × Nat × Int64 × Nat) := [(6, 238, 32, 499), (9, 230, -1, 1150), (10, 382, -1, 1970)]
def mm_pS : List (Nat × Nat × Nat × Nat) := [(6, 78, 98, 511), (6, 131, 99, 572), (6, 142, 100, 581), (6, 87, 101, 582), (6, 100, 102, 599), (6, 105, 103, 600), (6, 110, 104, 601), (6, 115, 105, 602), (6, 120, 106, 603), (6, 199, 107, 604), (6, 157, 108, 609), (6, 172, 109, 627), (6, 174, 110, 628), (6, 176, 111, 629), (6, 178, 112, 630), (6, 183, 113, 639), (6, 187, 114, 640), (10, 141, 98, 1628), (10, 236, 99, 1647), (10, 241, 100, 1664), (10, 143, 101, 1665), (10, 145, 102, 1678), (10, 146, 103, 1679), (10, 148, 104, 1680), (10, 150, 105, 1681), (10, 152, 106, 1682), (10, 154, 107, 1683), (10, 243, 108, 1692), (10, 253, 109, 1701), (10, 255, 110, 1702), (10, 257, 111, 1703), (10, 259, 112, 1704), (10, 261, 113, 1717), (10, 263, 114, 1718)]
def mm_fn (ci k : Nat) : String × String × String × Bool := ((vwCl.getD ci ("", fun _ => ("", "", "", false), 0)).2.1 k)
def mm_pFw (e : Nat × Nat × Nat × Nat × Nat) : Cond := .fieldLink (mm_nm e.1) e.2.1 (mm_fn e.2.2.1 e.2.2.2.1).1 (mm_fn e.2.2.1 e.2.2.2.1).2.1 (mm_fn e.2.2.1 e.2.2.2.1).2.2.1
def mm_pNw (e : Nat × Nat × Nat × Nat × Nat) : Cond := .fieldLinkNest (mm_nm e.1) e.2.1 (mm_fn e.2.2.1 e.2.2.2.1).1 (mm_fn e.2.2.1 e.2.2.2.1).2.1 (mm_fn e.2.2.1 e.2.2.2.1).2.2.1 RX9
theorem mm_pF_at : ∀ e ∈ mm_pF, lw_tbl[e.2.2.2.2]? = some (mm_pFw e) := by decide +kernel
theorem mm_pN_at : ∀ e ∈ mm_pN, lw_tbl[e.2.2.2.2]? = some (mm_pNw e) := by decide +kernel
theorem mm_pI_at : ∀ e ∈ mm_pI, lw_tbl[e.2.2.2]? = some (.constant (mm_nm e.1) e.2.1 e.2.2.1) := by decide +kernel
theorem mm_pL_at : ∀ e ∈ mm_pL, lw_tbl[e.2.2.2]? = some (.constantLong (mm_nm e.1) e.2.1 e.2.2.1) := by decide +kernel
theorem mm_pF_ws {e : Nat × Nat × Nat × Nat × Nat} (h : e ∈ mm_pF) : mm_pFw e ∈ mm_ws := mm_ws_of (mm_pF_at e h) rfl
theorem mm_pI_ws {e : Nat × Nat × Int32 × Nat} (h : e ∈ mm_pI) : Cond.constant (mm_nm e.1) e.2.1 e.2.2.1 ∈ mm_ws := mm_ws_of (mm_pI_at e h) rfl
theorem mm_pL_ws {e : Nat × Nat × Int64 × Nat} (h : e ∈ mm_pL) : Cond.constantLong (mm_nm e.1) e.2.1 e.2.2.1 ∈ mm_ws := mm_ws_of (mm_pL_at e h) rfl
theorem mm_i0 : ∀ w ∈ wsX00, w ∈ mm_ws := by
  have h : ∀ k, k < 15 → lw_tbl[([370, 372, 374, 376, 378, 380, 382, 384, 386, 388, 390, 392, 394, 396, 398] : List Nat).getD k 0]? = some (u_lay RX0 TX0 k) := by decide +kernel
  have g : ∀ k, k < 15 → goodWord (u_lay RX0 TX0 k) = true := by decide +kernel
  intro w hw
  obtain ⟨k, hk, rfl⟩ := List.mem_map.mp hw
  exact mm_ws_of (h k (List.mem_range.mp hk)) (g k (List.mem_range.mp hk))
theorem mm_i1 : ∀ w ∈ wsX10, w ∈ mm_ws := by
  have h : ∀ k, k < 12 → lw_tbl[([252, 254, 256, 258, 260, 262, 264, 266, 268, 270, 272, 274] : List Nat).getD k 0]? = some (u_lay RX1 TX1 k) := by decide +kernel
  have g : ∀ k, k < 12 → goodWord (u_lay RX1 TX1 k) = true := by decide +kernel
  intro w hw
  obtain ⟨k, hk, rfl⟩ := List.mem_map.mp hw
  exact mm_ws_of (h k (List.mem_range.mp hk)) (g k (List.mem_range.mp hk))
theorem mm_i2 : ∀ w ∈ wsX20, w ∈ mm_ws := by
  have h : ∀ k, k < 6 → lw_tbl[([929, 931, 933, 935, 937, 939] : List Nat).getD k 0]? = some (u_lay RX2 TX2 k) := by decide +kernel
  have g : ∀ k, k < 6 → goodWord (u_lay RX2 TX2 k) = true := by decide +kernel
  intro w hw
  obtain ⟨k, hk, rfl⟩ := List.mem_map.mp hw
  exact mm_ws_of (h k (List.mem_range.mp hk)) (g k (List.mem_range.mp hk))
theorem mm_i3 : ∀ w ∈ wsX30, w ∈ mm_ws := by
  have h : ∀ k, k < 13 → lw_tbl[([1176, 1178, 1180, 1182, 1184, 1186, 1188, 1190, 1192, 1194, 1196, 1198, 1200] : List Nat).getD k 0]? = some (u_lay RX3 TX3 k) := by decide +kernel
  have g : ∀ k, k < 13 → goodWord (u_lay RX3 TX3 k) = true := by decide +kernel
  intro w hw
  obtain ⟨k, hk, rfl⟩ := List.mem_map.mp hw
  exact mm_ws_of (h k (List.mem_range.mp hk)) (g k (List.mem_range.mp hk))
theorem mm_i4 : ∀ w ∈ wsX40, w ∈ mm_ws := by
  have h : ∀ k, k < 5 → lw_tbl[([415, 417, 419, 421, 423] : List Nat).getD k 0]? = some (u_lay RX4 TX4 k) := by decide +kernel
  have g : ∀ k, k < 5 → goodWord (u_lay RX4 TX4 k) = true := by decide +kernel
  intro w hw
  obtain ⟨k, hk, rfl⟩ := List.mem_map.mp hw
  exact mm_ws_of (h k (List.mem_range.mp hk)) (g k (List.mem_range.mp hk))
theorem mm_i5 : ∀ w ∈ wsX50, w ∈ mm_ws := by
  have h : ∀ k, k < 4 → lw_tbl[([194, 196, 198, 200] : List Nat).getD k 0]? = some (u_lay RX5 TX5 k) := by decide +kernel
  have g : ∀ k, k < 4 → goodWord (u_lay RX5 TX5 k) = true := by decide +kernel
  intro w hw
  obtain ⟨k, hk, rfl⟩ := List.mem_map.mp hw
  exact mm_ws_of (h k (List.mem_range.mp hk)) (g k (List.mem_range.mp hk))
theorem mm_i6 : ∀ w ∈ wsX60, w ∈ mm_ws := by
  have h : ∀ k, k < 15 → lw_tbl[([294, 296, 298, 300, 302, 304, 306, 308, 310, 312, 314, 316, 318, 320, 322] : List Nat).getD k 0]? = some (u_lay RX6 TX6 k) := by decide +kernel
  have g : ∀ k, k < 15 → goodWord (u_lay RX6 TX6 k) = true := by decide +kernel
  intro w hw
  obtain ⟨k, hk, rfl⟩ := List.mem_map.mp hw
  exact mm_ws_of (h k (List.mem_range.mp hk)) (g k (List.mem_range.mp hk))
theorem mm_i7 : ∀ w ∈ wsX70, w ∈ mm_ws := by
  have h : ∀ k, k < 14 → lw_tbl[([956, 958, 960, 962, 964, 966, 968, 970, 972, 974, 976, 978, 980, 982] : List Nat).getD k 0]? = some (u_lay RX7 TX7 k) := by decide +kernel
  have g : ∀ k, k < 14 → goodWord (u_lay RX7 TX7 k) = true := by decide +kernel
  intro w hw
  obtain ⟨k, hk, rfl⟩ := List.mem_map.mp hw
  exact mm_ws_of (h k (List.mem_range.mp hk)) (g k (List.mem_range.mp hk))
theorem mm_i8 : ∀ w ∈ wsX80, w ∈ mm_ws := by
  have h : ∀ k, k < 2 → lw_tbl[([1292, 1294] : List Nat).getD k 0]? = some (u_lay RX8 TX8 k) := by decide +kernel
  have g : ∀ k, k < 2 → goodWord (u_lay RX8 TX8 k) = true := by decide +kernel
  intro w hw
  obtain ⟨k, hk, rfl⟩ := List.mem_map.mp hw
  exact mm_ws_of (h k (List.mem_range.mp hk)) (g k (List.mem_range.mp hk))
theorem mm_i9 : ∀ w ∈ wsX90, w ∈ mm_ws := by
  have h : ∀ k, k < 10 → lw_tbl[([436, 438, 440, 442, 444, 446, 448, 450, 452, 454] : List Nat).getD k 0]? = some (u_lay RX9 TX9 k) := by decide +kernel
  have g : ∀ k, k < 10 → goodWord (u_lay RX9 TX9 k) = true := by decide +kernel
  intro w hw
  obtain ⟨k, hk, rfl⟩ := List.mem_map.mp hw
  exact mm_ws_of (h k (List.mem_range.mp hk)) (g k (List.mem_range.mp hk))
theorem mm_i10 : ∀ w ∈ wsX100, w ∈ mm_ws := by
  have h : ∀ k, k < 40 → lw_tbl[([1505, 1507, 1509, 1511, 1513, 1515, 1517, 1519, 1521, 1523, 1525, 1527, 1529, 1531, 1533, 1535, 1537, 1539, 1541, 1543, 1545, 1547, 1549, 1551, 1553, 1555, 1557, 1559, 1561, 1563, 1565, 1567, 1569, 1571, 1573, 1575, 1577, 1579, 1581, 1583] : List Nat).getD k 0]? = some (u_lay RX10 TX10 k) := by decide +kernel
  have g : ∀ k, k < 40 → goodWord (u_lay RX10 TX10 k) = true := by decide +kernel
  intro w hw
  obtain ⟨k, hk, rfl⟩ := List.mem_map.mp hw
  exact mm_ws_of (h k (List.mem_range.mp hk)) (g k (List.mem_range.mp hk))
/-- what is known of the class ci -/
def mm_clf (ci : Nat) (C : String) (T : u_T) (N : Nat) : Prop := (∀ w ∈ u_ws C T N, w ∈ mm_ws) ∧ (∃ ty : Nat → FieldType, ∀ k, k < N → parseFieldDescriptor (T k).2.2.1 = some (ty k)) ∧ (∀ a, a < N → ∀ b, b < N → a ≠ b → (T a).2.1 ≠ (T b).2.1) ∧ (mm_F.getD ci []).length = N ∧ mm_nm ci = C
theorem mm_clf_of : ∀ {ci : Nat}, ci < 11 → ∃ C T N, vwCl[ci]? = some (C, T, N) ∧ mm_clf ci C T N
  | 0, _ => ⟨RX0, TX0, 15, rfl, mm_i0, ⟨tyX0, tyX0_ok⟩, nmX0, rfl, rfl⟩
  | 1, _ => ⟨RX1, TX1, 12, rfl, mm_i1, ⟨tyX1, tyX1_ok⟩, nmX1, rfl, rfl⟩
  | 2, _ => ⟨RX2, TX2, 6, rfl, mm_i2, ⟨tyX2, tyX2_ok⟩, nmX2, rfl, rfl⟩
  | 3, _ => ⟨RX3, TX3, 13, rfl, mm_i3, ⟨tyX3, tyX3_ok⟩, nmX3, rfl, rfl⟩
  | 4, _ => ⟨RX4, TX4, 5, rfl, mm_i4, ⟨tyX4, tyX4_ok⟩, nmX4, rfl, rfl⟩
  | 5, _ => ⟨RX5, TX5, 4, rfl, mm_i5, ⟨tyX5, tyX5_ok⟩, nmX5, rfl, rfl⟩
  | 6, _ => ⟨RX6, TX6, 15, rfl, mm_i6, ⟨tyX6, tyX6_ok⟩, nmX6, rfl, rfl⟩
  | 7, _ => ⟨RX7, TX7, 14, rfl, mm_i7, ⟨tyX7, tyX7_ok⟩, nmX7, rfl, rfl⟩
  | 8, _ => ⟨RX8, TX8, 2, rfl, mm_i8, ⟨tyX8, tyX8_ok⟩, nmX8, rfl, rfl⟩
  | 9, _ => ⟨RX9, TX9, 10, rfl, mm_i9, ⟨tyX9, tyX9_ok⟩, nmX9, rfl, rfl⟩
  | 10, _ => ⟨RX10, TX10, 40, rfl, mm_i10, ⟨tyX10, tyX10_ok⟩, nmX10, rfl, rfl⟩
  | n + 11, h => absurd h (by omega)
