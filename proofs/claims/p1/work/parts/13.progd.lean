/-! the methods as rows of instructions, and that their bytes say so -/
def bk_111 : List mmB := /- X9 feed -/ [
  (0, [true, true, true, true, true, true], [(.aload_n 0, 1, 0, 0, 0, 0, 0), (.getfield 12, 3, 9, 0, 2, 0, 0), (.invokevirtual 30, 3, 56, 1, 1, 0, 0), (.ifCond .ne 5, 3, 12, 0, 0, 0, 0), (.iconst (-1), 1, 0, 0, 0, (-1), 0), (.ireturn, 1, 0, 0, 0, 0, 0)]),
  (12, [true, true, true, true, true, true], [(.aload_n 0, 1, 0, 0, 0, 0, 0), (.getfield 12, 3, 9, 0, 2, 0, 0), (.iload_n 1, 1, 0, 0, 0, 0, 0), (.invokevirtual 34, 3, 57, 2, 0, 0, 0), (.aload_n 0, 1, 0, 0, 0, 0, 0), (.getfield 12, 3, 9, 0, 2, 0, 0), (.iload_n 2, 1, 0, 0, 0, 0, 0), (.invokevirtual 34, 3, 57, 2, 0, 0, 0), (.aload_n 0, 1, 0, 0, 0, 0, 0), (.getfield 12, 3, 9, 0, 2, 0, 0), (.iload_n 3, 1, 0, 0, 0, 0, 0), (.invokevirtual 34, 3, 57, 2, 0, 0, 0), (.aload_n 0, 1, 0, 0, 0, 0, 0), (.getfield 12, 3, 9, 0, 2, 0, 0), (.iload 4, 2, 0, 0, 0, 0, 0), (.invokevirtual 34, 3, 57, 2, 0, 0, 0), (.aload_n 0, 1, 0, 0, 0, 0, 0), (.getfield 12, 3, 9, 0, 2, 0, 0), (.iload 5, 2, 0, 0, 0, 0, 0), (.invokevirtual 34, 3, 57, 2, 0, 0, 0), (.aload_n 0, 1, 0, 0, 0, 0, 0), (.getfield 12, 3, 9, 0, 2, 0, 0), (.getfield 38, 3, 6, 1, 0, 0, 0), (.ireturn, 1, 0, 0, 0, 0, 0)])
]
theorem ck_111 : (bk_111.all fun q => mm_ckr 9 cX9_feed q.2.2 q.1) = true := by decide +kernel
def bk_112 : List mmB := /- X9 cake -/ [
  (0, [true, true, false], [(.iload_n 1, 1, 0, 0, 0, 0, 0), (.ifCond .lt 14, 3, 15, 0, 0, 0, 0), (.iload_n 1, 1, 0, 0, 0, 0, 0), (.aload_n 0, 1, 0, 0, 0, 0, 0), (.getfield 12, 3, 9, 0, 2, 0, 0), (.getfield 38, 3, 6, 1, 0, 0, 0), (.if_icmp .le 9, 3, 21, 0, 0, 0, 0)]),
  (15, [true, false, false], [(.aload_n 0, 1, 0, 0, 0, 0, 0), (.iconst 2, 1, 0, 0, 0, 2, 0), (.invokevirtual 42, 3, 159, 2, 1, 0, 0), (.ireturn, 1, 0, 0, 0, 0, 0)]),
  (21, [true, true, false], [(.aload_n 0, 1, 0, 0, 0, 0, 0), (.aload_n 0, 1, 0, 0, 0, 0, 0), (.getfield 12, 3, 9, 0, 2, 0, 0), (.iload_n 1, 1, 0, 0, 0, 0, 0), (.invokevirtual 46, 3, 58, 2, 1, 0, 0), (.putfield 49, 3, 9, 8, 0, 0, 0), (.aload_n 0, 1, 0, 0, 0, 0, 0), (.aload_n 0, 1, 0, 0, 0, 0, 0), (.getfield 12, 3, 9, 0, 2, 0, 0), (.invokevirtual 52, 3, 59, 1, 1, 0, 0), (.putfield 56, 3, 9, 9, 0, 0, 0), (.aload_n 0, 1, 0, 0, 0, 0, 0), (.getfield 49, 3, 9, 8, 0, 0, 0), (.ifCond .eq 9, 3, 57, 0, 0, 0, 0), (.aload_n 0, 1, 0, 0, 0, 0, 0), (.iconst 4, 1, 0, 0, 0, 4, 0), (.invokevirtual 42, 3, 159, 2, 1, 0, 0), (.ireturn, 1, 0, 0, 0, 0, 0)]),
  (57, [true, false, false], [(.aload_n 0, 1, 0, 0, 0, 0, 0), (.getfield 19, 3, 9, 2, 2, 0, 0), (.getfield 59, 3, 0, 0, 3, 0, 0), (.astore_n 2, 1, 0, 0, 0, 0, 0), (.aload_n 0, 1, 0, 0, 0, 0, 0), (.getfield 19, 3, 9, 2, 2, 0, 0), (.aload_n 0, 1, 0, 0, 0, 0, 0), (.getfield 12, 3, 9, 0, 2, 0, 0), (.getfield 63, 3, 6, 13, 4, 0, 0), (.invokevirtual 66, 3, 0, 2, 0, 0, 0), (.aload_n 0, 1, 0, 0, 0, 0, 0), (.getfield 12, 3, 9, 0, 2, 0, 0), (.aload_n 2, 1, 0, 0, 0, 0, 0), (.putfield 63, 3, 6, 13, 4, 0, 0), (.aload_n 0, 1, 0, 0, 0, 0, 0), (.iconst 1, 1, 0, 0, 0, 1, 0), (.putfield 70, 3, 9, 1, 5, 0, 0), (.aload_n 0, 1, 0, 0, 0, 0, 0), (.getfield 26, 3, 9, 3, 2, 0, 0), (.aload_n 0, 1, 0, 0, 0, 0, 0), (.getfield 19, 3, 9, 2, 2, 0, 0), (.invokevirtual 74, 3, 16, 1, 1, 0, 0), (.invokevirtual 77, 3, 49, 2, 0, 0, 0), (.aload_n 0, 1, 0, 0, 0, 0, 0), (.aload_n 0, 1, 0, 0, 0, 0, 0), (.getfield 19, 3, 9, 2, 2, 0, 0), (.getfield 80, 3, 0, 2, 0, 0, 0), (.invokevirtual 83, 3, 160, 2, 1, 0, 0), (.ireturn, 1, 0, 0, 0, 0, 0)])
]
theorem ck_112 : (bk_112.all fun q => mm_ckr 9 cX9_cake q.2.2 q.1) = true := by decide +kernel
def bk_113 : List mmB := /- X9 fault -/ [
  (0, [true], [(.aload_n 0, 1, 0, 0, 0, 0, 0), (.getfield 49, 3, 9, 8, 0, 0, 0), (.ireturn, 1, 0, 0, 0, 0, 0)])
]
theorem ck_113 : (bk_113.all fun q => mm_ckr 9 cX9_fault q.2.2 q.1) = true := by decide +kernel
def bk_114 : List mmB := /- X9 where -/ [
  (0, [true], [(.aload_n 0, 1, 0, 0, 0, 0, 0), (.getfield 86, 3, 9, 7, 0, 0, 0), (.iconst 4, 1, 0, 0, 0, 4, 0), (.if_icmp .ne 10, 3, 15, 0, 0, 0, 0), (.aload_n 0, 1, 0, 0, 0, 0, 0), (.getfield 56, 3, 9, 9, 0, 0, 0), (.goto 4, 3, 16, 0, 0, 0, 0)]),
  (15, [false], [(.iconst (-1), 1, 0, 0, 0, (-1), 0)]),
  (16, [false], [(.ireturn, 1, 0, 0, 0, 0, 0)])
]
theorem ck_114 : (bk_114.all fun q => mm_ckr 9 cX9_where q.2.2 q.1) = true := by decide +kernel
def bk_115 : List mmB := /- X9 candle -/ [
  (0, [true, true, true], [(.aload_n 0, 1, 0, 0, 0, 0, 0), (.iload_n 1, 1, 0, 0, 0, 0, 0), (.invokevirtual 89, 3, 153, 2, 1, 0, 0), (.ifCond .eq 12, 3, 17, 0, 0, 0, 0), (.iload_n 2, 1, 0, 0, 0, 0, 0), (.ifCond .lt 8, 3, 17, 0, 0, 0, 0), (.iload_n 2, 1, 0, 0, 0, 0, 0), (.iconst 2, 1, 0, 0, 0, 2, 0), (.if_icmp .le 9, 3, 23, 0, 0, 0, 0)]),
  (17, [true, false, false], [(.aload_n 0, 1, 0, 0, 0, 0, 0), (.iconst 1, 1, 0, 0, 0, 1, 0), (.invokevirtual 42, 3, 159, 2, 1, 0, 0), (.ireturn, 1, 0, 0, 0, 0, 0)]),
  (23, [true, true, true], [(.iload_n 2, 1, 0, 0, 0, 0, 0), (.ifCond .ne 23, 3, 47, 0, 0, 0, 0), (.aload_n 0, 1, 0, 0, 0, 0, 0), (.aload_n 0, 1, 0, 0, 0, 0, 0), (.getfield 19, 3, 9, 2, 2, 0, 0), (.getfield 59, 3, 0, 0, 3, 0, 0), (.getfield 93, 3, 1, 0, 2, 0, 0), (.getfield 99, 3, 5, 1, 2, 0, 0), (.iload_n 1, 1, 0, 0, 0, 0, 0), (.iaload, 1, 0, 0, 0, 0, 0), (.invokevirtual 83, 3, 160, 2, 1, 0, 0), (.ireturn, 1, 0, 0, 0, 0, 0)]),
  (47, [true, true, true], [(.aload_n 0, 1, 0, 0, 0, 0, 0), (.iload_n 2, 1, 0, 0, 0, 0, 0), (.iconst 1, 1, 0, 0, 0, 1, 0), (.if_icmp .ne 21, 3, 71, 0, 0, 0, 0), (.aload_n 0, 1, 0, 0, 0, 0, 0), (.getfield 19, 3, 9, 2, 2, 0, 0), (.getfield 59, 3, 0, 0, 3, 0, 0), (.getfield 93, 3, 1, 0, 2, 0, 0), (.getfield 105, 3, 5, 2, 2, 0, 0), (.iload_n 1, 1, 0, 0, 0, 0, 0), (.iaload, 1, 0, 0, 0, 0, 0), (.goto 15, 3, 83, 0, 0, 0, 0)]),
  (71, [true, true, false], [(.aload_n 0, 1, 0, 0, 0, 0, 0), (.getfield 19, 3, 9, 2, 2, 0, 0), (.getfield 59, 3, 0, 0, 3, 0, 0), (.getfield 108, 3, 1, 1, 2, 0, 0), (.iload_n 1, 1, 0, 0, 0, 0, 0), (.iaload, 1, 0, 0, 0, 0, 0)]),
  (83, [false, false, false], [(.invokevirtual 83, 3, 160, 2, 1, 0, 0), (.ireturn, 1, 0, 0, 0, 0, 0)])
]
theorem ck_115 : (bk_115.all fun q => mm_ckr 9 cX9_candle q.2.2 q.1) = true := by decide +kernel
def bk_116 : List mmB := /- X9 fan -/ [
  (0, [true, true], [(.aload_n 0, 1, 0, 0, 0, 0, 0), (.iload_n 1, 1, 0, 0, 0, 0, 0), (.invokevirtual 111, 3, 156, 2, 1, 0, 0), (.ifCond .eq 19, 3, 24, 0, 0, 0, 0), (.aload_n 0, 1, 0, 0, 0, 0, 0), (.aload_n 0, 1, 0, 0, 0, 0, 0), (.getfield 19, 3, 9, 2, 2, 0, 0), (.getfield 114, 3, 0, 3, 2, 0, 0), (.iload_n 1, 1, 0, 0, 0, 0, 0), (.iaload, 1, 0, 0, 0, 0, 0), (.invokevirtual 83, 3, 160, 2, 1, 0, 0), (.goto 8, 3, 29, 0, 0, 0, 0)]),
  (24, [true, false], [(.aload_n 0, 1, 0, 0, 0, 0, 0), (.iconst 1, 1, 0, 0, 0, 1, 0), (.invokevirtual 42, 3, 159, 2, 1, 0, 0)]),
  (29, [false, false], [(.ireturn, 1, 0, 0, 0, 0, 0)])
]
theorem ck_116 : (bk_116.all fun q => mm_ckr 9 cX9_fan q.2.2 q.1) = true := by decide +kernel
def bk_117 : List mmB := /- X9 breath -/ [
  (0, [true, true, true, true], [(.aload_n 0, 1, 0, 0, 0, 0, 0), (.iload_n 1, 1, 0, 0, 0, 0, 0), (.invokevirtual 117, 3, 155, 2, 1, 0, 0), (.ifCond .eq 21, 3, 26, 0, 0, 0, 0), (.aload_n 0, 1, 0, 0, 0, 0, 0), (.iload_n 2, 1, 0, 0, 0, 0, 0), (.invokevirtual 120, 3, 154, 2, 1, 0, 0), (.ifCond .eq 13, 3, 26, 0, 0, 0, 0), (.iload_n 3, 1, 0, 0, 0, 0, 0), (.ifCond .lt 9, 3, 26, 0, 0, 0, 0), (.iload_n 3, 1, 0, 0, 0, 0, 0), (.bipush 16, 2, 0, 0, 0, 16, 0), (.if_icmp .lt 9, 3, 32, 0, 0, 0, 0)]),
  (26, [true, false, false, false], [(.aload_n 0, 1, 0, 0, 0, 0, 0), (.iconst 1, 1, 0, 0, 0, 1, 0), (.invokevirtual 42, 3, 159, 2, 1, 0, 0), (.ireturn, 1, 0, 0, 0, 0, 0)]),
  (32, [true, true, true, true], [(.aload_n 0, 1, 0, 0, 0, 0, 0), (.aload_n 0, 1, 0, 0, 0, 0, 0), (.getfield 19, 3, 9, 2, 2, 0, 0), (.iload_n 1, 1, 0, 0, 0, 0, 0), (.iload_n 2, 1, 0, 0, 0, 0, 0), (.iload_n 3, 1, 0, 0, 0, 0, 0), (.invokevirtual 123, 3, 9, 4, 1, 0, 0), (.invokevirtual 83, 3, 160, 2, 1, 0, 0), (.ireturn, 1, 0, 0, 0, 0, 0)])
]
theorem ck_117 : (bk_117.all fun q => mm_ckr 9 cX9_breath q.2.2 q.1) = true := by decide +kernel
def bk_118 : List mmB := /- X9 breathOf -/ [
  (0, [true, true, true], [(.aload_n 0, 1, 0, 0, 0, 0, 0), (.iload_n 1, 1, 0, 0, 0, 0, 0), (.invokevirtual 111, 3, 156, 2, 1, 0, 0), (.ifCond .eq 12, 3, 17, 0, 0, 0, 0), (.iload_n 2, 1, 0, 0, 0, 0, 0), (.ifCond .lt 8, 3, 17, 0, 0, 0, 0), (.iload_n 2, 1, 0, 0, 0, 0, 0), (.iconst 2, 1, 0, 0, 0, 2, 0), (.if_icmp .le 9, 3, 23, 0, 0, 0, 0)]),
  (17, [true, false, false], [(.aload_n 0, 1, 0, 0, 0, 0, 0), (.iconst 1, 1, 0, 0, 0, 1, 0), (.invokevirtual 42, 3, 159, 2, 1, 0, 0), (.ireturn, 1, 0, 0, 0, 0, 0)]),
  (23, [true, true, true], [(.iload_n 2, 1, 0, 0, 0, 0, 0), (.ifCond .ne 16, 3, 40, 0, 0, 0, 0), (.aload_n 0, 1, 0, 0, 0, 0, 0), (.aload_n 0, 1, 0, 0, 0, 0, 0), (.getfield 19, 3, 9, 2, 2, 0, 0), (.iload_n 1, 1, 0, 0, 0, 0, 0), (.invokevirtual 127, 3, 12, 2, 1, 0, 0), (.invokevirtual 83, 3, 160, 2, 1, 0, 0), (.ireturn, 1, 0, 0, 0, 0, 0)]),
  (40, [true, true, true], [(.aload_n 0, 1, 0, 0, 0, 0, 0), (.iload_n 2, 1, 0, 0, 0, 0, 0), (.iconst 1, 1, 0, 0, 0, 1, 0), (.if_icmp .ne 14, 3, 57, 0, 0, 0, 0), (.aload_n 0, 1, 0, 0, 0, 0, 0), (.getfield 19, 3, 9, 2, 2, 0, 0), (.iload_n 1, 1, 0, 0, 0, 0, 0), (.invokevirtual 130, 3, 11, 2, 1, 0, 0), (.goto 11, 3, 65, 0, 0, 0, 0)]),
  (57, [true, true, false], [(.aload_n 0, 1, 0, 0, 0, 0, 0), (.getfield 19, 3, 9, 2, 2, 0, 0), (.iload_n 1, 1, 0, 0, 0, 0, 0), (.invokevirtual 133, 3, 10, 2, 1, 0, 0)]),
  (65, [false, false, false], [(.invokevirtual 83, 3, 160, 2, 1, 0, 0), (.ireturn, 1, 0, 0, 0, 0, 0)])
]
theorem ck_118 : (bk_118.all fun q => mm_ckr 9 cX9_breathOf q.2.2 q.1) = true := by decide +kernel
def bk_119 : List mmB := /- X9 fans -/ [
  (0, [true], [(.aload_n 0, 1, 0, 0, 0, 0, 0), (.getfield 70, 3, 9, 1, 0, 0, 0), (.ifCond .eq 17, 3, 21, 0, 0, 0, 0), (.aload_n 0, 1, 0, 0, 0, 0, 0), (.aload_n 0, 1, 0, 0, 0, 0, 0), (.getfield 19, 3, 9, 2, 2, 0, 0), (.invokevirtual 136, 3, 13, 1, 1, 0, 0), (.invokevirtual 83, 3, 160, 2, 1, 0, 0), (.goto 8, 3, 26, 0, 0, 0, 0)]),
  (21, [true], [(.aload_n 0, 1, 0, 0, 0, 0, 0), (.iconst 1, 1, 0, 0, 0, 1, 0), (.invokevirtual 42, 3, 159, 2, 1, 0, 0)]),
  (26, [false], [(.ireturn, 1, 0, 0, 0, 0, 0)])
]
theorem ck_119 : (bk_119.all fun q => mm_ckr 9 cX9_fans q.2.2 q.1) = true := by decide +kernel
def bk_120 : List mmB := /- X9 spared -/ [
  (0, [true], [(.aload_n 0, 1, 0, 0, 0, 0, 0), (.getfield 70, 3, 9, 1, 0, 0, 0), (.ifCond .eq 17, 3, 21, 0, 0, 0, 0), (.aload_n 0, 1, 0, 0, 0, 0, 0), (.aload_n 0, 1, 0, 0, 0, 0, 0), (.getfield 19, 3, 9, 2, 2, 0, 0), (.invokevirtual 139, 3, 14, 1, 1, 0, 0), (.invokevirtual 83, 3, 160, 2, 1, 0, 0), (.goto 8, 3, 26, 0, 0, 0, 0)]),
  (21, [true], [(.aload_n 0, 1, 0, 0, 0, 0, 0), (.iconst 1, 1, 0, 0, 0, 1, 0), (.invokevirtual 42, 3, 159, 2, 1, 0, 0)]),
  (26, [false], [(.ireturn, 1, 0, 0, 0, 0, 0)])
]
theorem ck_120 : (bk_120.all fun q => mm_ckr 9 cX9_spared q.2.2 q.1) = true := by decide +kernel
def bk_121 : List mmB := /- X9 lights -/ [
  (0, [true, true, true], [(.aload_n 0, 1, 0, 0, 0, 0, 0), (.iload_n 1, 1, 0, 0, 0, 0, 0), (.invokevirtual 89, 3, 153, 2, 1, 0, 0), (.ifCond .ne 9, 3, 14, 0, 0, 0, 0), (.aload_n 0, 1, 0, 0, 0, 0, 0), (.iconst 1, 1, 0, 0, 0, 1, 0), (.invokevirtual 42, 3, 159, 2, 1, 0, 0), (.ireturn, 1, 0, 0, 0, 0, 0)]),
  (14, [true, true, true], [(.aload_n 0, 1, 0, 0, 0, 0, 0), (.iload_n 2, 1, 0, 0, 0, 0, 0), (.ifCond .eq 14, 3, 30, 0, 0, 0, 0), (.aload_n 0, 1, 0, 0, 0, 0, 0), (.getfield 19, 3, 9, 2, 2, 0, 0), (.iload_n 1, 1, 0, 0, 0, 0, 0), (.invokevirtual 142, 3, 8, 2, 1, 0, 0), (.goto 14, 3, 41, 0, 0, 0, 0)]),
  (30, [true, true, false], [(.aload_n 0, 1, 0, 0, 0, 0, 0), (.getfield 19, 3, 9, 2, 2, 0, 0), (.getfield 145, 3, 0, 9, 2, 0, 0), (.iconst 1, 1, 0, 0, 0, 1, 0), (.iload_n 1, 1, 0, 0, 0, 0, 0), (.ishl, 1, 0, 0, 0, 0, 0), (.iaload, 1, 0, 0, 0, 0, 0)]),
  (41, [false, false, false], [(.invokevirtual 83, 3, 160, 2, 1, 0, 0), (.ireturn, 1, 0, 0, 0, 0, 0)])
]
theorem ck_121 : (bk_121.all fun q => mm_ckr 9 cX9_lights q.2.2 q.1) = true := by decide +kernel
def bk_122 : List mmB := /- X9 burning -/ [
  (0, [true], [(.aload_n 0, 1, 0, 0, 0, 0, 0), (.getfield 70, 3, 9, 1, 0, 0, 0), (.ifCond .eq 24, 3, 28, 0, 0, 0, 0), (.aload_n 0, 1, 0, 0, 0, 0, 0), (.aload_n 0, 1, 0, 0, 0, 0, 0), (.getfield 19, 3, 9, 2, 2, 0, 0), (.aload_n 0, 1, 0, 0, 0, 0, 0), (.getfield 26, 3, 9, 3, 2, 0, 0), (.getfield 148, 3, 4, 0, 0, 0, 0), (.invokevirtual 151, 3, 17, 2, 1, 0, 0), (.invokevirtual 83, 3, 160, 2, 1, 0, 0), (.goto 8, 3, 33, 0, 0, 0, 0)]),
  (28, [true], [(.aload_n 0, 1, 0, 0, 0, 0, 0), (.iconst 1, 1, 0, 0, 0, 1, 0), (.invokevirtual 42, 3, 159, 2, 1, 0, 0)]),
  (33, [false], [(.ireturn, 1, 0, 0, 0, 0, 0)])
]
theorem ck_122 : (bk_122.all fun q => mm_ckr 9 cX9_burning q.2.2 q.1) = true := by decide +kernel
def bk_123 : List mmB := /- X9 dazed -/ [
  (0, [true], [(.aload_n 0, 1, 0, 0, 0, 0, 0), (.getfield 70, 3, 9, 1, 0, 0, 0), (.ifCond .eq 24, 3, 28, 0, 0, 0, 0), (.aload_n 0, 1, 0, 0, 0, 0, 0), (.aload_n 0, 1, 0, 0, 0, 0, 0), (.getfield 19, 3, 9, 2, 2, 0, 0), (.aload_n 0, 1, 0, 0, 0, 0, 0), (.getfield 26, 3, 9, 3, 2, 0, 0), (.getfield 148, 3, 4, 0, 0, 0, 0), (.invokevirtual 154, 3, 19, 2, 1, 0, 0), (.invokevirtual 83, 3, 160, 2, 1, 0, 0), (.goto 8, 3, 33, 0, 0, 0, 0)]),
  (28, [true], [(.aload_n 0, 1, 0, 0, 0, 0, 0), (.iconst 1, 1, 0, 0, 0, 1, 0), (.invokevirtual 42, 3, 159, 2, 1, 0, 0)]),
  (33, [false], [(.ireturn, 1, 0, 0, 0, 0, 0)])
]
theorem ck_123 : (bk_123.all fun q => mm_ckr 9 cX9_dazed q.2.2 q.1) = true := by decide +kernel
def bk_124 : List mmB := /- X9 gain -/ [
  (0, [true, true], [(.aload_n 0, 1, 0, 0, 0, 0, 0), (.iload_n 1, 1, 0, 0, 0, 0, 0), (.invokevirtual 111, 3, 156, 2, 1, 0, 0), (.ifCond .ne 11, 3, 16, 0, 0, 0, 0), (.aload_n 0, 1, 0, 0, 0, 0, 0), (.iconst 1, 1, 0, 0, 0, 1, 0), (.putfield 86, 3, 9, 7, 0, 0, 0), (.bipush (-100), 2, 0, 0, 0, (-100), 0), (.ireturn, 1, 0, 0, 0, 0, 0)]),
  (16, [true, true], [(.aload_n 0, 1, 0, 0, 0, 0, 0), (.aload_n 0, 1, 0, 0, 0, 0, 0), (.getfield 19, 3, 9, 2, 2, 0, 0), (.aload_n 0, 1, 0, 0, 0, 0, 0), (.getfield 26, 3, 9, 3, 2, 0, 0), (.getfield 148, 3, 4, 0, 0, 0, 0), (.aload_n 0, 1, 0, 0, 0, 0, 0), (.getfield 19, 3, 9, 2, 2, 0, 0), (.getfield 114, 3, 0, 3, 2, 0, 0), (.iload_n 1, 1, 0, 0, 0, 0, 0), (.iaload, 1, 0, 0, 0, 0, 0), (.invokevirtual 157, 3, 25, 3, 1, 0, 0), (.invokevirtual 83, 3, 160, 2, 1, 0, 0), (.ireturn, 1, 0, 0, 0, 0, 0)])
]
theorem ck_124 : (bk_124.all fun q => mm_ckr 9 cX9_gain q.2.2 q.1) = true := by decide +kernel
def bk_125 : List mmB := /- X9 greedy -/ [
  (0, [true], [(.aload_n 0, 1, 0, 0, 0, 0, 0), (.getfield 70, 3, 9, 1, 0, 0, 0), (.ifCond .eq 24, 3, 28, 0, 0, 0, 0), (.aload_n 0, 1, 0, 0, 0, 0, 0), (.aload_n 0, 1, 0, 0, 0, 0, 0), (.getfield 19, 3, 9, 2, 2, 0, 0), (.aload_n 0, 1, 0, 0, 0, 0, 0), (.getfield 26, 3, 9, 3, 2, 0, 0), (.getfield 148, 3, 4, 0, 0, 0, 0), (.invokevirtual 161, 3, 26, 2, 1, 0, 0), (.invokevirtual 83, 3, 160, 2, 1, 0, 0), (.goto 8, 3, 33, 0, 0, 0, 0)]),
  (28, [true], [(.aload_n 0, 1, 0, 0, 0, 0, 0), (.iconst 1, 1, 0, 0, 0, 1, 0), (.invokevirtual 42, 3, 159, 2, 1, 0, 0)]),
  (33, [false], [(.ireturn, 1, 0, 0, 0, 0, 0)])
]
theorem ck_125 : (bk_125.all fun q => mm_ckr 9 cX9_greedy q.2.2 q.1) = true := by decide +kernel
def bk_126 : List mmB := /- X9 blow -/ [
  (0, [true, true], [(.aload_n 0, 1, 0, 0, 0, 0, 0), (.iload_n 1, 1, 0, 0, 0, 0, 0), (.invokevirtual 111, 3, 156, 2, 1, 0, 0), (.ifCond .ne 9, 3, 14, 0, 0, 0, 0), (.aload_n 0, 1, 0, 0, 0, 0, 0), (.iconst 1, 1, 0, 0, 0, 1, 0), (.invokevirtual 42, 3, 159, 2, 1, 0, 0), (.ireturn, 1, 0, 0, 0, 0, 0)]),
  (14, [true, true], [(.aload_n 0, 1, 0, 0, 0, 0, 0), (.getfield 26, 3, 9, 3, 2, 0, 0), (.aload_n 0, 1, 0, 0, 0, 0, 0), (.getfield 19, 3, 9, 2, 2, 0, 0), (.aload_n 0, 1, 0, 0, 0, 0, 0), (.getfield 26, 3, 9, 3, 2, 0, 0), (.getfield 148, 3, 4, 0, 0, 0, 0), (.aload_n 0, 1, 0, 0, 0, 0, 0), (.getfield 19, 3, 9, 2, 2, 0, 0), (.getfield 114, 3, 0, 3, 2, 0, 0), (.iload_n 1, 1, 0, 0, 0, 0, 0), (.iaload, 1, 0, 0, 0, 0, 0), (.invokevirtual 164, 3, 24, 3, 1, 0, 0), (.invokevirtual 167, 3, 50, 2, 0, 0, 0), (.aload_n 0, 1, 0, 0, 0, 0, 0), (.aload_n 0, 1, 0, 0, 0, 0, 0), (.getfield 19, 3, 9, 2, 2, 0, 0), (.aload_n 0, 1, 0, 0, 0, 0, 0), (.getfield 26, 3, 9, 3, 2, 0, 0), (.getfield 148, 3, 4, 0, 0, 0, 0), (.invokevirtual 170, 3, 18, 2, 1, 0, 0), (.invokevirtual 83, 3, 160, 2, 1, 0, 0), (.ireturn, 1, 0, 0, 0, 0, 0)])
]
theorem ck_126 : (bk_126.all fun q => mm_ckr 9 cX9_blow q.2.2 q.1) = true := by decide +kernel
def bk_127 : List mmB := /- X9 light -/ [
  (0, [true, true], [(.aload_n 0, 1, 0, 0, 0, 0, 0), (.iload_n 1, 1, 0, 0, 0, 0, 0), (.invokevirtual 89, 3, 153, 2, 1, 0, 0), (.ifCond .ne 9, 3, 14, 0, 0, 0, 0), (.aload_n 0, 1, 0, 0, 0, 0, 0), (.iconst 1, 1, 0, 0, 0, 1, 0), (.invokevirtual 173, 3, 161, 2, 1, 0, 0), (.ireturn, 1, 0, 0, 5, 0, 0)]),
  (14, [true, true], [(.aload_n 0, 1, 0, 0, 0, 0, 0), (.getfield 19, 3, 9, 2, 2, 0, 0), (.aload_n 0, 1, 0, 0, 0, 0, 0), (.getfield 26, 3, 9, 3, 2, 0, 0), (.getfield 148, 3, 4, 0, 0, 0, 0), (.iload_n 1, 1, 0, 0, 0, 0, 0), (.invokevirtual 176, 3, 20, 3, 1, 0, 0), (.ifCond .eq 9, 3, 38, 0, 0, 0, 0), (.aload_n 0, 1, 0, 0, 0, 0, 0), (.iconst 5, 1, 0, 0, 0, 5, 0), (.invokevirtual 173, 3, 161, 2, 1, 0, 0), (.ireturn, 1, 0, 0, 5, 0, 0)]),
  (38, [true, true], [(.aload_n 0, 1, 0, 0, 0, 0, 0), (.getfield 26, 3, 9, 3, 2, 0, 0), (.aload_n 0, 1, 0, 0, 0, 0, 0), (.getfield 19, 3, 9, 2, 2, 0, 0), (.aload_n 0, 1, 0, 0, 0, 0, 0), (.getfield 26, 3, 9, 3, 2, 0, 0), (.getfield 148, 3, 4, 0, 0, 0, 0), (.iload_n 1, 1, 0, 0, 0, 0, 0), (.invokevirtual 180, 3, 21, 3, 1, 0, 0), (.invokevirtual 167, 3, 50, 2, 0, 0, 0), (.aload_n 0, 1, 0, 0, 0, 0, 0), (.invokevirtual 183, 3, 162, 1, 1, 0, 0), (.ireturn, 1, 0, 0, 5, 0, 0)])
]
theorem ck_127 : (bk_127.all fun q => mm_ckr 9 cX9_light q.2.2 q.1) = true := by decide +kernel
def bk_128 : List mmB := /- X9 all -/ [
  (0, [true], [(.aload_n 0, 1, 0, 0, 0, 0, 0), (.getfield 70, 3, 9, 1, 0, 0, 0), (.ifCond .ne 9, 3, 13, 0, 0, 0, 0), (.aload_n 0, 1, 0, 0, 0, 0, 0), (.iconst 1, 1, 0, 0, 0, 1, 0), (.invokevirtual 173, 3, 161, 2, 1, 0, 0), (.ireturn, 1, 0, 0, 5, 0, 0)]),
  (13, [true], [(.aload_n 0, 1, 0, 0, 0, 0, 0), (.getfield 26, 3, 9, 3, 2, 0, 0), (.aload_n 0, 1, 0, 0, 0, 0, 0), (.getfield 19, 3, 9, 2, 2, 0, 0), (.invokevirtual 74, 3, 16, 1, 1, 0, 0), (.invokevirtual 167, 3, 50, 2, 0, 0, 0), (.aload_n 0, 1, 0, 0, 0, 0, 0), (.invokevirtual 183, 3, 162, 1, 1, 0, 0), (.ireturn, 1, 0, 0, 5, 0, 0)])
]
theorem ck_128 : (bk_128.all fun q => mm_ckr 9 cX9_all q.2.2 q.1) = true := by decide +kernel
def bk_129 : List mmB := /- X9 undo -/ [
  (0, [true], [(.aload_n 0, 1, 0, 0, 0, 0, 0), (.getfield 26, 3, 9, 3, 2, 0, 0), (.invokevirtual 186, 3, 51, 1, 1, 0, 0), (.ifCond .eq 10, 3, 17, 0, 0, 0, 0), (.aload_n 0, 1, 0, 0, 0, 0, 0), (.invokevirtual 183, 3, 162, 1, 1, 0, 0), (.goto 9, 3, 23, 0, 0, 0, 0)]),
  (17, [true], [(.aload_n 0, 1, 0, 0, 0, 0, 0), (.bipush 6, 2, 0, 0, 0, 6, 0), (.invokevirtual 173, 3, 161, 2, 1, 0, 0)]),
  (23, [false], [(.ireturn, 1, 0, 0, 5, 0, 0)])
]
theorem ck_129 : (bk_129.all fun q => mm_ckr 9 cX9_undo q.2.2 q.1) = true := by decide +kernel
def bk_130 : List mmB := /- X9 fewest -/ [
  (0, [true], [(.aload_n 0, 1, 0, 0, 0, 0, 0), (.getfield 70, 3, 9, 1, 0, 0, 0), (.ifCond .eq 24, 3, 28, 0, 0, 0, 0), (.aload_n 0, 1, 0, 0, 0, 0, 0), (.aload_n 0, 1, 0, 0, 0, 0, 0), (.invokevirtual 189, 3, 1010, 1, 3, 1, 0), (.aload_n 0, 1, 0, 0, 0, 0, 0), (.getfield 26, 3, 9, 3, 2, 0, 0), (.getfield 148, 3, 4, 0, 0, 0, 0), (.invokevirtual 193, 3, 83, 2, 1, 0, 0), (.invokevirtual 83, 3, 160, 2, 1, 0, 0), (.goto 8, 3, 33, 0, 0, 0, 0)]),
  (28, [true], [(.aload_n 0, 1, 0, 0, 0, 0, 0), (.iconst 1, 1, 0, 0, 0, 1, 0), (.invokevirtual 42, 3, 159, 2, 1, 0, 0)]),
  (33, [false], [(.ireturn, 1, 0, 0, 0, 0, 0)])
]
theorem ck_130 : (bk_130.all fun q => mm_ckr 9 cX9_fewest q.2.2 q.1) = true := by decide +kernel
def bk_131 : List mmB := /- X9 row -/ [
  (0, [true, true, false], [(.aload_n 0, 1, 0, 0, 0, 0, 0), (.getfield 70, 3, 9, 1, 0, 0, 0), (.ifCond .eq 7, 3, 11, 0, 0, 0, 0), (.iload_n 1, 1, 0, 0, 0, 0, 0), (.ifCond .ge 9, 3, 17, 0, 0, 0, 0)]),
  (11, [true, false, false], [(.aload_n 0, 1, 0, 0, 0, 0, 0), (.iconst 1, 1, 0, 0, 0, 1, 0), (.invokevirtual 42, 3, 159, 2, 1, 0, 0), (.ireturn, 1, 0, 0, 0, 0, 0)]),
  (17, [true, true, false], [(.aload_n 0, 1, 0, 0, 0, 0, 0), (.invokevirtual 189, 3, 1010, 1, 3, 1, 0), (.aload_n 0, 1, 0, 0, 0, 0, 0), (.getfield 26, 3, 9, 3, 2, 0, 0), (.getfield 148, 3, 4, 0, 0, 0, 0), (.invokevirtual 193, 3, 83, 2, 1, 0, 0), (.istore_n 2, 1, 0, 0, 0, 0, 0), (.iload_n 2, 1, 0, 0, 0, 0, 0), (.bipush (-2), 2, 0, 0, 0, (-2), 0), (.if_icmp .ne 10, 3, 45, 0, 0, 0, 0), (.aload_n 0, 1, 0, 0, 0, 0, 0), (.bipush 6, 2, 0, 0, 0, 6, 0), (.invokevirtual 42, 3, 159, 2, 1, 0, 0), (.ireturn, 1, 0, 0, 0, 0, 0)]),
  (45, [true, true, true], [(.iload_n 1, 1, 0, 0, 0, 0, 0), (.iload_n 2, 1, 0, 0, 0, 0, 0), (.if_icmp .lt 9, 3, 56, 0, 0, 0, 0), (.aload_n 0, 1, 0, 0, 0, 0, 0), (.iconst 1, 1, 0, 0, 0, 1, 0), (.invokevirtual 42, 3, 159, 2, 1, 0, 0), (.ireturn, 1, 0, 0, 0, 0, 0)]),
  (56, [true, true, false], [(.aload_n 0, 1, 0, 0, 0, 0, 0), (.aload_n 0, 1, 0, 0, 0, 0, 0), (.invokevirtual 189, 3, 1010, 1, 3, 1, 0), (.aload_n 0, 1, 0, 0, 0, 0, 0), (.getfield 26, 3, 9, 3, 2, 0, 0), (.getfield 148, 3, 4, 0, 0, 0, 0), (.iload_n 1, 1, 0, 0, 0, 0, 0), (.invokevirtual 198, 3, 92, 3, 1, 0, 0), (.invokevirtual 83, 3, 160, 2, 1, 0, 0), (.ireturn, 1, 0, 0, 0, 0, 0)])
]
theorem ck_131 : (bk_131.all fun q => mm_ckr 9 cX9_row q.2.2 q.1) = true := by decide +kernel
def bk_132 : List mmB := /- X9 from -/ [
  (0, [true, true], [(.aload_n 0, 1, 0, 0, 0, 0, 0), (.iload_n 1, 1, 0, 0, 0, 0, 0), (.invokevirtual 120, 3, 154, 2, 1, 0, 0), (.ifCond .ne 9, 3, 14, 0, 0, 0, 0), (.aload_n 0, 1, 0, 0, 0, 0, 0), (.iconst 1, 1, 0, 0, 0, 1, 0), (.invokevirtual 42, 3, 159, 2, 1, 0, 0), (.ireturn, 1, 0, 0, 0, 0, 0)]),
  (14, [true, true], [(.aload_n 0, 1, 0, 0, 0, 0, 0), (.aload_n 0, 1, 0, 0, 0, 0, 0), (.invokevirtual 189, 3, 1010, 1, 3, 1, 0), (.aload_n 0, 1, 0, 0, 0, 0, 0), (.getfield 26, 3, 9, 3, 2, 0, 0), (.getfield 148, 3, 4, 0, 0, 0, 0), (.iconst 1, 1, 0, 0, 0, 1, 0), (.iload_n 1, 1, 0, 0, 0, 0, 0), (.invokevirtual 201, 3, 84, 4, 1, 0, 0), (.invokevirtual 83, 3, 160, 2, 1, 0, 0), (.ireturn, 1, 0, 0, 0, 0, 0)])
]
theorem ck_132 : (bk_132.all fun q => mm_ckr 9 cX9_from q.2.2 q.1) = true := by decide +kernel
def bk_133 : List mmB := /- X9 by -/ [
  (0, [true, true], [(.aload_n 0, 1, 0, 0, 0, 0, 0), (.iload_n 1, 1, 0, 0, 0, 0, 0), (.invokevirtual 117, 3, 155, 2, 1, 0, 0), (.ifCond .ne 9, 3, 14, 0, 0, 0, 0), (.aload_n 0, 1, 0, 0, 0, 0, 0), (.iconst 1, 1, 0, 0, 0, 1, 0), (.invokevirtual 42, 3, 159, 2, 1, 0, 0), (.ireturn, 1, 0, 0, 0, 0, 0)]),
  (14, [true, true], [(.aload_n 0, 1, 0, 0, 0, 0, 0), (.aload_n 0, 1, 0, 0, 0, 0, 0), (.invokevirtual 189, 3, 1010, 1, 3, 1, 0), (.aload_n 0, 1, 0, 0, 0, 0, 0), (.getfield 26, 3, 9, 3, 2, 0, 0), (.getfield 148, 3, 4, 0, 0, 0, 0), (.iconst 2, 1, 0, 0, 0, 2, 0), (.iload_n 1, 1, 0, 0, 0, 0, 0), (.invokevirtual 201, 3, 84, 4, 1, 0, 0), (.invokevirtual 83, 3, 160, 2, 1, 0, 0), (.ireturn, 1, 0, 0, 0, 0, 0)])
]
theorem ck_133 : (bk_133.all fun q => mm_ckr 9 cX9_by q.2.2 q.1) = true := by decide +kernel
def bk_134 : List mmB := /- X9 inTime -/ [
  (0, [true, false], [(.aload_n 0, 1, 0, 0, 0, 0, 0), (.getfield 70, 3, 9, 1, 0, 0, 0), (.ifCond .ne 9, 3, 13, 0, 0, 0, 0), (.aload_n 0, 1, 0, 0, 0, 0, 0), (.iconst 1, 1, 0, 0, 0, 1, 0), (.invokevirtual 42, 3, 159, 2, 1, 0, 0), (.ireturn, 1, 0, 0, 0, 0, 0)]),
  (13, [true, false], [(.aload_n 0, 1, 0, 0, 0, 0, 0), (.invokevirtual 189, 3, 1010, 1, 3, 1, 0), (.aload_n 0, 1, 0, 0, 0, 0, 0), (.getfield 26, 3, 9, 3, 2, 0, 0), (.getfield 148, 3, 4, 0, 0, 0, 0), (.invokevirtual 193, 3, 83, 2, 1, 0, 0), (.istore_n 1, 1, 0, 0, 0, 0, 0), (.aload_n 0, 1, 0, 0, 0, 0, 0), (.iload_n 1, 1, 0, 0, 0, 0, 0), (.bipush (-2), 2, 0, 0, 0, (-2), 0), (.if_icmp .eq 21, 3, 53, 0, 0, 0, 0), (.iload_n 1, 1, 0, 0, 0, 0, 0), (.aload_n 0, 1, 0, 0, 0, 0, 0), (.getfield 19, 3, 9, 2, 2, 0, 0), (.getfield 59, 3, 0, 0, 3, 0, 0), (.getfield 204, 3, 1, 8, 0, 0, 0), (.if_icmp .gt 7, 3, 53, 0, 0, 0, 0), (.iconst 1, 1, 0, 0, 0, 1, 0), (.goto 4, 3, 54, 0, 0, 0, 0)]),
  (53, [false, false], [(.iconst 0, 1, 0, 0, 0, 0, 0)]),
  (54, [false, false], [(.invokevirtual 83, 3, 160, 2, 1, 0, 0), (.ireturn, 1, 0, 0, 0, 0, 0)])
]
theorem ck_134 : (bk_134.all fun q => mm_ckr 9 cX9_inTime q.2.2 q.1) = true := by decide +kernel
def bk_135 : List mmB := /- X9 walk -/ [
  (0, [true, true, true], [(.aload_n 0, 1, 0, 0, 0, 0, 0), (.iload_n 1, 1, 0, 0, 0, 0, 0), (.invokevirtual 117, 3, 155, 2, 1, 0, 0), (.ifCond .eq 11, 3, 16, 0, 0, 0, 0), (.aload_n 0, 1, 0, 0, 0, 0, 0), (.iload_n 2, 1, 0, 0, 0, 0, 0), (.invokevirtual 120, 3, 154, 2, 1, 0, 0), (.ifCond .ne 9, 3, 22, 0, 0, 0, 0)]),
  (16, [true, false, false], [(.aload_n 0, 1, 0, 0, 0, 0, 0), (.iconst 1, 1, 0, 0, 0, 1, 0), (.invokevirtual 42, 3, 159, 2, 1, 0, 0), (.ireturn, 1, 0, 0, 0, 0, 0)]),
  (22, [true, true, true], [(.aload_n 0, 1, 0, 0, 0, 0, 0), (.aload_n 0, 1, 0, 0, 0, 0, 0), (.invokevirtual 189, 3, 1010, 1, 3, 1, 0), (.aload_n 0, 1, 0, 0, 0, 0, 0), (.getfield 26, 3, 9, 3, 2, 0, 0), (.getfield 148, 3, 4, 0, 0, 0, 0), (.iload_n 1, 1, 0, 0, 0, 0, 0), (.iload_n 2, 1, 0, 0, 0, 0, 0), (.invokevirtual 207, 3, 96, 4, 1, 0, 0), (.invokevirtual 83, 3, 160, 2, 1, 0, 0), (.ireturn, 1, 0, 0, 0, 0, 0)])
]
theorem ck_135 : (bk_135.all fun q => mm_ckr 9 cX9_walk q.2.2 q.1) = true := by decide +kernel
def bk_136 : List mmB := /- X9 each -/ [
  (0, [true, false], [(.aload_n 0, 1, 0, 0, 0, 0, 0), (.getfield 70, 3, 9, 1, 0, 0, 0), (.ifCond .ne 9, 3, 13, 0, 0, 0, 0), (.aload_n 0, 1, 0, 0, 0, 0, 0), (.iconst 1, 1, 0, 0, 0, 1, 0), (.invokevirtual 42, 3, 159, 2, 1, 0, 0), (.ireturn, 1, 0, 0, 0, 0, 0)]),
  (13, [true, false], [(.aload_n 0, 1, 0, 0, 0, 0, 0), (.invokevirtual 189, 3, 1010, 1, 3, 1, 0), (.aload_n 0, 1, 0, 0, 0, 0, 0), (.getfield 26, 3, 9, 3, 2, 0, 0), (.getfield 148, 3, 4, 0, 0, 0, 0), (.invokevirtual 210, 3, 100, 2, 1, 0, 0), (.istore_n 1, 1, 0, 0, 0, 0, 0), (.aload_n 0, 1, 0, 0, 0, 0, 0), (.iload_n 1, 1, 0, 0, 0, 0, 0), (.bipush (-2), 2, 0, 0, 0, (-2), 0), (.if_icmp .ne 8, 3, 40, 0, 0, 0, 0), (.bipush (-2), 2, 0, 0, 0, (-2), 0), (.goto 7, 3, 44, 0, 0, 0, 0)]),
  (40, [false, true], [(.iload_n 1, 1, 0, 0, 0, 0, 0), (.invokestatic 213, 3, 278, 1, 1, 0, 0)]),
  (44, [false, false], [(.invokevirtual 83, 3, 160, 2, 1, 0, 0), (.ireturn, 1, 0, 0, 0, 0, 0)])
]
theorem ck_136 : (bk_136.all fun q => mm_ckr 9 cX9_each q.2.2 q.1) = true := by decide +kernel
def bk_137 : List mmB := /- X9 team -/ [
  (0, [true], [(.aload_n 0, 1, 0, 0, 0, 0, 0), (.getfield 70, 3, 9, 1, 0, 0, 0), (.ifCond .eq 24, 3, 28, 0, 0, 0, 0), (.aload_n 0, 1, 0, 0, 0, 0, 0), (.aload_n 0, 1, 0, 0, 0, 0, 0), (.invokevirtual 189, 3, 1010, 1, 3, 1, 0), (.aload_n 0, 1, 0, 0, 0, 0, 0), (.getfield 26, 3, 9, 3, 2, 0, 0), (.getfield 148, 3, 4, 0, 0, 0, 0), (.invokevirtual 210, 3, 100, 2, 1, 0, 0), (.invokevirtual 83, 3, 160, 2, 1, 0, 0), (.goto 8, 3, 33, 0, 0, 0, 0)]),
  (28, [true], [(.aload_n 0, 1, 0, 0, 0, 0, 0), (.iconst 1, 1, 0, 0, 0, 1, 0), (.invokevirtual 42, 3, 159, 2, 1, 0, 0)]),
  (33, [false], [(.ireturn, 1, 0, 0, 0, 0, 0)])
]
theorem ck_137 : (bk_137.all fun q => mm_ckr 9 cX9_team q.2.2 q.1) = true := by decide +kernel
def bk_138 : List mmB := /- X9 greedyEnd -/ [
  (0, [true], [(.aload_n 0, 1, 0, 0, 0, 0, 0), (.getfield 70, 3, 9, 1, 0, 0, 0), (.ifCond .eq 31, 3, 35, 0, 0, 0, 0), (.aload_n 0, 1, 0, 0, 0, 0, 0), (.aload_n 0, 1, 0, 0, 0, 0, 0), (.getfield 19, 3, 9, 2, 2, 0, 0), (.aload_n 0, 1, 0, 0, 0, 0, 0), (.getfield 19, 3, 9, 2, 2, 0, 0), (.aload_n 0, 1, 0, 0, 0, 0, 0), (.getfield 26, 3, 9, 3, 2, 0, 0), (.getfield 148, 3, 4, 0, 0, 0, 0), (.invokevirtual 218, 3, 27, 2, 1, 0, 0), (.invokevirtual 170, 3, 18, 2, 1, 0, 0), (.invokevirtual 83, 3, 160, 2, 1, 0, 0), (.goto 8, 3, 40, 0, 0, 0, 0)]),
  (35, [true], [(.aload_n 0, 1, 0, 0, 0, 0, 0), (.iconst 1, 1, 0, 0, 0, 1, 0), (.invokevirtual 42, 3, 159, 2, 1, 0, 0)]),
  (40, [false], [(.ireturn, 1, 0, 0, 0, 0, 0)])
]
theorem ck_138 : (bk_138.all fun q => mm_ckr 9 cX9_greedyEnd q.2.2 q.1) = true := by decide +kernel
def bk_139 : List mmB := /- X9 soonest -/ [
  (0, [true, true], [(.aload_n 0, 1, 0, 0, 0, 0, 0), (.iload_n 1, 1, 0, 0, 0, 0, 0), (.invokevirtual 89, 3, 153, 2, 1, 0, 0), (.ifCond .ne 9, 3, 14, 0, 0, 0, 0), (.aload_n 0, 1, 0, 0, 0, 0, 0), (.iconst 1, 1, 0, 0, 0, 1, 0), (.invokevirtual 42, 3, 159, 2, 1, 0, 0), (.ireturn, 1, 0, 0, 0, 0, 0)]),
  (14, [true, true], [(.aload_n 0, 1, 0, 0, 0, 0, 0), (.aload_n 0, 1, 0, 0, 0, 0, 0), (.invokevirtual 189, 3, 1010, 1, 3, 1, 0), (.aload_n 0, 1, 0, 0, 0, 0, 0), (.getfield 26, 3, 9, 3, 2, 0, 0), (.getfield 148, 3, 4, 0, 0, 0, 0), (.iload_n 1, 1, 0, 0, 0, 0, 0), (.invokevirtual 221, 3, 88, 3, 1, 0, 0), (.invokevirtual 83, 3, 160, 2, 1, 0, 0), (.ireturn, 1, 0, 0, 0, 0, 0)])
]
theorem ck_139 : (bk_139.all fun q => mm_ckr 9 cX9_soonest q.2.2 q.1) = true := by decide +kernel
def bk_140 : List mmB := /- X9 few -/ [
  (0, [true, true], [(.aload_n 0, 1, 0, 0, 0, 0, 0), (.getfield 70, 3, 9, 1, 0, 0, 0), (.ifCond .ne 9, 3, 13, 0, 0, 0, 0), (.aload_n 0, 1, 0, 0, 0, 0, 0), (.iconst 1, 1, 0, 0, 0, 1, 0), (.invokevirtual 42, 3, 159, 2, 1, 0, 0), (.ireturn, 1, 0, 0, 0, 0, 0)]),
  (13, [true, true], [(.iload_n 1, 1, 0, 0, 0, 0, 0), (.ifCond .lt 9, 3, 23, 0, 0, 0, 0), (.iload_n 1, 1, 0, 0, 0, 0, 0), (.bipush 9, 2, 0, 0, 0, 9, 0), (.if_icmp .le 9, 3, 29, 0, 0, 0, 0)]),
  (23, [true, false], [(.aload_n 0, 1, 0, 0, 0, 0, 0), (.iconst 2, 1, 0, 0, 0, 2, 0), (.invokevirtual 42, 3, 159, 2, 1, 0, 0), (.ireturn, 1, 0, 0, 0, 0, 0)]),
  (29, [true, true], [(.aload_n 0, 1, 0, 0, 0, 0, 0), (.aload_n 0, 1, 0, 0, 0, 0, 0), (.invokevirtual 189, 3, 1010, 1, 3, 1, 0), (.aload_n 0, 1, 0, 0, 0, 0, 0), (.getfield 26, 3, 9, 3, 2, 0, 0), (.getfield 148, 3, 4, 0, 0, 0, 0), (.iload_n 1, 1, 0, 0, 0, 0, 0), (.invokevirtual 224, 3, 104, 3, 1, 0, 0), (.invokevirtual 83, 3, 160, 2, 1, 0, 0), (.ireturn, 1, 0, 0, 0, 0, 0)])
]
theorem ck_140 : (bk_140.all fun q => mm_ckr 9 cX9_few q.2.2 q.1) = true := by decide +kernel
def bk_141 : List mmB := /- X9 chance -/ [
  (0, [true, true, true], [(.aload_n 0, 1, 0, 0, 0, 0, 0), (.iload_n 1, 1, 0, 0, 0, 0, 0), (.iconst 3, 1, 0, 0, 0, 3, 0), (.invokevirtual 227, 3, 157, 3, 1, 0, 0), (.ifCond .eq 7, 3, 13, 0, 0, 0, 0), (.ldc2_w 230, 3, 0, 0, 0, 0, (-1)), (.lreturn, 1, 0, 0, 0, 0, 0)]),
  (13, [true, true, true], [(.aload_n 0, 1, 0, 0, 0, 0, 0), (.aload_n 0, 1, 0, 0, 0, 0, 0), (.invokevirtual 232, 3, 1011, 1, 3, 1, 0), (.aload_n 0, 1, 0, 0, 0, 0, 0), (.getfield 26, 3, 9, 3, 2, 0, 0), (.getfield 148, 3, 4, 0, 0, 0, 0), (.iload_n 1, 1, 0, 0, 0, 0, 0), (.invokevirtual 236, 3, 39, 3, 1, 0, 0), (.i2l, 1, 0, 0, 0, 0, 0), (.aload_n 0, 1, 0, 0, 0, 0, 0), (.invokevirtual 232, 3, 1011, 1, 3, 1, 0), (.iload_n 1, 1, 0, 0, 0, 0, 0), (.invokevirtual 241, 3, 38, 2, 1, 0, 0), (.i2l, 1, 0, 0, 0, 0, 0), (.iload_n 2, 1, 0, 0, 0, 0, 0), (.invokevirtual 244, 3, 163, 4, 2, 0, 0), (.lreturn, 1, 0, 0, 0, 0, 0)])
]
theorem ck_141 : (bk_141.all fun q => mm_ckr 9 cX9_chance q.2.2 q.1) = true := by decide +kernel
def bk_142 : List mmB := /- X9 best -/ [
  (0, [true, true], [(.aload_n 0, 1, 0, 0, 0, 0, 0), (.iload_n 1, 1, 0, 0, 0, 0, 0), (.iconst 3, 1, 0, 0, 0, 3, 0), (.invokevirtual 227, 3, 157, 3, 1, 0, 0), (.ifCond .eq 5, 3, 11, 0, 0, 0, 0), (.iconst (-1), 1, 0, 0, 0, (-1), 0), (.ireturn, 1, 0, 0, 0, 0, 0)]),
  (11, [true, true], [(.aload_n 0, 1, 0, 0, 0, 0, 0), (.aload_n 0, 1, 0, 0, 0, 0, 0), (.getfield 19, 3, 9, 2, 2, 0, 0), (.aload_n 0, 1, 0, 0, 0, 0, 0), (.getfield 26, 3, 9, 3, 2, 0, 0), (.getfield 148, 3, 4, 0, 0, 0, 0), (.invokevirtual 170, 3, 18, 2, 1, 0, 0), (.ifCond .ne 8, 3, 34, 0, 0, 0, 0), (.bipush (-2), 2, 0, 0, 0, (-2), 0), (.goto 18, 3, 49, 0, 0, 0, 0)]),
  (34, [true, true], [(.aload_n 0, 1, 0, 0, 0, 0, 0), (.invokevirtual 232, 3, 1011, 1, 3, 1, 0), (.aload_n 0, 1, 0, 0, 0, 0, 0), (.getfield 26, 3, 9, 3, 2, 0, 0), (.getfield 148, 3, 4, 0, 0, 0, 0), (.iload_n 1, 1, 0, 0, 0, 0, 0), (.invokevirtual 248, 3, 41, 3, 1, 0, 0)]),
  (49, [false, false], [(.invokevirtual 83, 3, 160, 2, 1, 0, 0), (.ireturn, 1, 0, 0, 0, 0, 0)])
]
theorem ck_142 : (bk_142.all fun q => mm_ckr 9 cX9_best q.2.2 q.1) = true := by decide +kernel
def bk_143 : List mmB := /- X9 content -/ [
  (0, [true, true, true], [(.aload_n 0, 1, 0, 0, 0, 0, 0), (.iload_n 1, 1, 0, 0, 0, 0, 0), (.iconst 3, 1, 0, 0, 0, 3, 0), (.invokevirtual 227, 3, 157, 3, 1, 0, 0), (.ifCond .eq 7, 3, 13, 0, 0, 0, 0), (.ldc2_w 230, 3, 0, 0, 0, 0, (-1)), (.lreturn, 1, 0, 0, 0, 0, 0)]),
  (13, [true, true, true], [(.aload_n 0, 1, 0, 0, 0, 0, 0), (.aload_n 0, 1, 0, 0, 0, 0, 0), (.invokevirtual 232, 3, 1011, 1, 3, 1, 0), (.aload_n 0, 1, 0, 0, 0, 0, 0), (.getfield 26, 3, 9, 3, 2, 0, 0), (.getfield 148, 3, 4, 0, 0, 0, 0), (.iload_n 1, 1, 0, 0, 0, 0, 0), (.invokevirtual 251, 3, 40, 3, 1, 0, 0), (.i2l, 1, 0, 0, 0, 0, 0), (.aload_n 0, 1, 0, 0, 0, 0, 0), (.invokevirtual 232, 3, 1011, 1, 3, 1, 0), (.iload_n 1, 1, 0, 0, 0, 0, 0), (.invokevirtual 241, 3, 38, 2, 1, 0, 0), (.i2l, 1, 0, 0, 0, 0, 0), (.iload_n 2, 1, 0, 0, 0, 0, 0), (.invokevirtual 244, 3, 163, 4, 2, 0, 0), (.lreturn, 1, 0, 0, 0, 0, 0)])
]
theorem ck_143 : (bk_143.all fun q => mm_ckr 9 cX9_content q.2.2 q.1) = true := by decide +kernel
def bk_144 : List mmB := /- X9 fits -/ [
  (0, [true, true], [(.aload_n 0, 1, 0, 0, 0, 0, 0), (.iload_n 1, 1, 0, 0, 0, 0, 0), (.invokevirtual 254, 3, 158, 2, 1, 0, 0), (.ifCond .eq 7, 3, 12, 0, 0, 0, 0), (.iconst (-1), 1, 0, 0, 0, (-1), 0), (.goto 15, 3, 24, 0, 0, 0, 0)]),
  (12, [true, true], [(.aload_n 0, 1, 0, 0, 0, 0, 0), (.aload_n 0, 1, 0, 0, 0, 0, 0), (.invokevirtual 257, 3, 1012, 1, 3, 1, 0), (.iload_n 1, 1, 0, 0, 0, 0, 0), (.invokevirtual 261, 3, 106, 2, 1, 0, 0), (.invokevirtual 83, 3, 160, 2, 1, 0, 0)]),
  (24, [false, false], [(.ireturn, 1, 0, 0, 0, 0, 0)])
]
theorem ck_144 : (bk_144.all fun q => mm_ckr 9 cX9_fits q.2.2 q.1) = true := by decide +kernel
def bk_145 : List mmB := /- X9 fitAt -/ [
  (0, [true, true, true, false], [(.aload_n 0, 1, 0, 0, 0, 0, 0), (.iload_n 1, 1, 0, 0, 0, 0, 0), (.invokevirtual 254, 3, 158, 2, 1, 0, 0), (.ifCond .eq 5, 3, 10, 0, 0, 0, 0), (.iconst (-1), 1, 0, 0, 0, (-1), 0), (.ireturn, 1, 0, 0, 0, 0, 0)]),
  (10, [true, true, true, false], [(.aload_n 0, 1, 0, 0, 0, 0, 0), (.invokevirtual 257, 3, 1012, 1, 3, 1, 0), (.iload_n 1, 1, 0, 0, 0, 0, 0), (.iload_n 2, 1, 0, 0, 0, 0, 0), (.invokevirtual 266, 3, 107, 3, 1, 0, 0), (.istore_n 3, 1, 0, 0, 0, 0, 0), (.iload_n 3, 1, 0, 0, 0, 0, 0), (.iconst (-1), 1, 0, 0, 0, (-1), 0), (.if_icmp .ne 11, 3, 33, 0, 0, 0, 0), (.aload_n 0, 1, 0, 0, 0, 0, 0), (.iconst 1, 1, 0, 0, 0, 1, 0), (.invokevirtual 42, 3, 159, 2, 1, 0, 0), (.goto 8, 3, 38, 0, 0, 0, 0)]),
  (33, [true, false, false, true], [(.aload_n 0, 1, 0, 0, 0, 0, 0), (.iload_n 3, 1, 0, 0, 0, 0, 0), (.invokevirtual 83, 3, 160, 2, 1, 0, 0)]),
  (38, [false, false, false, false], [(.ireturn, 1, 0, 0, 0, 0, 0)])
]
theorem ck_145 : (bk_145.all fun q => mm_ckr 9 cX9_fitAt q.2.2 q.1) = true := by decide +kernel
def bk_146 : List mmB := /- X9 more -/ [
  (0, [true, true], [(.aload_n 0, 1, 0, 0, 0, 0, 0), (.getfield 70, 3, 9, 1, 0, 0, 0), (.ifCond .eq 24, 3, 28, 0, 0, 0, 0), (.iload_n 1, 1, 0, 0, 0, 0, 0), (.ifCond .lt 20, 3, 28, 0, 0, 0, 0), (.iload_n 1, 1, 0, 0, 0, 0, 0), (.aload_n 0, 1, 0, 0, 0, 0, 0), (.getfield 19, 3, 9, 2, 2, 0, 0), (.getfield 59, 3, 0, 0, 3, 0, 0), (.getfield 269, 3, 1, 3, 2, 0, 0), (.getfield 272, 3, 5, 3, 0, 0, 0), (.if_icmp .lt 9, 3, 34, 0, 0, 0, 0)]),
  (28, [true, false], [(.aload_n 0, 1, 0, 0, 0, 0, 0), (.iconst 1, 1, 0, 0, 0, 1, 0), (.invokevirtual 42, 3, 159, 2, 1, 0, 0), (.ireturn, 1, 0, 0, 0, 0, 0)]),
  (34, [true, true], [(.aload_n 0, 1, 0, 0, 0, 0, 0), (.aload_n 0, 1, 0, 0, 0, 0, 0), (.invokevirtual 189, 3, 1010, 1, 3, 1, 0), (.aload_n 0, 1, 0, 0, 0, 0, 0), (.getfield 26, 3, 9, 3, 2, 0, 0), (.getfield 148, 3, 4, 0, 0, 0, 0), (.iload_n 1, 1, 0, 0, 0, 0, 0), (.invokevirtual 274, 3, 87, 3, 1, 0, 0), (.invokevirtual 83, 3, 160, 2, 1, 0, 0), (.ireturn, 1, 0, 0, 0, 0, 0)])
]
theorem ck_146 : (bk_146.all fun q => mm_ckr 9 cX9_more q.2.2 q.1) = true := by decide +kernel
def bk_147 : List mmB := /- X9 less -/ [
  (0, [true, true, true], [(.iload_n 1, 1, 0, 0, 0, 0, 0), (.ifCond .ne 31, 3, 32, 0, 0, 0, 0), (.aload_n 0, 1, 0, 0, 0, 0, 0), (.iload_n 2, 1, 0, 0, 0, 0, 0), (.invokevirtual 89, 3, 153, 2, 1, 0, 0), (.ifCond .eq 23, 3, 32, 0, 0, 0, 0), (.aload_n 0, 1, 0, 0, 0, 0, 0), (.aload_n 0, 1, 0, 0, 0, 0, 0), (.invokevirtual 189, 3, 1010, 1, 3, 1, 0), (.aload_n 0, 1, 0, 0, 0, 0, 0), (.getfield 26, 3, 9, 3, 2, 0, 0), (.getfield 148, 3, 4, 0, 0, 0, 0), (.iload_n 2, 1, 0, 0, 0, 0, 0), (.invokevirtual 277, 3, 86, 3, 1, 0, 0), (.invokevirtual 83, 3, 160, 2, 1, 0, 0), (.ireturn, 1, 0, 0, 0, 0, 0)]),
  (32, [true, true, true], [(.iload_n 1, 1, 0, 0, 0, 0, 0), (.iconst 1, 1, 0, 0, 0, 1, 0), (.if_icmp .ne 11, 3, 45, 0, 0, 0, 0), (.aload_n 0, 1, 0, 0, 0, 0, 0), (.iload_n 2, 1, 0, 0, 0, 0, 0), (.invokevirtual 120, 3, 154, 2, 1, 0, 0), (.ifCond .ne 16, 3, 58, 0, 0, 0, 0)]),
  (45, [true, true, true], [(.iload_n 1, 1, 0, 0, 0, 0, 0), (.iconst 2, 1, 0, 0, 0, 2, 0), (.if_icmp .ne 32, 3, 79, 0, 0, 0, 0), (.aload_n 0, 1, 0, 0, 0, 0, 0), (.iload_n 2, 1, 0, 0, 0, 0, 0), (.invokevirtual 117, 3, 155, 2, 1, 0, 0), (.ifCond .eq 24, 3, 79, 0, 0, 0, 0)]),
  (58, [true, true, true], [(.aload_n 0, 1, 0, 0, 0, 0, 0), (.aload_n 0, 1, 0, 0, 0, 0, 0), (.invokevirtual 189, 3, 1010, 1, 3, 1, 0), (.aload_n 0, 1, 0, 0, 0, 0, 0), (.getfield 26, 3, 9, 3, 2, 0, 0), (.getfield 148, 3, 4, 0, 0, 0, 0), (.iload_n 1, 1, 0, 0, 0, 0, 0), (.iload_n 2, 1, 0, 0, 0, 0, 0), (.invokevirtual 280, 3, 85, 4, 1, 0, 0), (.invokevirtual 83, 3, 160, 2, 1, 0, 0), (.ireturn, 1, 0, 0, 0, 0, 0)]),
  (79, [true, false, false], [(.aload_n 0, 1, 0, 0, 0, 0, 0), (.iconst 1, 1, 0, 0, 0, 1, 0), (.invokevirtual 42, 3, 159, 2, 1, 0, 0), (.ireturn, 1, 0, 0, 0, 0, 0)])
]
theorem ck_147 : (bk_147.all fun q => mm_ckr 9 cX9_less q.2.2 q.1) = true := by decide +kernel
def bk_148 : List mmB := /- X9 image -/ [
  (0, [true, false], [(.aload_n 0, 1, 0, 0, 0, 0, 0), (.getfield 70, 3, 9, 1, 0, 0, 0), (.ifCond .ne 9, 3, 13, 0, 0, 0, 0), (.aload_n 0, 1, 0, 0, 0, 0, 0), (.iconst 1, 1, 0, 0, 0, 1, 0), (.invokevirtual 42, 3, 159, 2, 1, 0, 0), (.ireturn, 1, 0, 0, 0, 0, 0)]),
  (13, [true, false], [(.aload_n 0, 1, 0, 0, 0, 0, 0), (.getfield 26, 3, 9, 3, 2, 0, 0), (.invokevirtual 283, 3, 52, 1, 1, 0, 0), (.istore_n 1, 1, 0, 0, 0, 0, 0), (.iload_n 1, 1, 0, 0, 0, 0, 0), (.iconst (-1), 1, 0, 0, 0, (-1), 0), (.if_icmp .ne 11, 3, 34, 0, 0, 0, 0), (.aload_n 0, 1, 0, 0, 0, 0, 0), (.iconst 3, 1, 0, 0, 0, 3, 0), (.invokevirtual 42, 3, 159, 2, 1, 0, 0), (.goto 8, 3, 39, 0, 0, 0, 0)]),
  (34, [true, true], [(.aload_n 0, 1, 0, 0, 0, 0, 0), (.iload_n 1, 1, 0, 0, 0, 0, 0), (.invokevirtual 83, 3, 160, 2, 1, 0, 0)]),
  (39, [false, false], [(.ireturn, 1, 0, 0, 0, 0, 0)])
]
theorem ck_148 : (bk_148.all fun q => mm_ckr 9 cX9_image q.2.2 q.1) = true := by decide +kernel
def bk_149 : List mmB := /- X9 back -/ [
  (0, [true, true], [(.aload_n 0, 1, 0, 0, 0, 0, 0), (.getfield 26, 3, 9, 3, 2, 0, 0), (.iload_n 1, 1, 0, 0, 0, 0, 0), (.invokevirtual 286, 3, 53, 2, 1, 0, 0), (.ifCond .eq 10, 3, 18, 0, 0, 0, 0), (.aload_n 0, 1, 0, 0, 0, 0, 0), (.invokevirtual 183, 3, 162, 1, 1, 0, 0), (.goto 8, 3, 23, 0, 0, 0, 0)]),
  (18, [true, false], [(.aload_n 0, 1, 0, 0, 0, 0, 0), (.iconst 1, 1, 0, 0, 0, 1, 0), (.invokevirtual 173, 3, 161, 2, 1, 0, 0)]),
  (23, [false, false], [(.ireturn, 1, 0, 0, 5, 0, 0)])
]
theorem ck_149 : (bk_149.all fun q => mm_ckr 9 cX9_back q.2.2 q.1) = true := by decide +kernel
def bk_150 : List mmB := /- X9 size -/ [
  (0, [true, true], [(.iload_n 1, 1, 0, 0, 0, 0, 0), (.tableswitch 51 8 10 #[27, 35, 43], 27, 0, 0, 0, 0, 0)]),
  (28, [true, false], [(.aload_n 0, 1, 0, 0, 0, 0, 0), (.getfield 26, 3, 9, 3, 2, 0, 0), (.getfield 292, 3, 4, 2, 0, 0, 0), (.ireturn, 1, 0, 0, 0, 0, 0)]),
  (36, [true, false], [(.aload_n 0, 1, 0, 0, 0, 0, 0), (.getfield 26, 3, 9, 3, 2, 0, 0), (.getfield 295, 3, 4, 4, 0, 0, 0), (.ireturn, 1, 0, 0, 0, 0, 0)]),
  (44, [true, false], [(.aload_n 0, 1, 0, 0, 0, 0, 0), (.getfield 12, 3, 9, 0, 2, 0, 0), (.getfield 38, 3, 6, 1, 0, 0, 0), (.ireturn, 1, 0, 0, 0, 0, 0)]),
  (52, [true, true], [(.aload_n 0, 1, 0, 0, 0, 0, 0), (.iload_n 1, 1, 0, 0, 0, 0, 0), (.invokevirtual 298, 3, 152, 2, 1, 0, 0), (.ireturn, 1, 0, 0, 0, 0, 0)])
]
theorem ck_150 : (bk_150.all fun q => mm_ckr 9 cX9_size q.2.2 q.1) = true := by decide +kernel
def bk_151 : List mmB := /- X9 trouble -/ [
  (0, [true], [(.aload_n 0, 1, 0, 0, 0, 0, 0), (.getfield 86, 3, 9, 7, 0, 0, 0), (.ireturn, 1, 0, 0, 0, 0, 0)])
]
theorem ck_151 : (bk_151.all fun q => mm_ckr 9 cX9_trouble q.2.2 q.1) = true := by decide +kernel
def bk_152 : List mmB := /- X9 sizeOfCake -/ [
  (0, [true, true], [(.iload_n 1, 1, 0, 0, 0, 0, 0), (.ifCond .lt 9, 3, 10, 0, 0, 0, 0), (.iload_n 1, 1, 0, 0, 0, 0, 0), (.bipush 7, 2, 0, 0, 0, 7, 0), (.if_icmp .le 5, 3, 12, 0, 0, 0, 0)]),
  (10, [false, false], [(.iconst (-1), 1, 0, 0, 0, (-1), 0), (.ireturn, 1, 0, 0, 0, 0, 0)]),
  (12, [true, true], [(.aload_n 0, 1, 0, 0, 0, 0, 0), (.getfield 70, 3, 9, 1, 0, 0, 0), (.ifCond .ne 5, 3, 21, 0, 0, 0, 0), (.iconst 0, 1, 0, 0, 0, 0, 0), (.ireturn, 1, 0, 0, 0, 0, 0)]),
  (21, [true, true], [(.iload_n 1, 1, 0, 0, 0, 0, 0), (.tableswitch 136 0 6 #[42, 56, 70, 84, 95, 106, 117], 42, 0, 0, 0, 0, 0)]),
  (64, [true, false], [(.aload_n 0, 1, 0, 0, 0, 0, 0), (.getfield 19, 3, 9, 2, 2, 0, 0), (.getfield 59, 3, 0, 0, 3, 0, 0), (.getfield 93, 3, 1, 0, 2, 0, 0), (.getfield 272, 3, 5, 3, 0, 0, 0), (.ireturn, 1, 0, 0, 0, 0, 0)]),
  (78, [true, false], [(.aload_n 0, 1, 0, 0, 0, 0, 0), (.getfield 19, 3, 9, 2, 2, 0, 0), (.getfield 59, 3, 0, 0, 3, 0, 0), (.getfield 301, 3, 1, 2, 2, 0, 0), (.getfield 272, 3, 5, 3, 0, 0, 0), (.ireturn, 1, 0, 0, 0, 0, 0)]),
  (92, [true, false], [(.aload_n 0, 1, 0, 0, 0, 0, 0), (.getfield 19, 3, 9, 2, 2, 0, 0), (.getfield 59, 3, 0, 0, 3, 0, 0), (.getfield 269, 3, 1, 3, 2, 0, 0), (.getfield 272, 3, 5, 3, 0, 0, 0), (.ireturn, 1, 0, 0, 0, 0, 0)]),
  (106, [true, false], [(.aload_n 0, 1, 0, 0, 0, 0, 0), (.getfield 19, 3, 9, 2, 2, 0, 0), (.getfield 59, 3, 0, 0, 3, 0, 0), (.getfield 304, 3, 1, 6, 0, 0, 0), (.ireturn, 1, 0, 0, 0, 0, 0)]),
  (117, [true, false], [(.aload_n 0, 1, 0, 0, 0, 0, 0), (.getfield 19, 3, 9, 2, 2, 0, 0), (.getfield 59, 3, 0, 0, 3, 0, 0), (.getfield 307, 3, 1, 7, 0, 0, 0), (.ireturn, 1, 0, 0, 0, 0, 0)]),
  (128, [true, false], [(.aload_n 0, 1, 0, 0, 0, 0, 0), (.getfield 19, 3, 9, 2, 2, 0, 0), (.getfield 59, 3, 0, 0, 3, 0, 0), (.getfield 204, 3, 1, 8, 0, 0, 0), (.ireturn, 1, 0, 0, 0, 0, 0)]),
  (139, [true, false], [(.aload_n 0, 1, 0, 0, 0, 0, 0), (.getfield 19, 3, 9, 2, 2, 0, 0), (.getfield 59, 3, 0, 0, 3, 0, 0), (.getfield 310, 3, 1, 10, 0, 0, 0), (.ifCond .eq 7, 3, 156, 0, 0, 0, 0), (.iconst 1, 1, 0, 0, 0, 1, 0), (.goto 4, 3, 157, 0, 0, 0, 0)]),
  (156, [false, false], [(.iconst 0, 1, 0, 0, 0, 0, 0)]),
  (157, [false, false], [(.ireturn, 1, 0, 0, 0, 0, 0)]),
  (158, [true, false], [(.aload_n 0, 1, 0, 0, 0, 0, 0), (.getfield 19, 3, 9, 2, 2, 0, 0), (.getfield 59, 3, 0, 0, 3, 0, 0), (.getfield 313, 3, 1, 11, 0, 0, 0), (.ireturn, 1, 0, 0, 0, 0, 0)])
]
theorem ck_152 : (bk_152.all fun q => mm_ckr 9 cX9_sizeOfCake q.2.2 q.1) = true := by decide +kernel
def bk_153 : List mmB := /- X9 isCandle -/ [
  (0, [true, true], [(.aload_n 0, 1, 0, 0, 0, 0, 0), (.getfield 70, 3, 9, 1, 0, 0, 0), (.ifCond .eq 28, 3, 32, 0, 0, 0, 0), (.iload_n 1, 1, 0, 0, 0, 0, 0), (.ifCond .lt 24, 3, 32, 0, 0, 0, 0), (.iload_n 1, 1, 0, 0, 0, 0, 0), (.aload_n 0, 1, 0, 0, 0, 0, 0), (.getfield 19, 3, 9, 2, 2, 0, 0), (.getfield 59, 3, 0, 0, 3, 0, 0), (.getfield 93, 3, 1, 0, 2, 0, 0), (.getfield 272, 3, 5, 3, 0, 0, 0), (.if_icmp .ge 7, 3, 32, 0, 0, 0, 0), (.iconst 1, 1, 0, 0, 0, 1, 0), (.goto 4, 3, 33, 0, 0, 0, 0)]),
  (32, [false, false], [(.iconst 0, 1, 0, 0, 0, 0, 0)]),
  (33, [false, false], [(.ireturn, 1, 0, 0, 5, 0, 0)])
]
theorem ck_153 : (bk_153.all fun q => mm_ckr 9 cX9_isCandle q.2.2 q.1) = true := by decide +kernel
def bk_154 : List mmB := /- X9 isPlace -/ [
  (0, [true, true], [(.aload_n 0, 1, 0, 0, 0, 0, 0), (.getfield 70, 3, 9, 1, 0, 0, 0), (.ifCond .eq 28, 3, 32, 0, 0, 0, 0), (.iload_n 1, 1, 0, 0, 0, 0, 0), (.ifCond .lt 24, 3, 32, 0, 0, 0, 0), (.iload_n 1, 1, 0, 0, 0, 0, 0), (.aload_n 0, 1, 0, 0, 0, 0, 0), (.getfield 19, 3, 9, 2, 2, 0, 0), (.getfield 59, 3, 0, 0, 3, 0, 0), (.getfield 301, 3, 1, 2, 2, 0, 0), (.getfield 272, 3, 5, 3, 0, 0, 0), (.if_icmp .ge 7, 3, 32, 0, 0, 0, 0), (.iconst 1, 1, 0, 0, 0, 1, 0), (.goto 4, 3, 33, 0, 0, 0, 0)]),
  (32, [false, false], [(.iconst 0, 1, 0, 0, 0, 0, 0)]),
  (33, [false, false], [(.ireturn, 1, 0, 0, 5, 0, 0)])
]
theorem ck_154 : (bk_154.all fun q => mm_ckr 9 cX9_isPlace q.2.2 q.1) = true := by decide +kernel
def bk_155 : List mmB := /- X9 isPerson -/ [
  (0, [true, true], [(.aload_n 0, 1, 0, 0, 0, 0, 0), (.getfield 70, 3, 9, 1, 0, 0, 0), (.ifCond .eq 25, 3, 29, 0, 0, 0, 0), (.iload_n 1, 1, 0, 0, 0, 0, 0), (.ifCond .lt 21, 3, 29, 0, 0, 0, 0), (.iload_n 1, 1, 0, 0, 0, 0, 0), (.aload_n 0, 1, 0, 0, 0, 0, 0), (.getfield 19, 3, 9, 2, 2, 0, 0), (.getfield 59, 3, 0, 0, 3, 0, 0), (.getfield 304, 3, 1, 6, 0, 0, 0), (.if_icmp .ge 7, 3, 29, 0, 0, 0, 0), (.iconst 1, 1, 0, 0, 0, 1, 0), (.goto 4, 3, 30, 0, 0, 0, 0)]),
  (29, [false, false], [(.iconst 0, 1, 0, 0, 0, 0, 0)]),
  (30, [false, false], [(.ireturn, 1, 0, 0, 5, 0, 0)])
]
theorem ck_155 : (bk_155.all fun q => mm_ckr 9 cX9_isPerson q.2.2 q.1) = true := by decide +kernel
def bk_156 : List mmB := /- X9 isBreath -/ [
  (0, [true, true], [(.aload_n 0, 1, 0, 0, 0, 0, 0), (.getfield 70, 3, 9, 1, 0, 0, 0), (.ifCond .eq 22, 3, 26, 0, 0, 0, 0), (.iload_n 1, 1, 0, 0, 0, 0, 0), (.ifCond .lt 18, 3, 26, 0, 0, 0, 0), (.iload_n 1, 1, 0, 0, 0, 0, 0), (.aload_n 0, 1, 0, 0, 0, 0, 0), (.getfield 19, 3, 9, 2, 2, 0, 0), (.getfield 80, 3, 0, 2, 0, 0, 0), (.if_icmp .ge 7, 3, 26, 0, 0, 0, 0), (.iconst 1, 1, 0, 0, 0, 1, 0), (.goto 4, 3, 27, 0, 0, 0, 0)]),
  (26, [false, false], [(.iconst 0, 1, 0, 0, 0, 0, 0)]),
  (27, [false, false], [(.ireturn, 1, 0, 0, 5, 0, 0)])
]
theorem ck_156 : (bk_156.all fun q => mm_ckr 9 cX9_isBreath q.2.2 q.1) = true := by decide +kernel
def bk_157 : List mmB := /- X9 isRefused -/ [
  (0, [true, true, true], [(.aload_n 0, 1, 0, 0, 0, 0, 0), (.getfield 70, 3, 9, 1, 0, 0, 0), (.ifCond .ne 10, 3, 14, 0, 0, 0, 0), (.aload_n 0, 1, 0, 0, 0, 0, 0), (.iconst 1, 1, 0, 0, 0, 1, 0), (.putfield 86, 3, 9, 7, 0, 0, 0), (.iconst 1, 1, 0, 0, 0, 1, 0), (.ireturn, 1, 0, 0, 5, 0, 0)]),
  (14, [true, true, true], [(.iload_n 1, 1, 0, 0, 0, 0, 0), (.iconst 1, 1, 0, 0, 0, 1, 0), (.if_icmp .lt 8, 3, 24, 0, 0, 0, 0), (.iload_n 1, 1, 0, 0, 0, 0, 0), (.iload_n 2, 1, 0, 0, 0, 0, 0), (.if_icmp .le 10, 3, 31, 0, 0, 0, 0)]),
  (24, [true, false, false], [(.aload_n 0, 1, 0, 0, 0, 0, 0), (.iconst 2, 1, 0, 0, 0, 2, 0), (.putfield 86, 3, 9, 7, 0, 0, 0), (.iconst 1, 1, 0, 0, 0, 1, 0), (.ireturn, 1, 0, 0, 5, 0, 0)]),
  (31, [false, false, false], [(.iconst 0, 1, 0, 0, 0, 0, 0), (.ireturn, 1, 0, 0, 5, 0, 0)])
]
theorem ck_157 : (bk_157.all fun q => mm_ckr 9 cX9_isRefused q.2.2 q.1) = true := by decide +kernel
def bk_158 : List mmB := /- X9 isFitRefused -/ [
  (0, [true, true], [(.aload_n 0, 1, 0, 0, 0, 0, 0), (.iload_n 1, 1, 0, 0, 0, 0, 0), (.iconst 2, 1, 0, 0, 0, 2, 0), (.invokevirtual 227, 3, 157, 3, 1, 0, 0), (.ifCond .eq 5, 3, 11, 0, 0, 0, 0), (.iconst 1, 1, 0, 0, 0, 1, 0), (.ireturn, 1, 0, 0, 5, 0, 0)]),
  (11, [true, false], [(.aload_n 0, 1, 0, 0, 0, 0, 0), (.getfield 19, 3, 9, 2, 2, 0, 0), (.getfield 59, 3, 0, 0, 3, 0, 0), (.getfield 313, 3, 1, 11, 0, 0, 0), (.bipush (-2), 2, 0, 0, 0, (-2), 0), (.if_icmp .ne 11, 3, 34, 0, 0, 0, 0), (.aload_n 0, 1, 0, 0, 0, 0, 0), (.bipush 6, 2, 0, 0, 0, 6, 0), (.putfield 86, 3, 9, 7, 0, 0, 0), (.iconst 1, 1, 0, 0, 0, 1, 0), (.ireturn, 1, 0, 0, 5, 0, 0)]),
  (34, [false, false], [(.iconst 0, 1, 0, 0, 0, 0, 0), (.ireturn, 1, 0, 0, 5, 0, 0)])
]
theorem ck_158 : (bk_158.all fun q => mm_ckr 9 cX9_isFitRefused q.2.2 q.1) = true := by decide +kernel
def bk_159 : List mmB := /- X9 refuse -/ [
  (0, [true, true], [(.aload_n 0, 1, 0, 0, 0, 0, 0), (.iload_n 1, 1, 0, 0, 0, 0, 0), (.putfield 86, 3, 9, 7, 0, 0, 0), (.iconst (-1), 1, 0, 0, 0, (-1), 0), (.ireturn, 1, 0, 0, 0, 0, 0)])
]
theorem ck_159 : (bk_159.all fun q => mm_ckr 9 cX9_refuse q.2.2 q.1) = true := by decide +kernel
def bk_160 : List mmB := /- X9 answer -/ [
  (0, [true, true], [(.aload_n 0, 1, 0, 0, 0, 0, 0), (.iconst 0, 1, 0, 0, 0, 0, 0), (.putfield 86, 3, 9, 7, 0, 0, 0), (.iload_n 1, 1, 0, 0, 0, 0, 0), (.ireturn, 1, 0, 0, 0, 0, 0)])
]
theorem ck_160 : (bk_160.all fun q => mm_ckr 9 cX9_answer q.2.2 q.1) = true := by decide +kernel
def bk_161 : List mmB := /- X9 deny -/ [
  (0, [true, true], [(.aload_n 0, 1, 0, 0, 0, 0, 0), (.iload_n 1, 1, 0, 0, 0, 0, 0), (.putfield 86, 3, 9, 7, 0, 0, 0), (.iconst 0, 1, 0, 0, 0, 0, 0), (.ireturn, 1, 0, 0, 5, 0, 0)])
]
theorem ck_161 : (bk_161.all fun q => mm_ckr 9 cX9_deny q.2.2 q.1) = true := by decide +kernel
def bk_162 : List mmB := /- X9 grant -/ [
  (0, [true], [(.aload_n 0, 1, 0, 0, 0, 0, 0), (.iconst 0, 1, 0, 0, 0, 0, 0), (.putfield 86, 3, 9, 7, 0, 0, 0), (.iconst 1, 1, 0, 0, 0, 1, 0), (.ireturn, 1, 0, 0, 5, 0, 0)])
]
theorem ck_162 : (bk_162.all fun q => mm_ckr 9 cX9_grant q.2.2 q.1) = true := by decide +kernel
def bk_163 : List mmB := /- X9 inLowestTerms -/ [
  (0, [true, true, false, true, false, true, false, false], [(.aload_n 0, 1, 0, 0, 0, 0, 0), (.iconst 0, 1, 0, 0, 0, 0, 0), (.putfield 86, 3, 9, 7, 0, 0, 0), (.lload_n 1, 1, 0, 0, 0, 0, 0), (.lload_n 3, 1, 0, 0, 0, 0, 0), (.invokestatic 316, 3, 164, 2, 2, 0, 0), (.lstore 6, 2, 0, 0, 0, 0, 0), (.lload 6, 2, 0, 0, 0, 0, 0), (.lconst 0, 1, 0, 0, 0, 0, 0), (.lcmp, 1, 0, 0, 0, 0, 0), (.ifCond .ne 5, 3, 21, 0, 0, 0, 0), (.lconst 0, 1, 0, 0, 0, 0, 0), (.lreturn, 1, 0, 0, 0, 0, 0)]),
  (21, [false, true, false, true, false, true, true, false], [(.iload 5, 2, 0, 0, 0, 0, 0), (.ifCond .eq 7, 3, 30, 0, 0, 0, 0), (.lload_n 3, 1, 0, 0, 0, 0, 0), (.goto 4, 3, 31, 0, 0, 0, 0)]),
  (30, [false, true, false, false, false, false, true, false], [(.lload_n 1, 1, 0, 0, 0, 0, 0)]),
  (31, [false, false, false, false, false, false, true, false], [(.lload 6, 2, 0, 0, 0, 0, 0), (.ldiv, 1, 0, 0, 0, 0, 0), (.lreturn, 1, 0, 0, 0, 0, 0)])
]
theorem ck_163 : (bk_163.all fun q => mm_ckr 9 cX9_inLowestTerms q.2.2 q.1) = true := by decide +kernel
def bk_164 : List mmB := /- X9 commonMeasure -/ [
  (0, [true, false, true, false, false, false, false, false, false, false, false], [(.lload_n 0, 1, 0, 0, 0, 0, 0), (.lstore 4, 2, 0, 0, 0, 0, 0), (.lload_n 2, 1, 0, 0, 0, 0, 0), (.lstore 6, 2, 0, 0, 0, 0, 0), (.iconst 0, 1, 0, 0, 0, 0, 0), (.istore 8, 2, 0, 0, 0, 0, 0)]),
  (9, [false, false, false, false, true, false, true, false, true, false, false], [(.iload 8, 2, 0, 0, 0, 0, 0), (.bipush 100, 2, 0, 0, 0, 100, 0), (.if_icmp .ge 31, 3, 44, 0, 0, 0, 0), (.lload 6, 2, 0, 0, 0, 0, 0), (.lconst 0, 1, 0, 0, 0, 0, 0), (.lcmp, 1, 0, 0, 0, 0, 0), (.ifCond .eq 24, 3, 44, 0, 0, 0, 0), (.lload 4, 2, 0, 0, 0, 0, 0), (.lload 6, 2, 0, 0, 0, 0, 0), (.lrem, 1, 0, 0, 0, 0, 0), (.lstore 9, 2, 0, 0, 0, 0, 0), (.lload 6, 2, 0, 0, 0, 0, 0), (.lstore 4, 2, 0, 0, 0, 0, 0), (.lload 9, 2, 0, 0, 0, 0, 0), (.lstore 6, 2, 0, 0, 0, 0, 0), (.iinc 8 1, 3, 0, 0, 0, 1, 0), (.goto (-32), 3, 9, 0, 0, 0, 0)]),
  (44, [false, false, false, false, true, false, false, false, false, false, false], [(.lload 4, 2, 0, 0, 0, 0, 0), (.lreturn, 1, 0, 0, 0, 0, 0)])
]
theorem ck_164 : (bk_164.all fun q => mm_ckr 9 cX9_commonMeasure q.2.2 q.1) = true := by decide +kernel
