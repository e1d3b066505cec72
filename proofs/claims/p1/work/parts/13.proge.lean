/-! the methods as rows of instructions, and that their bytes say so -/
def bk_165 : List mmB := /- X10 thrown -/ [
  (0, [true], [(.aload_n 0, 1, 0, 0, 0, 0, 0), (.getfield 72, 3, 10, 0, 0, 0, 0), (.ireturn, 1, 0, 0, 0, 0, 0)])
]
theorem ck_165 : (bk_165.all fun q => mm_ckr 10 cX10_thrown q.2.2 q.1) = true := by decide +kernel
def bk_166 : List mmB := /- X10 good -/ [
  (0, [true], [(.aload_n 0, 1, 0, 0, 0, 0, 0), (.iconst 0, 1, 0, 0, 0, 0, 0), (.putfield 72, 3, 10, 0, 0, 0, 0), (.aload_n 0, 1, 0, 0, 0, 0, 0), (.iconst 0, 1, 0, 0, 0, 0, 0), (.putfield 75, 3, 10, 11, 0, 0, 0), (.return_, 1, 0, 0, 0, 0, 0)])
]
theorem ck_166 : (bk_166.all fun q => mm_ckr 10 cX10_good q.2.2 q.1) = true := by decide +kernel
def bk_167 : List mmB := /- X10 no -/ [
  (0, [true, true], [(.aload_n 0, 1, 0, 0, 0, 0, 0), (.iload_n 1, 1, 0, 0, 0, 0, 0), (.putfield 75, 3, 10, 11, 0, 0, 0), (.iconst (-1), 1, 0, 0, 0, (-1), 0), (.ireturn, 1, 0, 0, 0, 0, 0)])
]
theorem ck_167 : (bk_167.all fun q => mm_ckr 10 cX10_no q.2.2 q.1) = true := by decide +kernel
def bk_168 : List mmB := /- X10 isNot -/ [
  (0, [true, true], [(.aload_n 0, 1, 0, 0, 0, 0, 0), (.iload_n 1, 1, 0, 0, 0, 0, 0), (.putfield 75, 3, 10, 11, 0, 0, 0), (.iconst 0, 1, 0, 0, 0, 0, 0), (.ireturn, 1, 0, 0, 5, 0, 0)])
]
theorem ck_168 : (bk_168.all fun q => mm_ckr 10 cX10_isNot q.2.2 q.1) = true := by decide +kernel
def bk_169 : List mmB := /- X10 within -/ [
  (0, [true, true, true], [(.iload_n 0, 1, 0, 0, 0, 0, 0), (.iload_n 1, 1, 0, 0, 0, 0, 0), (.if_icmp .lt 12, 3, 14, 0, 0, 0, 0), (.iload_n 0, 1, 0, 0, 0, 0, 0), (.iload_n 2, 1, 0, 0, 0, 0, 0), (.if_icmp .gt 7, 3, 14, 0, 0, 0, 0), (.iconst 1, 1, 0, 0, 0, 1, 0), (.goto 4, 3, 15, 0, 0, 0, 0)]),
  (14, [false, false, false], [(.iconst 0, 1, 0, 0, 0, 0, 0)]),
  (15, [false, false, false], [(.ireturn, 1, 0, 0, 5, 0, 0)])
]
theorem ck_169 : (bk_169.all fun q => mm_ckr 10 cX10_within q.2.2 q.1) = true := by decide +kernel
def bk_170 : List mmB := /- X10 has -/ [
  (0, [true, true], [(.iload_n 0, 1, 0, 0, 0, 0, 0), (.iload_n 1, 1, 0, 0, 0, 0, 0), (.ishr, 1, 0, 0, 0, 0, 0), (.iconst 1, 1, 0, 0, 0, 1, 0), (.iand, 1, 0, 0, 0, 0, 0), (.iconst 1, 1, 0, 0, 0, 1, 0), (.if_icmp .ne 7, 3, 13, 0, 0, 0, 0), (.iconst 1, 1, 0, 0, 0, 1, 0), (.goto 4, 3, 14, 0, 0, 0, 0)]),
  (13, [false, false], [(.iconst 0, 1, 0, 0, 0, 0, 0)]),
  (14, [false, false], [(.ireturn, 1, 0, 0, 5, 0, 0)])
]
theorem ck_170 : (bk_170.all fun q => mm_ckr 10 cX10_has q.2.2 q.1) = true := by decide +kernel
def bk_171 : List mmB := /- X10 bits -/ [
  (0, [true, false, false], [(.iconst 0, 1, 0, 0, 0, 0, 0), (.istore_n 1, 1, 0, 0, 0, 0, 0), (.iconst 0, 1, 0, 0, 0, 0, 0), (.istore_n 2, 1, 0, 0, 0, 0, 0)]),
  (4, [true, true, true], [(.iload_n 2, 1, 0, 0, 0, 0, 0), (.bipush 14, 2, 0, 0, 0, 14, 0), (.if_icmp .ge 17, 3, 24, 0, 0, 0, 0), (.iload_n 1, 1, 0, 0, 0, 0, 0), (.iload_n 0, 1, 0, 0, 0, 0, 0), (.iload_n 2, 1, 0, 0, 0, 0, 0), (.ishr, 1, 0, 0, 0, 0, 0), (.iconst 1, 1, 0, 0, 0, 1, 0), (.iand, 1, 0, 0, 0, 0, 0), (.iadd, 1, 0, 0, 0, 0, 0), (.istore_n 1, 1, 0, 0, 0, 0, 0), (.iinc 2 1, 3, 0, 0, 0, 1, 0), (.goto (-17), 3, 4, 0, 0, 0, 0)]),
  (24, [false, true, false], [(.iload_n 1, 1, 0, 0, 0, 0, 0), (.ireturn, 1, 0, 0, 0, 0, 0)])
]
theorem ck_171 : (bk_171.all fun q => mm_ckr 10 cX10_bits q.2.2 q.1) = true := by decide +kernel
def bk_172 : List mmB := /- X10 feed -/ [
  (0, [true, true, true, true, true, true, false, false], [(.aload_n 0, 1, 0, 0, 0, 0, 0), (.iconst 0, 1, 0, 0, 0, 0, 0), (.putfield 72, 3, 10, 0, 0, 0, 0), (.aload_n 0, 1, 0, 0, 0, 0, 0), (.getfield 78, 3, 10, 2, 0, 0, 0), (.bipush 20, 2, 0, 0, 0, 20, 0), (.iadd, 1, 0, 0, 0, 0, 0), (.sipush 900, 3, 0, 0, 0, 900, 0), (.if_icmp .le 5, 3, 20, 0, 0, 0, 0), (.iconst (-1), 1, 0, 0, 0, (-1), 0), (.ireturn, 1, 0, 0, 0, 0, 0)]),
  (20, [true, true, true, true, true, true, false, false], [(.iconst 0, 1, 0, 0, 0, 0, 0), (.istore 6, 2, 0, 0, 0, 0, 0)]),
  (23, [true, true, true, true, true, true, true, false], [(.iload 6, 2, 0, 0, 0, 0, 0), (.bipush 20, 2, 0, 0, 0, 20, 0), (.if_icmp .ge 93, 3, 120, 0, 0, 0, 0), (.iload 6, 2, 0, 0, 0, 0, 0), (.iconst 4, 1, 0, 0, 0, 4, 0), (.if_icmp .ge 7, 3, 40, 0, 0, 0, 0), (.iload_n 1, 1, 0, 0, 0, 0, 0), (.goto 39, 3, 76, 0, 0, 0, 0)]),
  (40, [true, true, true, true, true, true, true, false], [(.iload 6, 2, 0, 0, 0, 0, 0), (.bipush 8, 2, 0, 0, 0, 8, 0), (.if_icmp .ge 7, 3, 51, 0, 0, 0, 0), (.iload_n 2, 1, 0, 0, 0, 0, 0), (.goto 28, 3, 76, 0, 0, 0, 0)]),
  (51, [true, true, true, true, true, true, true, false], [(.iload 6, 2, 0, 0, 0, 0, 0), (.bipush 12, 2, 0, 0, 0, 12, 0), (.if_icmp .ge 7, 3, 62, 0, 0, 0, 0), (.iload_n 3, 1, 0, 0, 0, 0, 0), (.goto 17, 3, 76, 0, 0, 0, 0)]),
  (62, [true, true, true, true, true, true, true, false], [(.iload 6, 2, 0, 0, 0, 0, 0), (.bipush 16, 2, 0, 0, 0, 16, 0), (.if_icmp .ge 8, 3, 74, 0, 0, 0, 0), (.iload 4, 2, 0, 0, 0, 0, 0), (.goto 5, 3, 76, 0, 0, 0, 0)]),
  (74, [true, true, true, true, true, true, true, false], [(.iload 5, 2, 0, 0, 0, 0, 0)]),
  (76, [true, true, true, true, true, true, true, false], [(.istore 7, 2, 0, 0, 0, 0, 0), (.aload_n 0, 1, 0, 0, 0, 0, 0), (.getfield 7, 3, 10, 1, 2, 0, 0), (.aload_n 0, 1, 0, 0, 0, 0, 0), (.getfield 78, 3, 10, 2, 0, 0, 0), (.iload 7, 2, 0, 0, 0, 0, 0), (.bipush 24, 2, 0, 0, 0, 24, 0), (.bipush 8, 2, 0, 0, 0, 8, 0), (.iload 6, 2, 0, 0, 0, 0, 0), (.iconst 4, 1, 0, 0, 0, 4, 0), (.irem, 1, 0, 0, 0, 0, 0), (.imul, 1, 0, 0, 0, 0, 0), (.isub, 1, 0, 0, 0, 0, 0), (.ishr, 1, 0, 0, 0, 0, 0), (.sipush 255, 3, 0, 0, 0, 255, 0), (.iand, 1, 0, 0, 0, 0, 0), (.iastore, 1, 0, 0, 0, 0, 0), (.aload_n 0, 1, 0, 0, 0, 0, 0), (.dup, 1, 0, 0, 0, 0, 0), (.getfield 78, 3, 10, 2, 0, 0, 0), (.iconst 1, 1, 0, 0, 0, 1, 0), (.iadd, 1, 0, 0, 0, 0, 0), (.putfield 78, 3, 10, 2, 0, 0, 0), (.iinc 6 1, 3, 0, 0, 0, 1, 0), (.goto (-94), 3, 23, 0, 0, 0, 0)]),
  (120, [true, false, false, false, false, false, false, false], [(.aload_n 0, 1, 0, 0, 0, 0, 0), (.getfield 78, 3, 10, 2, 0, 0, 0), (.ireturn, 1, 0, 0, 0, 0, 0)])
]
theorem ck_172 : (bk_172.all fun q => mm_ckr 10 cX10_feed q.2.2 q.1) = true := by decide +kernel
def bk_173 : List mmB := /- X10 look -/ [
  (0, [true, true], [(.iload_n 1, 1, 0, 0, 0, 0, 0), (.aload_n 0, 1, 0, 0, 0, 0, 0), (.getfield 81, 3, 10, 3, 0, 0, 0), (.if_icmp .ge 12, 3, 17, 0, 0, 0, 0), (.aload_n 0, 1, 0, 0, 0, 0, 0), (.getfield 7, 3, 10, 1, 2, 0, 0), (.iload_n 1, 1, 0, 0, 0, 0, 0), (.iaload, 1, 0, 0, 0, 0, 0), (.goto 4, 3, 18, 0, 0, 0, 0)]),
  (17, [false, false], [(.iconst (-1), 1, 0, 0, 0, (-1), 0)]),
  (18, [false, false], [(.ireturn, 1, 0, 0, 0, 0, 0)])
]
theorem ck_173 : (bk_173.all fun q => mm_ckr 10 cX10_look q.2.2 q.1) = true := by decide +kernel
def bk_174 : List mmB := /- X10 isSmall -/ [
  (0, [true], [(.iload_n 0, 1, 0, 0, 0, 0, 0), (.bipush 97, 2, 0, 0, 0, 97, 0), (.if_icmp .lt 13, 3, 16, 0, 0, 0, 0), (.iload_n 0, 1, 0, 0, 0, 0, 0), (.bipush 122, 2, 0, 0, 0, 122, 0), (.if_icmp .gt 7, 3, 16, 0, 0, 0, 0), (.iconst 1, 1, 0, 0, 0, 1, 0), (.goto 4, 3, 17, 0, 0, 0, 0)]),
  (16, [false], [(.iconst 0, 1, 0, 0, 0, 0, 0)]),
  (17, [false], [(.ireturn, 1, 0, 0, 5, 0, 0)])
]
theorem ck_174 : (bk_174.all fun q => mm_ckr 10 cX10_isSmall q.2.2 q.1) = true := by decide +kernel
def bk_175 : List mmB := /- X10 isDigit -/ [
  (0, [true], [(.iload_n 0, 1, 0, 0, 0, 0, 0), (.bipush 48, 2, 0, 0, 0, 48, 0), (.if_icmp .lt 13, 3, 16, 0, 0, 0, 0), (.iload_n 0, 1, 0, 0, 0, 0, 0), (.bipush 57, 2, 0, 0, 0, 57, 0), (.if_icmp .gt 7, 3, 16, 0, 0, 0, 0), (.iconst 1, 1, 0, 0, 0, 1, 0), (.goto 4, 3, 17, 0, 0, 0, 0)]),
  (16, [false], [(.iconst 0, 1, 0, 0, 0, 0, 0)]),
  (17, [false], [(.ireturn, 1, 0, 0, 5, 0, 0)])
]
theorem ck_175 : (bk_175.all fun q => mm_ckr 10 cX10_isDigit q.2.2 q.1) = true := by decide +kernel
def bk_176 : List mmB := /- X10 next -/ [
  (0, [true, false, false, false], [(.aload_n 0, 1, 0, 0, 0, 0, 0), (.getfield 84, 3, 10, 5, 0, 0, 0), (.istore_n 1, 1, 0, 0, 0, 0, 0)]),
  (5, [true, true, false, false], [(.aload_n 0, 1, 0, 0, 0, 0, 0), (.iload_n 1, 1, 0, 0, 0, 0, 0), (.invokevirtual 87, 3, 173, 2, 1, 0, 0), (.bipush 32, 2, 0, 0, 0, 32, 0), (.if_icmp .ne 9, 3, 21, 0, 0, 0, 0), (.iinc 1 1, 3, 0, 0, 0, 1, 0), (.goto (-13), 3, 5, 0, 0, 0, 0)]),
  (21, [true, true, false, false], [(.aload_n 0, 1, 0, 0, 0, 0, 0), (.iload_n 1, 1, 0, 0, 0, 0, 0), (.putfield 91, 3, 10, 4, 0, 0, 0), (.aload_n 0, 1, 0, 0, 0, 0, 0), (.iload_n 1, 1, 0, 0, 0, 0, 0), (.invokevirtual 87, 3, 173, 2, 1, 0, 0), (.istore_n 2, 1, 0, 0, 0, 0, 0), (.aload_n 0, 1, 0, 0, 0, 0, 0), (.iconst 0, 1, 0, 0, 0, 0, 0), (.putfield 94, 3, 10, 8, 0, 0, 0), (.aload_n 0, 1, 0, 0, 0, 0, 0), (.iconst 0, 1, 0, 0, 0, 0, 0), (.putfield 97, 3, 10, 7, 0, 0, 0), (.iload_n 2, 1, 0, 0, 0, 0, 0), (.iconst (-1), 1, 0, 0, 0, (-1), 0), (.if_icmp .ne 16, 3, 60, 0, 0, 0, 0), (.aload_n 0, 1, 0, 0, 0, 0, 0), (.iconst 0, 1, 0, 0, 0, 0, 0), (.putfield 100, 3, 10, 6, 0, 0, 0), (.aload_n 0, 1, 0, 0, 0, 0, 0), (.iload_n 1, 1, 0, 0, 0, 0, 0), (.putfield 84, 3, 10, 5, 0, 0, 0), (.goto 190, 3, 247, 0, 0, 0, 0)]),
  (60, [true, true, true, false], [(.iload_n 2, 1, 0, 0, 0, 0, 0), (.invokestatic 103, 3, 174, 1, 1, 0, 0), (.ifCond .eq 79, 3, 143, 0, 0, 0, 0)]),
  (67, [true, true, false, false], [(.aload_n 0, 1, 0, 0, 0, 0, 0), (.iload_n 1, 1, 0, 0, 0, 0, 0), (.invokevirtual 87, 3, 173, 2, 1, 0, 0), (.invokestatic 103, 3, 174, 1, 1, 0, 0), (.ifCond .eq 42, 3, 117, 0, 0, 0, 0), (.aload_n 0, 1, 0, 0, 0, 0, 0), (.getfield 94, 3, 10, 8, 0, 0, 0), (.bipush 8, 2, 0, 0, 0, 8, 0), (.if_icmp .ge 17, 3, 101, 0, 0, 0, 0), (.aload_n 0, 1, 0, 0, 0, 0, 0), (.getfield 17, 3, 10, 12, 2, 0, 0), (.aload_n 0, 1, 0, 0, 0, 0, 0), (.getfield 94, 3, 10, 8, 0, 0, 0), (.aload_n 0, 1, 0, 0, 0, 0, 0), (.iload_n 1, 1, 0, 0, 0, 0, 0), (.invokevirtual 87, 3, 173, 2, 1, 0, 0), (.iastore, 1, 0, 0, 0, 0, 0)]),
  (101, [true, true, false, false], [(.aload_n 0, 1, 0, 0, 0, 0, 0), (.dup, 1, 0, 0, 0, 0, 0), (.getfield 94, 3, 10, 8, 0, 0, 0), (.iconst 1, 1, 0, 0, 0, 1, 0), (.iadd, 1, 0, 0, 0, 0, 0), (.putfield 94, 3, 10, 8, 0, 0, 0), (.iinc 1 1, 3, 0, 0, 0, 1, 0), (.goto (-47), 3, 67, 0, 0, 0, 0)]),
  (117, [true, true, false, false], [(.aload_n 0, 1, 0, 0, 0, 0, 0), (.iload_n 1, 1, 0, 0, 0, 0, 0), (.putfield 84, 3, 10, 5, 0, 0, 0), (.aload_n 0, 1, 0, 0, 0, 0, 0), (.aload_n 0, 1, 0, 0, 0, 0, 0), (.getfield 94, 3, 10, 8, 0, 0, 0), (.bipush 8, 2, 0, 0, 0, 8, 0), (.if_icmp .le 7, 3, 136, 0, 0, 0, 0), (.iconst 1, 1, 0, 0, 0, 1, 0), (.goto 4, 3, 137, 0, 0, 0, 0)]),
  (136, [false, false, false, false], [(.iconst 2, 1, 0, 0, 0, 2, 0)]),
  (137, [false, false, false, false], [(.putfield 100, 3, 10, 6, 0, 0, 0), (.goto 107, 3, 247, 0, 0, 0, 0)]),
  (143, [true, true, true, false], [(.iload_n 2, 1, 0, 0, 0, 0, 0), (.invokestatic 107, 3, 175, 1, 1, 0, 0), (.ifCond .eq 72, 3, 219, 0, 0, 0, 0), (.iconst 0, 1, 0, 0, 0, 0, 0), (.istore_n 3, 1, 0, 0, 0, 0, 0)]),
  (152, [true, true, false, true], [(.aload_n 0, 1, 0, 0, 0, 0, 0), (.iload_n 1, 1, 0, 0, 0, 0, 0), (.invokevirtual 87, 3, 173, 2, 1, 0, 0), (.invokestatic 107, 3, 175, 1, 1, 0, 0), (.ifCond .eq 37, 3, 197, 0, 0, 0, 0), (.iload_n 3, 1, 0, 0, 0, 0, 0), (.iconst 3, 1, 0, 0, 0, 3, 0), (.if_icmp .ge 23, 3, 188, 0, 0, 0, 0), (.aload_n 0, 1, 0, 0, 0, 0, 0), (.bipush 10, 2, 0, 0, 0, 10, 0), (.aload_n 0, 1, 0, 0, 0, 0, 0), (.getfield 97, 3, 10, 7, 0, 0, 0), (.imul, 1, 0, 0, 0, 0, 0), (.aload_n 0, 1, 0, 0, 0, 0, 0), (.iload_n 1, 1, 0, 0, 0, 0, 0), (.invokevirtual 87, 3, 173, 2, 1, 0, 0), (.iadd, 1, 0, 0, 0, 0, 0), (.bipush 48, 2, 0, 0, 0, 48, 0), (.isub, 1, 0, 0, 0, 0, 0), (.putfield 97, 3, 10, 7, 0, 0, 0)]),
  (188, [true, true, false, true], [(.iinc 3 1, 3, 0, 0, 0, 1, 0), (.iinc 1 1, 3, 0, 0, 0, 1, 0), (.goto (-42), 3, 152, 0, 0, 0, 0)]),
  (197, [true, true, false, true], [(.aload_n 0, 1, 0, 0, 0, 0, 0), (.iload_n 1, 1, 0, 0, 0, 0, 0), (.putfield 84, 3, 10, 5, 0, 0, 0), (.aload_n 0, 1, 0, 0, 0, 0, 0), (.iload_n 3, 1, 0, 0, 0, 0, 0), (.iconst 3, 1, 0, 0, 0, 3, 0), (.if_icmp .le 7, 3, 212, 0, 0, 0, 0), (.iconst 1, 1, 0, 0, 0, 1, 0), (.goto 4, 3, 213, 0, 0, 0, 0)]),
  (212, [false, false, false, false], [(.iconst 3, 1, 0, 0, 0, 3, 0)]),
  (213, [false, false, false, false], [(.putfield 100, 3, 10, 6, 0, 0, 0), (.goto 31, 3, 247, 0, 0, 0, 0)]),
  (219, [true, true, true, false], [(.aload_n 0, 1, 0, 0, 0, 0, 0), (.iload_n 1, 1, 0, 0, 0, 0, 0), (.iconst 1, 1, 0, 0, 0, 1, 0), (.iadd, 1, 0, 0, 0, 0, 0), (.putfield 84, 3, 10, 5, 0, 0, 0), (.aload_n 0, 1, 0, 0, 0, 0, 0), (.iload_n 2, 1, 0, 0, 0, 0, 0), (.bipush 59, 2, 0, 0, 0, 59, 0), (.if_icmp .eq 9, 3, 239, 0, 0, 0, 0), (.iload_n 2, 1, 0, 0, 0, 0, 0), (.bipush 44, 2, 0, 0, 0, 44, 0), (.if_icmp .ne 7, 3, 243, 0, 0, 0, 0)]),
  (239, [false, false, true, false], [(.iload_n 2, 1, 0, 0, 0, 0, 0), (.goto 4, 3, 244, 0, 0, 0, 0)]),
  (243, [false, false, false, false], [(.iconst 1, 1, 0, 0, 0, 1, 0)]),
  (244, [false, false, false, false], [(.putfield 100, 3, 10, 6, 0, 0, 0)]),
  (247, [false, false, false, false], [(.return_, 1, 0, 0, 0, 0, 0)])
]
theorem ck_176 : (bk_176.all fun q => mm_ckr 10 cX10_next q.2.2 q.1) = true := by decide +kernel
def bk_177 : List mmB := /- X10 wrong -/ [
  (0, [true, true, true], [(.aload_n 0, 1, 0, 0, 0, 0, 0), (.getfield 110, 3, 10, 13, 0, 0, 0), (.ifCond .eq 4, 3, 8, 0, 0, 0, 0), (.return_, 1, 0, 0, 0, 0, 0)]),
  (8, [true, true, true], [(.aload_n 0, 1, 0, 0, 0, 0, 0), (.iconst 1, 1, 0, 0, 0, 1, 0), (.putfield 110, 3, 10, 13, 5, 0, 0), (.aload_n 0, 1, 0, 0, 0, 0, 0), (.iload_n 1, 1, 0, 0, 0, 0, 0), (.putfield 114, 3, 10, 9, 0, 0, 0), (.aload_n 0, 1, 0, 0, 0, 0, 0), (.iload_n 2, 1, 0, 0, 0, 0, 0), (.putfield 13, 3, 10, 10, 0, 0, 0), (.return_, 1, 0, 0, 0, 0, 0)])
]
theorem ck_177 : (bk_177.all fun q => mm_ckr 10 cX10_wrong q.2.2 q.1) = true := by decide +kernel
def bk_178 : List mmB := /- X10 isWord -/ [
  (0, [true, true, false, false], [(.aload_n 0, 1, 0, 0, 0, 0, 0), (.getfield 110, 3, 10, 13, 0, 0, 0), (.ifCond .ne 22, 3, 26, 0, 0, 0, 0), (.aload_n 0, 1, 0, 0, 0, 0, 0), (.getfield 100, 3, 10, 6, 0, 0, 0), (.iconst 2, 1, 0, 0, 0, 2, 0), (.if_icmp .ne 14, 3, 26, 0, 0, 0, 0), (.aload_n 0, 1, 0, 0, 0, 0, 0), (.getfield 94, 3, 10, 8, 0, 0, 0), (.aload_n 1, 1, 0, 0, 0, 0, 0), (.invokevirtual 117, 3, 1004, 1, 1, 0, 0), (.if_icmp .eq 5, 3, 28, 0, 0, 0, 0)]),
  (26, [false, false, false, false], [(.iconst 0, 1, 0, 0, 0, 0, 0), (.ireturn, 1, 0, 0, 5, 0, 0)]),
  (28, [true, true, false, false], [(.iconst 1, 1, 0, 0, 0, 1, 0), (.istore_n 2, 1, 0, 0, 0, 0, 0), (.iconst 0, 1, 0, 0, 0, 0, 0), (.istore_n 3, 1, 0, 0, 0, 0, 0)]),
  (32, [true, true, true, true], [(.iload_n 3, 1, 0, 0, 0, 0, 0), (.aload_n 0, 1, 0, 0, 0, 0, 0), (.getfield 94, 3, 10, 8, 0, 0, 0), (.if_icmp .ge 33, 3, 70, 0, 0, 0, 0), (.iload_n 2, 1, 0, 0, 0, 0, 0), (.ifCond .eq 21, 3, 62, 0, 0, 0, 0), (.aload_n 0, 1, 0, 0, 0, 0, 0), (.getfield 17, 3, 10, 12, 2, 0, 0), (.iload_n 3, 1, 0, 0, 0, 0, 0), (.iaload, 1, 0, 0, 0, 0, 0), (.aload_n 1, 1, 0, 0, 0, 0, 0), (.iload_n 3, 1, 0, 0, 0, 0, 0), (.invokevirtual 123, 3, 1005, 2, 1, 0, 0), (.if_icmp .ne 7, 3, 62, 0, 0, 0, 0), (.iconst 1, 1, 0, 0, 0, 1, 0), (.goto 4, 3, 63, 0, 0, 0, 0)]),
  (62, [true, true, false, true], [(.iconst 0, 1, 0, 0, 0, 0, 0)]),
  (63, [true, true, false, true], [(.istore_n 2, 1, 0, 0, 0, 0, 0), (.iinc 3 1, 3, 0, 0, 0, 1, 0), (.goto (-35), 3, 32, 0, 0, 0, 0)]),
  (70, [false, false, true, false], [(.iload_n 2, 1, 0, 0, 0, 0, 0), (.ireturn, 1, 0, 0, 5, 0, 0)])
]
theorem ck_178 : (bk_178.all fun q => mm_ckr 10 cX10_isWord q.2.2 q.1) = true := by decide +kernel
def bk_179 : List mmB := /- X10 takes -/ [
  (0, [true, true], [(.aload_n 0, 1, 0, 0, 0, 0, 0), (.aload_n 1, 1, 0, 0, 0, 0, 0), (.invokevirtual 127, 3, 178, 2, 1, 0, 0), (.ifCond .ne 5, 3, 10, 0, 0, 0, 0), (.iconst 0, 1, 0, 0, 0, 0, 0), (.ireturn, 1, 0, 0, 5, 0, 0)]),
  (10, [true, false], [(.aload_n 0, 1, 0, 0, 0, 0, 0), (.invokevirtual 131, 3, 176, 1, 0, 0, 0), (.iconst 1, 1, 0, 0, 0, 1, 0), (.ireturn, 1, 0, 0, 5, 0, 0)])
]
theorem ck_179 : (bk_179.all fun q => mm_ckr 10 cX10_takes q.2.2 q.1) = true := by decide +kernel
def bk_180 : List mmB := /- X10 must -/ [
  (0, [true, true], [(.aload_n 0, 1, 0, 0, 0, 0, 0), (.getfield 110, 3, 10, 13, 0, 0, 0), (.ifCond .ne 20, 3, 24, 0, 0, 0, 0), (.aload_n 0, 1, 0, 0, 0, 0, 0), (.aload_n 1, 1, 0, 0, 0, 0, 0), (.invokevirtual 134, 3, 179, 2, 1, 0, 0), (.ifCond .ne 12, 3, 24, 0, 0, 0, 0), (.aload_n 0, 1, 0, 0, 0, 0, 0), (.iconst 1, 1, 0, 0, 0, 1, 0), (.aload_n 0, 1, 0, 0, 0, 0, 0), (.getfield 91, 3, 10, 4, 0, 0, 0), (.invokevirtual 137, 3, 177, 3, 0, 0, 0)]),
  (24, [false, false], [(.return_, 1, 0, 0, 0, 0, 0)])
]
theorem ck_180 : (bk_180.all fun q => mm_ckr 10 cX10_must q.2.2 q.1) = true := by decide +kernel
def bk_181 : List mmB := /- X10 mustName -/ [
  (0, [true, false], [(.aload_n 0, 1, 0, 0, 0, 0, 0), (.ldc 141, 2, 99, 0, 0, 0, 0), (.invokevirtual 127, 3, 178, 2, 1, 0, 0), (.ifCond .ne 66, 3, 72, 0, 0, 0, 0), (.aload_n 0, 1, 0, 0, 0, 0, 0), (.ldc 143, 2, 102, 0, 0, 0, 0), (.invokevirtual 127, 3, 178, 2, 1, 0, 0), (.ifCond .ne 57, 3, 72, 0, 0, 0, 0), (.aload_n 0, 1, 0, 0, 0, 0, 0), (.ldc 145, 2, 103, 0, 0, 0, 0), (.invokevirtual 127, 3, 178, 2, 1, 0, 0), (.ifCond .ne 48, 3, 72, 0, 0, 0, 0), (.aload_n 0, 1, 0, 0, 0, 0, 0), (.ldc 146, 2, 104, 0, 0, 0, 0), (.invokevirtual 127, 3, 178, 2, 1, 0, 0), (.ifCond .ne 39, 3, 72, 0, 0, 0, 0), (.aload_n 0, 1, 0, 0, 0, 0, 0), (.ldc 148, 2, 105, 0, 0, 0, 0), (.invokevirtual 127, 3, 178, 2, 1, 0, 0), (.ifCond .ne 30, 3, 72, 0, 0, 0, 0), (.aload_n 0, 1, 0, 0, 0, 0, 0), (.ldc 150, 2, 106, 0, 0, 0, 0), (.invokevirtual 127, 3, 178, 2, 1, 0, 0), (.ifCond .ne 21, 3, 72, 0, 0, 0, 0), (.aload_n 0, 1, 0, 0, 0, 0, 0), (.ldc 152, 2, 107, 0, 0, 0, 0), (.invokevirtual 127, 3, 178, 2, 1, 0, 0), (.ifCond .ne 12, 3, 72, 0, 0, 0, 0), (.aload_n 0, 1, 0, 0, 0, 0, 0), (.ldc 154, 2, 108, 0, 0, 0, 0), (.invokevirtual 127, 3, 178, 2, 1, 0, 0), (.ifCond .eq 7, 3, 76, 0, 0, 0, 0)]),
  (72, [true, false], [(.iconst 1, 1, 0, 0, 0, 1, 0), (.goto 4, 3, 77, 0, 0, 0, 0)]),
  (76, [true, false], [(.iconst 0, 1, 0, 0, 0, 0, 0)]),
  (77, [true, false], [(.istore_n 1, 1, 0, 0, 0, 0, 0), (.aload_n 0, 1, 0, 0, 0, 0, 0), (.getfield 100, 3, 10, 6, 0, 0, 0), (.iconst 2, 1, 0, 0, 0, 2, 0), (.if_icmp .ne 7, 3, 90, 0, 0, 0, 0), (.iload_n 1, 1, 0, 0, 0, 0, 0), (.ifCond .eq 12, 3, 99, 0, 0, 0, 0)]),
  (90, [true, false], [(.aload_n 0, 1, 0, 0, 0, 0, 0), (.iconst 1, 1, 0, 0, 0, 1, 0), (.aload_n 0, 1, 0, 0, 0, 0, 0), (.getfield 91, 3, 10, 4, 0, 0, 0), (.invokevirtual 137, 3, 177, 3, 0, 0, 0)]),
  (99, [false, false], [(.return_, 1, 0, 0, 0, 0, 0)])
]
theorem ck_181 : (bk_181.all fun q => mm_ckr 10 cX10_mustName q.2.2 q.1) = true := by decide +kernel
def bk_182 : List mmB := /- X10 find -/ [
  (0, [true, false, false, false], [(.iconst 0, 1, 0, 0, 0, 0, 0), (.istore_n 1, 1, 0, 0, 0, 0, 0)]),
  (2, [true, true, false, false], [(.iload_n 1, 1, 0, 0, 0, 0, 0), (.bipush 23, 2, 0, 0, 0, 23, 0), (.if_icmp .ge 98, 3, 103, 0, 0, 0, 0), (.aload_n 0, 1, 0, 0, 0, 0, 0), (.getfield 23, 3, 10, 16, 2, 0, 0), (.bipush 72, 2, 0, 0, 0, 72, 0), (.iload_n 1, 1, 0, 0, 0, 0, 0), (.iadd, 1, 0, 0, 0, 0, 0), (.iaload, 1, 0, 0, 0, 0, 0), (.ifCond .le 23, 3, 40, 0, 0, 0, 0), (.aload_n 0, 1, 0, 0, 0, 0, 0), (.getfield 23, 3, 10, 16, 2, 0, 0), (.bipush 72, 2, 0, 0, 0, 72, 0), (.iload_n 1, 1, 0, 0, 0, 0, 0), (.iadd, 1, 0, 0, 0, 0, 0), (.iaload, 1, 0, 0, 0, 0, 0), (.aload_n 0, 1, 0, 0, 0, 0, 0), (.getfield 94, 3, 10, 8, 0, 0, 0), (.if_icmp .ne 7, 3, 40, 0, 0, 0, 0), (.iconst 1, 1, 0, 0, 0, 1, 0), (.goto 4, 3, 41, 0, 0, 0, 0)]),
  (40, [true, true, false, false], [(.iconst 0, 1, 0, 0, 0, 0, 0)]),
  (41, [true, true, false, false], [(.istore_n 2, 1, 0, 0, 0, 0, 0), (.iconst 0, 1, 0, 0, 0, 0, 0), (.istore_n 3, 1, 0, 0, 0, 0, 0)]),
  (44, [true, true, true, true], [(.iload_n 3, 1, 0, 0, 0, 0, 0), (.aload_n 0, 1, 0, 0, 0, 0, 0), (.getfield 94, 3, 10, 8, 0, 0, 0), (.if_icmp .ge 42, 3, 91, 0, 0, 0, 0), (.iload_n 2, 1, 0, 0, 0, 0, 0), (.ifCond .eq 38, 3, 91, 0, 0, 0, 0), (.aload_n 0, 1, 0, 0, 0, 0, 0), (.getfield 23, 3, 10, 16, 2, 0, 0), (.bipush 95, 2, 0, 0, 0, 95, 0), (.bipush 8, 2, 0, 0, 0, 8, 0), (.iload_n 1, 1, 0, 0, 0, 0, 0), (.imul, 1, 0, 0, 0, 0, 0), (.iadd, 1, 0, 0, 0, 0, 0), (.iload_n 3, 1, 0, 0, 0, 0, 0), (.iadd, 1, 0, 0, 0, 0, 0), (.iaload, 1, 0, 0, 0, 0, 0), (.aload_n 0, 1, 0, 0, 0, 0, 0), (.getfield 17, 3, 10, 12, 2, 0, 0), (.iload_n 3, 1, 0, 0, 0, 0, 0), (.iaload, 1, 0, 0, 0, 0, 0), (.if_icmp .ne 7, 3, 83, 0, 0, 0, 0), (.iconst 1, 1, 0, 0, 0, 1, 0), (.goto 4, 3, 84, 0, 0, 0, 0)]),
  (83, [true, true, false, true], [(.iconst 0, 1, 0, 0, 0, 0, 0)]),
  (84, [true, true, false, true], [(.istore_n 2, 1, 0, 0, 0, 0, 0), (.iinc 3 1, 3, 0, 0, 0, 1, 0), (.goto (-44), 3, 44, 0, 0, 0, 0)]),
  (91, [true, true, true, false], [(.iload_n 2, 1, 0, 0, 0, 0, 0), (.ifCond .eq 5, 3, 97, 0, 0, 0, 0), (.iload_n 1, 1, 0, 0, 0, 0, 0), (.ireturn, 1, 0, 0, 0, 0, 0)]),
  (97, [true, true, false, false], [(.iinc 1 1, 3, 0, 0, 0, 1, 0), (.goto (-98), 3, 2, 0, 0, 0, 0)]),
  (103, [false, false, false, false], [(.iconst (-1), 1, 0, 0, 0, (-1), 0), (.ireturn, 1, 0, 0, 0, 0, 0)])
]
theorem ck_182 : (bk_182.all fun q => mm_ckr 10 cX10_find q.2.2 q.1) = true := by decide +kernel
def bk_183 : List mmB := /- X10 newName -/ [
  (0, [true, true, false], [(.aload_n 0, 1, 0, 0, 0, 0, 0), (.getfield 110, 3, 10, 13, 0, 0, 0), (.ifCond .eq 4, 3, 8, 0, 0, 0, 0), (.return_, 1, 0, 0, 0, 0, 0)]),
  (8, [true, true, false], [(.aload_n 0, 1, 0, 0, 0, 0, 0), (.invokevirtual 156, 3, 181, 1, 0, 0, 0), (.aload_n 0, 1, 0, 0, 0, 0, 0), (.getfield 110, 3, 10, 13, 0, 0, 0), (.ifCond .ne 19, 3, 35, 0, 0, 0, 0), (.aload_n 0, 1, 0, 0, 0, 0, 0), (.invokevirtual 159, 3, 182, 1, 1, 0, 0), (.ifCond .lt 12, 3, 35, 0, 0, 0, 0), (.aload_n 0, 1, 0, 0, 0, 0, 0), (.iconst 3, 1, 0, 0, 0, 3, 0), (.aload_n 0, 1, 0, 0, 0, 0, 0), (.getfield 91, 3, 10, 4, 0, 0, 0), (.invokevirtual 137, 3, 177, 3, 0, 0, 0)]),
  (35, [true, true, false], [(.aload_n 0, 1, 0, 0, 0, 0, 0), (.getfield 110, 3, 10, 13, 0, 0, 0), (.ifCond .eq 4, 3, 43, 0, 0, 0, 0), (.return_, 1, 0, 0, 0, 0, 0)]),
  (43, [true, true, false], [(.iconst 0, 1, 0, 0, 0, 0, 0), (.istore_n 2, 1, 0, 0, 0, 0, 0)]),
  (45, [true, true, true], [(.iload_n 2, 1, 0, 0, 0, 0, 0), (.aload_n 0, 1, 0, 0, 0, 0, 0), (.getfield 94, 3, 10, 8, 0, 0, 0), (.if_icmp .ge 29, 3, 79, 0, 0, 0, 0), (.aload_n 0, 1, 0, 0, 0, 0, 0), (.getfield 23, 3, 10, 16, 2, 0, 0), (.bipush 95, 2, 0, 0, 0, 95, 0), (.bipush 8, 2, 0, 0, 0, 8, 0), (.iload_n 1, 1, 0, 0, 0, 0, 0), (.imul, 1, 0, 0, 0, 0, 0), (.iadd, 1, 0, 0, 0, 0, 0), (.iload_n 2, 1, 0, 0, 0, 0, 0), (.iadd, 1, 0, 0, 0, 0, 0), (.aload_n 0, 1, 0, 0, 0, 0, 0), (.getfield 17, 3, 10, 12, 2, 0, 0), (.iload_n 2, 1, 0, 0, 0, 0, 0), (.iaload, 1, 0, 0, 0, 0, 0), (.iastore, 1, 0, 0, 0, 0, 0), (.iinc 2 1, 3, 0, 0, 0, 1, 0), (.goto (-31), 3, 45, 0, 0, 0, 0)]),
  (79, [true, true, false], [(.aload_n 0, 1, 0, 0, 0, 0, 0), (.getfield 23, 3, 10, 16, 2, 0, 0), (.bipush 72, 2, 0, 0, 0, 72, 0), (.iload_n 1, 1, 0, 0, 0, 0, 0), (.iadd, 1, 0, 0, 0, 0, 0), (.aload_n 0, 1, 0, 0, 0, 0, 0), (.getfield 94, 3, 10, 8, 0, 0, 0), (.iastore, 1, 0, 0, 0, 0, 0), (.aload_n 0, 1, 0, 0, 0, 0, 0), (.invokevirtual 131, 3, 176, 1, 0, 0, 0), (.return_, 1, 0, 0, 0, 0, 0)])
]
theorem ck_183 : (bk_183.all fun q => mm_ckr 10 cX10_newName q.2.2 q.1) = true := by decide +kernel
def bk_184 : List mmB := /- X10 number -/ [
  (0, [true, true, true, false], [(.aload_n 0, 1, 0, 0, 0, 0, 0), (.getfield 110, 3, 10, 13, 0, 0, 0), (.ifCond .eq 5, 3, 9, 0, 0, 0, 0), (.iload_n 1, 1, 0, 0, 0, 0, 0), (.ireturn, 1, 0, 0, 0, 0, 0)]),
  (9, [true, true, true, false], [(.aload_n 0, 1, 0, 0, 0, 0, 0), (.getfield 100, 3, 10, 6, 0, 0, 0), (.iconst 3, 1, 0, 0, 0, 3, 0), (.if_icmp .eq 14, 3, 28, 0, 0, 0, 0), (.aload_n 0, 1, 0, 0, 0, 0, 0), (.iconst 1, 1, 0, 0, 0, 1, 0), (.aload_n 0, 1, 0, 0, 0, 0, 0), (.getfield 91, 3, 10, 4, 0, 0, 0), (.invokevirtual 137, 3, 177, 3, 0, 0, 0), (.iload_n 1, 1, 0, 0, 0, 0, 0), (.ireturn, 1, 0, 0, 0, 0, 0)]),
  (28, [true, true, true, false], [(.aload_n 0, 1, 0, 0, 0, 0, 0), (.getfield 97, 3, 10, 7, 0, 0, 0), (.istore_n 3, 1, 0, 0, 0, 0, 0), (.iload_n 3, 1, 0, 0, 0, 0, 0), (.iload_n 1, 1, 0, 0, 0, 0, 0), (.iload_n 2, 1, 0, 0, 0, 0, 0), (.invokestatic 162, 3, 169, 3, 1, 0, 0), (.ifCond .ne 14, 3, 53, 0, 0, 0, 0), (.aload_n 0, 1, 0, 0, 0, 0, 0), (.iconst 4, 1, 0, 0, 0, 4, 0), (.aload_n 0, 1, 0, 0, 0, 0, 0), (.getfield 91, 3, 10, 4, 0, 0, 0), (.invokevirtual 137, 3, 177, 3, 0, 0, 0), (.iload_n 1, 1, 0, 0, 0, 0, 0), (.ireturn, 1, 0, 0, 0, 0, 0)]),
  (53, [true, false, false, true], [(.aload_n 0, 1, 0, 0, 0, 0, 0), (.invokevirtual 131, 3, 176, 1, 0, 0, 0), (.iload_n 3, 1, 0, 0, 0, 0, 0), (.ireturn, 1, 0, 0, 0, 0, 0)])
]
theorem ck_184 : (bk_184.all fun q => mm_ckr 10 cX10_number q.2.2 q.1) = true := by decide +kernel
def bk_185 : List mmB := /- X10 told -/ [
  (0, [true, true, true, true], [(.aload_n 0, 1, 0, 0, 0, 0, 0), (.aload_n 1, 1, 0, 0, 0, 0, 0), (.invokevirtual 166, 3, 180, 2, 0, 0, 0), (.aload_n 0, 1, 0, 0, 0, 0, 0), (.iload_n 2, 1, 0, 0, 0, 0, 0), (.iload_n 3, 1, 0, 0, 0, 0, 0), (.invokevirtual 170, 3, 184, 3, 1, 0, 0), (.ireturn, 1, 0, 0, 0, 0, 0)])
]
theorem ck_185 : (bk_185.all fun q => mm_ckr 10 cX10_told q.2.2 q.1) = true := by decide +kernel
def bk_186 : List mmB := /- X10 comma -/ [
  (0, [true], [(.aload_n 0, 1, 0, 0, 0, 0, 0), (.getfield 110, 3, 10, 13, 0, 0, 0), (.ifCond .ne 12, 3, 16, 0, 0, 0, 0), (.aload_n 0, 1, 0, 0, 0, 0, 0), (.getfield 100, 3, 10, 6, 0, 0, 0), (.bipush 44, 2, 0, 0, 0, 44, 0), (.if_icmp .eq 5, 3, 18, 0, 0, 0, 0)]),
  (16, [false], [(.iconst 0, 1, 0, 0, 0, 0, 0), (.ireturn, 1, 0, 0, 5, 0, 0)]),
  (18, [true], [(.aload_n 0, 1, 0, 0, 0, 0, 0), (.invokevirtual 131, 3, 176, 1, 0, 0, 0), (.iconst 1, 1, 0, 0, 0, 1, 0), (.ireturn, 1, 0, 0, 5, 0, 0)])
]
theorem ck_186 : (bk_186.all fun q => mm_ckr 10 cX10_comma q.2.2 q.1) = true := by decide +kernel
def bk_187 : List mmB := /- X10 mustComma -/ [
  (0, [true], [(.aload_n 0, 1, 0, 0, 0, 0, 0), (.getfield 110, 3, 10, 13, 0, 0, 0), (.ifCond .ne 19, 3, 23, 0, 0, 0, 0), (.aload_n 0, 1, 0, 0, 0, 0, 0), (.invokevirtual 174, 3, 186, 1, 1, 0, 0), (.ifCond .ne 12, 3, 23, 0, 0, 0, 0), (.aload_n 0, 1, 0, 0, 0, 0, 0), (.iconst 1, 1, 0, 0, 0, 1, 0), (.aload_n 0, 1, 0, 0, 0, 0, 0), (.getfield 91, 3, 10, 4, 0, 0, 0), (.invokevirtual 137, 3, 177, 3, 0, 0, 0)]),
  (23, [false], [(.return_, 1, 0, 0, 0, 0, 0)])
]
theorem ck_187 : (bk_187.all fun q => mm_ckr 10 cX10_mustComma q.2.2 q.1) = true := by decide +kernel
def bk_188 : List mmB := /- X10 cake -/ [
  (0, [true, true, false], [(.aload_n 0, 1, 0, 0, 0, 0, 0), (.invokevirtual 178, 3, 166, 1, 0, 0, 0), (.iload_n 1, 1, 0, 0, 0, 0, 0), (.iconst 0, 1, 0, 0, 0, 0, 0), (.aload_n 0, 1, 0, 0, 0, 0, 0), (.getfield 78, 3, 10, 2, 0, 0, 0), (.invokestatic 162, 3, 169, 3, 1, 0, 0), (.ifCond .ne 9, 3, 22, 0, 0, 0, 0), (.aload_n 0, 1, 0, 0, 0, 0, 0), (.iconst 2, 1, 0, 0, 0, 2, 0), (.invokevirtual 181, 3, 167, 2, 1, 0, 0), (.ireturn, 1, 0, 0, 0, 0, 0)]),
  (22, [true, true, false], [(.aload_n 0, 1, 0, 0, 0, 0, 0), (.iconst 0, 1, 0, 0, 0, 0, 0), (.putfield 78, 3, 10, 2, 0, 0, 0), (.aload_n 0, 1, 0, 0, 0, 0, 0), (.iconst 0, 1, 0, 0, 0, 0, 0), (.putfield 114, 3, 10, 9, 0, 0, 0), (.aload_n 0, 1, 0, 0, 0, 0, 0), (.iconst 0, 1, 0, 0, 0, 0, 0), (.putfield 110, 3, 10, 13, 5, 0, 0), (.iconst 0, 1, 0, 0, 0, 0, 0), (.istore_n 2, 1, 0, 0, 0, 0, 0)]),
  (39, [true, true, true], [(.iload_n 2, 1, 0, 0, 0, 0, 0), (.sipush 279, 3, 0, 0, 0, 279, 0), (.if_icmp .ge 16, 3, 59, 0, 0, 0, 0), (.aload_n 0, 1, 0, 0, 0, 0, 0), (.getfield 23, 3, 10, 16, 2, 0, 0), (.iload_n 2, 1, 0, 0, 0, 0, 0), (.iconst 0, 1, 0, 0, 0, 0, 0), (.iastore, 1, 0, 0, 0, 0, 0), (.iinc 2 1, 3, 0, 0, 0, 1, 0), (.goto (-17), 3, 39, 0, 0, 0, 0)]),
  (59, [true, true, false], [(.aload_n 0, 1, 0, 0, 0, 0, 0), (.iload_n 1, 1, 0, 0, 0, 0, 0), (.putfield 81, 3, 10, 3, 0, 0, 0), (.aload_n 0, 1, 0, 0, 0, 0, 0), (.iconst 0, 1, 0, 0, 0, 0, 0), (.putfield 84, 3, 10, 5, 0, 0, 0), (.aload_n 0, 1, 0, 0, 0, 0, 0), (.invokevirtual 131, 3, 176, 1, 0, 0, 0), (.aload_n 0, 1, 0, 0, 0, 0, 0), (.invokevirtual 184, 3, 190, 1, 0, 0, 0)]),
  (77, [true, false, false], [(.aload_n 0, 1, 0, 0, 0, 0, 0), (.getfield 110, 3, 10, 13, 0, 0, 0), (.ifCond .ne 23, 3, 104, 0, 0, 0, 0), (.aload_n 0, 1, 0, 0, 0, 0, 0), (.getfield 100, 3, 10, 6, 0, 0, 0), (.bipush 59, 2, 0, 0, 0, 59, 0), (.if_icmp .ne 14, 3, 104, 0, 0, 0, 0), (.aload_n 0, 1, 0, 0, 0, 0, 0), (.invokevirtual 131, 3, 176, 1, 0, 0, 0), (.aload_n 0, 1, 0, 0, 0, 0, 0), (.invokevirtual 184, 3, 190, 1, 0, 0, 0), (.goto (-24), 3, 77, 0, 0, 0, 0)]),
  (104, [true, false, false], [(.aload_n 0, 1, 0, 0, 0, 0, 0), (.getfield 110, 3, 10, 13, 0, 0, 0), (.ifCond .ne 19, 3, 127, 0, 0, 0, 0), (.aload_n 0, 1, 0, 0, 0, 0, 0), (.getfield 100, 3, 10, 6, 0, 0, 0), (.ifCond .eq 12, 3, 127, 0, 0, 0, 0), (.aload_n 0, 1, 0, 0, 0, 0, 0), (.iconst 1, 1, 0, 0, 0, 1, 0), (.aload_n 0, 1, 0, 0, 0, 0, 0), (.getfield 91, 3, 10, 4, 0, 0, 0), (.invokevirtual 137, 3, 177, 3, 0, 0, 0)]),
  (127, [true, false, false], [(.aload_n 0, 1, 0, 0, 0, 0, 0), (.getfield 110, 3, 10, 13, 0, 0, 0), (.ifCond .ne 50, 3, 181, 0, 0, 0, 0), (.aload_n 0, 1, 0, 0, 0, 0, 0), (.getfield 23, 3, 10, 16, 2, 0, 0), (.iconst 0, 1, 0, 0, 0, 0, 0), (.iaload, 1, 0, 0, 0, 0, 0), (.ifCond .eq 31, 3, 171, 0, 0, 0, 0), (.aload_n 0, 1, 0, 0, 0, 0, 0), (.getfield 23, 3, 10, 16, 2, 0, 0), (.iconst 3, 1, 0, 0, 0, 3, 0), (.iaload, 1, 0, 0, 0, 0, 0), (.ifCond .eq 22, 3, 171, 0, 0, 0, 0), (.aload_n 0, 1, 0, 0, 0, 0, 0), (.getfield 23, 3, 10, 16, 2, 0, 0), (.iconst 4, 1, 0, 0, 0, 4, 0), (.iaload, 1, 0, 0, 0, 0, 0), (.ifCond .eq 13, 3, 171, 0, 0, 0, 0), (.aload_n 0, 1, 0, 0, 0, 0, 0), (.getfield 23, 3, 10, 16, 2, 0, 0), (.bipush 6, 2, 0, 0, 0, 6, 0), (.iaload, 1, 0, 0, 0, 0, 0), (.ifCond .ne 13, 3, 181, 0, 0, 0, 0)]),
  (171, [true, false, false], [(.aload_n 0, 1, 0, 0, 0, 0, 0), (.bipush 6, 2, 0, 0, 0, 6, 0), (.aload_n 0, 1, 0, 0, 0, 0, 0), (.getfield 91, 3, 10, 4, 0, 0, 0), (.invokevirtual 137, 3, 177, 3, 0, 0, 0)]),
  (181, [true, false, false], [(.aload_n 0, 1, 0, 0, 0, 0, 0), (.getfield 110, 3, 10, 13, 0, 0, 0), (.ifCond .eq 9, 3, 194, 0, 0, 0, 0), (.aload_n 0, 1, 0, 0, 0, 0, 0), (.iconst 4, 1, 0, 0, 0, 4, 0), (.invokevirtual 181, 3, 167, 2, 1, 0, 0), (.ireturn, 1, 0, 0, 0, 0, 0)]),
  (194, [true, false, false], [(.iconst 0, 1, 0, 0, 0, 0, 0), (.istore_n 2, 1, 0, 0, 0, 0, 0)]),
  (196, [true, false, true], [(.iload_n 2, 1, 0, 0, 0, 0, 0), (.sipush 279, 3, 0, 0, 0, 279, 0), (.if_icmp .ge 21, 3, 221, 0, 0, 0, 0), (.aload_n 0, 1, 0, 0, 0, 0, 0), (.getfield 20, 3, 10, 15, 2, 0, 0), (.iload_n 2, 1, 0, 0, 0, 0, 0), (.aload_n 0, 1, 0, 0, 0, 0, 0), (.getfield 23, 3, 10, 16, 2, 0, 0), (.iload_n 2, 1, 0, 0, 0, 0, 0), (.iaload, 1, 0, 0, 0, 0, 0), (.iastore, 1, 0, 0, 0, 0, 0), (.iinc 2 1, 3, 0, 0, 0, 1, 0), (.goto (-22), 3, 196, 0, 0, 0, 0)]),
  (221, [true, false, false], [(.aload_n 0, 1, 0, 0, 0, 0, 0), (.iconst 1, 1, 0, 0, 0, 1, 0), (.putfield 187, 3, 10, 14, 5, 0, 0), (.aload_n 0, 1, 0, 0, 0, 0, 0), (.iconst 0, 1, 0, 0, 0, 0, 0), (.putfield 190, 3, 10, 19, 0, 0, 0), (.aload_n 0, 1, 0, 0, 0, 0, 0), (.iconst 0, 1, 0, 0, 0, 0, 0), (.putfield 193, 3, 10, 20, 0, 0, 0), (.aload_n 0, 1, 0, 0, 0, 0, 0), (.aload_n 0, 1, 0, 0, 0, 0, 0), (.invokevirtual 196, 3, 205, 1, 1, 0, 0), (.putfield 199, 3, 10, 17, 0, 0, 0), (.aload_n 0, 1, 0, 0, 0, 0, 0), (.iconst 0, 1, 0, 0, 0, 0, 0), (.putfield 202, 3, 10, 18, 0, 0, 0), (.aload_n 0, 1, 0, 0, 0, 0, 0), (.invokevirtual 205, 3, 210, 1, 0, 0, 0), (.aload_n 0, 1, 0, 0, 0, 0, 0), (.invokevirtual 208, 3, 206, 1, 1, 0, 0), (.ireturn, 1, 0, 0, 0, 0, 0)])
]
theorem ck_188 : (bk_188.all fun q => mm_ckr 10 cX10_cake q.2.2 q.1) = true := by decide +kernel
def bk_189 : List mmB := /- X10 begins -/ [
  (0, [true, true, true, true], [(.aload_n 0, 1, 0, 0, 0, 0, 0), (.aload_n 1, 1, 0, 0, 0, 0, 0), (.invokevirtual 127, 3, 178, 2, 1, 0, 0), (.ifCond .ne 5, 3, 10, 0, 0, 0, 0), (.iconst 0, 1, 0, 0, 0, 0, 0), (.ireturn, 1, 0, 0, 5, 0, 0)]),
  (10, [true, false, true, true], [(.iload_n 2, 1, 0, 0, 0, 0, 0), (.ifCond .ne 12, 3, 23, 0, 0, 0, 0), (.aload_n 0, 1, 0, 0, 0, 0, 0), (.iload_n 3, 1, 0, 0, 0, 0, 0), (.aload_n 0, 1, 0, 0, 0, 0, 0), (.getfield 91, 3, 10, 4, 0, 0, 0), (.invokevirtual 137, 3, 177, 3, 0, 0, 0)]),
  (23, [true, false, false, false], [(.aload_n 0, 1, 0, 0, 0, 0, 0), (.getfield 110, 3, 10, 13, 0, 0, 0), (.ifCond .ne 7, 3, 34, 0, 0, 0, 0), (.aload_n 0, 1, 0, 0, 0, 0, 0), (.invokevirtual 131, 3, 176, 1, 0, 0, 0)]),
  (34, [false, false, false, false], [(.iconst 1, 1, 0, 0, 0, 1, 0), (.ireturn, 1, 0, 0, 5, 0, 0)])
]
theorem ck_189 : (bk_189.all fun q => mm_ckr 10 cX10_begins q.2.2 q.1) = true := by decide +kernel
def bk_190 : List mmB := /- X10 readLine -/ [
  (0, [true], [(.aload_n 0, 1, 0, 0, 0, 0, 0), (.ldc 141, 2, 99, 0, 0, 0, 0), (.aload_n 0, 1, 0, 0, 0, 0, 0), (.getfield 23, 3, 10, 16, 2, 0, 0), (.iconst 0, 1, 0, 0, 0, 0, 0), (.iaload, 1, 0, 0, 0, 0, 0), (.ifCond .ne 7, 3, 16, 0, 0, 0, 0), (.iconst 1, 1, 0, 0, 0, 1, 0), (.goto 4, 3, 17, 0, 0, 0, 0)]),
  (16, [true], [(.iconst 0, 1, 0, 0, 0, 0, 0)]),
  (17, [true], [(.iconst 3, 1, 0, 0, 0, 3, 0), (.invokevirtual 211, 3, 189, 4, 1, 0, 0), (.ifCond .eq 10, 3, 31, 0, 0, 0, 0), (.aload_n 0, 1, 0, 0, 0, 0, 0), (.invokevirtual 215, 3, 191, 1, 0, 0, 0), (.goto 206, 3, 234, 0, 0, 0, 0)]),
  (31, [true], [(.aload_n 0, 1, 0, 0, 0, 0, 0), (.ldc 143, 2, 102, 0, 0, 0, 0), (.aload_n 0, 1, 0, 0, 0, 0, 0), (.getfield 23, 3, 10, 16, 2, 0, 0), (.iconst 3, 1, 0, 0, 0, 3, 0), (.iaload, 1, 0, 0, 0, 0, 0), (.bipush 10, 2, 0, 0, 0, 10, 0), (.if_icmp .ge 7, 3, 49, 0, 0, 0, 0), (.iconst 1, 1, 0, 0, 0, 1, 0), (.goto 4, 3, 50, 0, 0, 0, 0)]),
  (49, [true], [(.iconst 0, 1, 0, 0, 0, 0, 0)]),
  (50, [true], [(.iconst 5, 1, 0, 0, 0, 5, 0), (.invokevirtual 211, 3, 189, 4, 1, 0, 0), (.ifCond .eq 10, 3, 64, 0, 0, 0, 0), (.aload_n 0, 1, 0, 0, 0, 0, 0), (.invokevirtual 218, 3, 193, 1, 0, 0, 0), (.goto 173, 3, 234, 0, 0, 0, 0)]),
  (64, [true], [(.aload_n 0, 1, 0, 0, 0, 0, 0), (.ldc 145, 2, 103, 0, 0, 0, 0), (.aload_n 0, 1, 0, 0, 0, 0, 0), (.getfield 23, 3, 10, 16, 2, 0, 0), (.iconst 4, 1, 0, 0, 0, 4, 0), (.iaload, 1, 0, 0, 0, 0, 0), (.iconst 5, 1, 0, 0, 0, 5, 0), (.if_icmp .ge 7, 3, 81, 0, 0, 0, 0), (.iconst 1, 1, 0, 0, 0, 1, 0), (.goto 4, 3, 82, 0, 0, 0, 0)]),
  (81, [true], [(.iconst 0, 1, 0, 0, 0, 0, 0)]),
  (82, [true], [(.iconst 5, 1, 0, 0, 0, 5, 0), (.invokevirtual 211, 3, 189, 4, 1, 0, 0), (.ifCond .eq 10, 3, 96, 0, 0, 0, 0), (.aload_n 0, 1, 0, 0, 0, 0, 0), (.invokevirtual 221, 3, 194, 1, 0, 0, 0), (.goto 141, 3, 234, 0, 0, 0, 0)]),
  (96, [true], [(.aload_n 0, 1, 0, 0, 0, 0, 0), (.ldc 146, 2, 104, 0, 0, 0, 0), (.aload_n 0, 1, 0, 0, 0, 0, 0), (.getfield 23, 3, 10, 16, 2, 0, 0), (.iconst 5, 1, 0, 0, 0, 5, 0), (.iaload, 1, 0, 0, 0, 0, 0), (.iconst 4, 1, 0, 0, 0, 4, 0), (.if_icmp .ge 7, 3, 113, 0, 0, 0, 0), (.iconst 1, 1, 0, 0, 0, 1, 0), (.goto 4, 3, 114, 0, 0, 0, 0)]),
  (113, [true], [(.iconst 0, 1, 0, 0, 0, 0, 0)]),
  (114, [true], [(.iconst 5, 1, 0, 0, 0, 5, 0), (.invokevirtual 211, 3, 189, 4, 1, 0, 0), (.ifCond .eq 10, 3, 128, 0, 0, 0, 0), (.aload_n 0, 1, 0, 0, 0, 0, 0), (.invokevirtual 224, 3, 195, 1, 0, 0, 0), (.goto 109, 3, 234, 0, 0, 0, 0)]),
  (128, [true], [(.aload_n 0, 1, 0, 0, 0, 0, 0), (.ldc 148, 2, 105, 0, 0, 0, 0), (.aload_n 0, 1, 0, 0, 0, 0, 0), (.getfield 23, 3, 10, 16, 2, 0, 0), (.bipush 6, 2, 0, 0, 0, 6, 0), (.iaload, 1, 0, 0, 0, 0, 0), (.iconst 4, 1, 0, 0, 0, 4, 0), (.if_icmp .ge 7, 3, 146, 0, 0, 0, 0), (.iconst 1, 1, 0, 0, 0, 1, 0), (.goto 4, 3, 147, 0, 0, 0, 0)]),
  (146, [true], [(.iconst 0, 1, 0, 0, 0, 0, 0)]),
  (147, [true], [(.iconst 5, 1, 0, 0, 0, 5, 0), (.invokevirtual 211, 3, 189, 4, 1, 0, 0), (.ifCond .eq 10, 3, 161, 0, 0, 0, 0), (.aload_n 0, 1, 0, 0, 0, 0, 0), (.invokevirtual 227, 3, 196, 1, 0, 0, 0), (.goto 76, 3, 234, 0, 0, 0, 0)]),
  (161, [true], [(.aload_n 0, 1, 0, 0, 0, 0, 0), (.ldc 150, 2, 106, 0, 0, 0, 0), (.aload_n 0, 1, 0, 0, 0, 0, 0), (.getfield 23, 3, 10, 16, 2, 0, 0), (.bipush 7, 2, 0, 0, 0, 7, 0), (.iaload, 1, 0, 0, 0, 0, 0), (.ifCond .ne 7, 3, 178, 0, 0, 0, 0), (.iconst 1, 1, 0, 0, 0, 1, 0), (.goto 4, 3, 179, 0, 0, 0, 0)]),
  (178, [true], [(.iconst 0, 1, 0, 0, 0, 0, 0)]),
  (179, [true], [(.iconst 3, 1, 0, 0, 0, 3, 0), (.invokevirtual 211, 3, 189, 4, 1, 0, 0), (.ifCond .eq 10, 3, 193, 0, 0, 0, 0), (.aload_n 0, 1, 0, 0, 0, 0, 0), (.invokevirtual 230, 3, 197, 1, 0, 0, 0), (.goto 44, 3, 234, 0, 0, 0, 0)]),
  (193, [true], [(.aload_n 0, 1, 0, 0, 0, 0, 0), (.ldc 152, 2, 107, 0, 0, 0, 0), (.aload_n 0, 1, 0, 0, 0, 0, 0), (.getfield 23, 3, 10, 16, 2, 0, 0), (.bipush 8, 2, 0, 0, 0, 8, 0), (.iaload, 1, 0, 0, 0, 0, 0), (.ifCond .ne 7, 3, 210, 0, 0, 0, 0), (.iconst 1, 1, 0, 0, 0, 1, 0), (.goto 4, 3, 211, 0, 0, 0, 0)]),
  (210, [true], [(.iconst 0, 1, 0, 0, 0, 0, 0)]),
  (211, [true], [(.iconst 3, 1, 0, 0, 0, 3, 0), (.invokevirtual 211, 3, 189, 4, 1, 0, 0), (.ifCond .eq 10, 3, 225, 0, 0, 0, 0), (.aload_n 0, 1, 0, 0, 0, 0, 0), (.invokevirtual 233, 3, 198, 1, 0, 0, 0), (.goto 12, 3, 234, 0, 0, 0, 0)]),
  (225, [true], [(.aload_n 0, 1, 0, 0, 0, 0, 0), (.iconst 1, 1, 0, 0, 0, 1, 0), (.aload_n 0, 1, 0, 0, 0, 0, 0), (.getfield 91, 3, 10, 4, 0, 0, 0), (.invokevirtual 137, 3, 177, 3, 0, 0, 0)]),
  (234, [false], [(.return_, 1, 0, 0, 0, 0, 0)])
]
theorem ck_190 : (bk_190.all fun q => mm_ckr 10 cX10_readLine q.2.2 q.1) = true := by decide +kernel
def bk_191 : List mmB := /- X10 cakeLine -/ [
  (0, [true], [(.aload_n 0, 1, 0, 0, 0, 0, 0), (.getfield 110, 3, 10, 13, 0, 0, 0), (.ifCond .eq 4, 3, 8, 0, 0, 0, 0), (.return_, 1, 0, 0, 0, 0, 0)]),
  (8, [true], [(.aload_n 0, 1, 0, 0, 0, 0, 0), (.getfield 23, 3, 10, 16, 2, 0, 0), (.iconst 1, 1, 0, 0, 0, 1, 0), (.aload_n 0, 1, 0, 0, 0, 0, 0), (.ldc 236, 2, 100, 0, 0, 0, 0), (.iconst 0, 1, 0, 0, 0, 0, 0), (.bipush 20, 2, 0, 0, 0, 20, 0), (.invokevirtual 237, 3, 185, 4, 1, 0, 0), (.iastore, 1, 0, 0, 0, 0, 0), (.aload_n 0, 1, 0, 0, 0, 0, 0), (.getfield 23, 3, 10, 16, 2, 0, 0), (.iconst 2, 1, 0, 0, 0, 2, 0), (.aload_n 0, 1, 0, 0, 0, 0, 0), (.ldc 241, 2, 101, 0, 0, 0, 0), (.iconst 1, 1, 0, 0, 0, 1, 0), (.bipush 9, 2, 0, 0, 0, 9, 0), (.invokevirtual 237, 3, 185, 4, 1, 0, 0), (.iastore, 1, 0, 0, 0, 0, 0), (.aload_n 0, 1, 0, 0, 0, 0, 0), (.getfield 110, 3, 10, 13, 0, 0, 0), (.ifCond .ne 10, 3, 52, 0, 0, 0, 0), (.aload_n 0, 1, 0, 0, 0, 0, 0), (.getfield 23, 3, 10, 16, 2, 0, 0), (.iconst 0, 1, 0, 0, 0, 0, 0), (.iconst 1, 1, 0, 0, 0, 1, 0), (.iastore, 1, 0, 0, 0, 0, 0)]),
  (52, [false], [(.return_, 1, 0, 0, 0, 0, 0)])
]
theorem ck_191 : (bk_191.all fun q => mm_ckr 10 cX10_cakeLine q.2.2 q.1) = true := by decide +kernel
def bk_192 : List mmB := /- X10 spot -/ [
  (0, [true, true, true], [(.aload_n 0, 1, 0, 0, 0, 0, 0), (.getfield 23, 3, 10, 16, 2, 0, 0), (.iload_n 1, 1, 0, 0, 0, 0, 0), (.aload_n 0, 1, 0, 0, 0, 0, 0), (.ldc 243, 2, 109, 0, 0, 0, 0), (.iconst 0, 1, 0, 0, 0, 0, 0), (.bipush 20, 2, 0, 0, 0, 20, 0), (.invokevirtual 237, 3, 185, 4, 1, 0, 0), (.iastore, 1, 0, 0, 0, 0, 0), (.aload_n 0, 1, 0, 0, 0, 0, 0), (.invokevirtual 244, 3, 187, 1, 0, 0, 0), (.aload_n 0, 1, 0, 0, 0, 0, 0), (.getfield 23, 3, 10, 16, 2, 0, 0), (.iload_n 2, 1, 0, 0, 0, 0, 0), (.aload_n 0, 1, 0, 0, 0, 0, 0), (.iconst 0, 1, 0, 0, 0, 0, 0), (.bipush 20, 2, 0, 0, 0, 20, 0), (.invokevirtual 170, 3, 184, 3, 1, 0, 0), (.iastore, 1, 0, 0, 0, 0, 0), (.return_, 1, 0, 0, 0, 0, 0)])
]
theorem ck_192 : (bk_192.all fun q => mm_ckr 10 cX10_spot q.2.2 q.1) = true := by decide +kernel
def bk_193 : List mmB := /- X10 candleLine -/ [
  (0, [true, false, false, false, false], [(.aload_n 0, 1, 0, 0, 0, 0, 0), (.getfield 110, 3, 10, 13, 0, 0, 0), (.ifCond .eq 4, 3, 8, 0, 0, 0, 0), (.return_, 1, 0, 0, 0, 0, 0)]),
  (8, [true, false, false, false, false], [(.aload_n 0, 1, 0, 0, 0, 0, 0), (.getfield 23, 3, 10, 16, 2, 0, 0), (.iconst 3, 1, 0, 0, 0, 3, 0), (.iaload, 1, 0, 0, 0, 0, 0), (.istore_n 1, 1, 0, 0, 0, 0, 0), (.aload_n 0, 1, 0, 0, 0, 0, 0), (.iload_n 1, 1, 0, 0, 0, 0, 0), (.invokevirtual 247, 3, 183, 2, 0, 0, 0), (.aload_n 0, 1, 0, 0, 0, 0, 0), (.getfield 110, 3, 10, 13, 0, 0, 0), (.ifCond .eq 4, 3, 28, 0, 0, 0, 0), (.return_, 1, 0, 0, 0, 0, 0)]),
  (28, [true, true, false, false, false], [(.aload_n 0, 1, 0, 0, 0, 0, 0), (.bipush 13, 2, 0, 0, 0, 13, 0), (.iload_n 1, 1, 0, 0, 0, 0, 0), (.iadd, 1, 0, 0, 0, 0, 0), (.bipush 24, 2, 0, 0, 0, 24, 0), (.iload_n 1, 1, 0, 0, 0, 0, 0), (.iadd, 1, 0, 0, 0, 0, 0), (.invokevirtual 251, 3, 192, 3, 0, 0, 0), (.aload_n 0, 1, 0, 0, 0, 0, 0), (.getfield 110, 3, 10, 13, 0, 0, 0), (.ifCond .eq 4, 3, 48, 0, 0, 0, 0), (.return_, 1, 0, 0, 0, 0, 0)]),
  (48, [true, true, false, false, false], [(.aload_n 0, 1, 0, 0, 0, 0, 0), (.ldc 253, 2, 110, 0, 0, 0, 0), (.invokevirtual 127, 3, 178, 2, 1, 0, 0), (.ifCond .eq 7, 3, 61, 0, 0, 0, 0), (.iconst 0, 1, 0, 0, 0, 0, 0), (.goto 45, 3, 103, 0, 0, 0, 0)]),
  (61, [true, true, false, false, false], [(.aload_n 0, 1, 0, 0, 0, 0, 0), (.ldc 255, 2, 111, 0, 0, 0, 0), (.invokevirtual 127, 3, 178, 2, 1, 0, 0), (.ifCond .eq 7, 3, 74, 0, 0, 0, 0), (.iconst 1, 1, 0, 0, 0, 1, 0), (.goto 32, 3, 103, 0, 0, 0, 0)]),
  (74, [true, true, false, false, false], [(.aload_n 0, 1, 0, 0, 0, 0, 0), (.ldc_w 257, 3, 112, 0, 0, 0, 0), (.invokevirtual 127, 3, 178, 2, 1, 0, 0), (.ifCond .eq 7, 3, 88, 0, 0, 0, 0), (.iconst 2, 1, 0, 0, 0, 2, 0), (.goto 18, 3, 103, 0, 0, 0, 0)]),
  (88, [true, true, false, false, false], [(.aload_n 0, 1, 0, 0, 0, 0, 0), (.ldc_w 259, 3, 113, 0, 0, 0, 0), (.invokevirtual 127, 3, 178, 2, 1, 0, 0), (.ifCond .eq 7, 3, 102, 0, 0, 0, 0), (.iconst 3, 1, 0, 0, 0, 3, 0), (.goto 4, 3, 103, 0, 0, 0, 0)]),
  (102, [true, true, false, false, false], [(.iconst (-1), 1, 0, 0, 0, (-1), 0)]),
  (103, [true, true, false, false, false], [(.istore_n 2, 1, 0, 0, 0, 0, 0), (.iload_n 2, 1, 0, 0, 0, 0, 0), (.ifCond .ge 12, 3, 117, 0, 0, 0, 0), (.aload_n 0, 1, 0, 0, 0, 0, 0), (.iconst 1, 1, 0, 0, 0, 1, 0), (.aload_n 0, 1, 0, 0, 0, 0, 0), (.getfield 91, 3, 10, 4, 0, 0, 0), (.invokevirtual 137, 3, 177, 3, 0, 0, 0)]),
  (117, [true, true, true, false, false], [(.iconst 0, 1, 0, 0, 0, 0, 0), (.istore_n 3, 1, 0, 0, 0, 0, 0), (.iconst 0, 1, 0, 0, 0, 0, 0), (.istore 4, 2, 0, 0, 0, 0, 0)]),
  (122, [true, true, true, true, true], [(.iload 4, 2, 0, 0, 0, 0, 0), (.iload_n 1, 1, 0, 0, 0, 0, 0), (.if_icmp .ge 31, 3, 156, 0, 0, 0, 0), (.iload_n 3, 1, 0, 0, 0, 0, 0), (.aload_n 0, 1, 0, 0, 0, 0, 0), (.getfield 23, 3, 10, 16, 2, 0, 0), (.bipush 35, 2, 0, 0, 0, 35, 0), (.iload 4, 2, 0, 0, 0, 0, 0), (.iadd, 1, 0, 0, 0, 0, 0), (.iaload, 1, 0, 0, 0, 0, 0), (.iconst 3, 1, 0, 0, 0, 3, 0), (.if_icmp .ne 7, 3, 147, 0, 0, 0, 0), (.iconst 1, 1, 0, 0, 0, 1, 0), (.goto 4, 3, 148, 0, 0, 0, 0)]),
  (147, [true, true, true, false, true], [(.iconst 0, 1, 0, 0, 0, 0, 0)]),
  (148, [true, true, true, false, true], [(.iadd, 1, 0, 0, 0, 0, 0), (.istore_n 3, 1, 0, 0, 0, 0, 0), (.iinc 4 1, 3, 0, 0, 0, 1, 0), (.goto (-31), 3, 122, 0, 0, 0, 0)]),
  (156, [true, true, true, true, false], [(.iload_n 2, 1, 0, 0, 0, 0, 0), (.iconst 3, 1, 0, 0, 0, 3, 0), (.if_icmp .ne 17, 3, 175, 0, 0, 0, 0), (.iload_n 3, 1, 0, 0, 0, 0, 0), (.iconst 3, 1, 0, 0, 0, 3, 0), (.if_icmp .ne 12, 3, 175, 0, 0, 0, 0), (.aload_n 0, 1, 0, 0, 0, 0, 0), (.iconst 5, 1, 0, 0, 0, 5, 0), (.aload_n 0, 1, 0, 0, 0, 0, 0), (.getfield 91, 3, 10, 4, 0, 0, 0), (.invokevirtual 137, 3, 177, 3, 0, 0, 0)]),
  (175, [true, true, true, false, false], [(.aload_n 0, 1, 0, 0, 0, 0, 0), (.getfield 110, 3, 10, 13, 0, 0, 0), (.ifCond .eq 4, 3, 183, 0, 0, 0, 0), (.return_, 1, 0, 0, 0, 0, 0)]),
  (183, [true, true, true, false, false], [(.aload_n 0, 1, 0, 0, 0, 0, 0), (.invokevirtual 131, 3, 176, 1, 0, 0, 0), (.aload_n 0, 1, 0, 0, 0, 0, 0), (.getfield 23, 3, 10, 16, 2, 0, 0), (.bipush 35, 2, 0, 0, 0, 35, 0), (.iload_n 1, 1, 0, 0, 0, 0, 0), (.iadd, 1, 0, 0, 0, 0, 0), (.iload_n 2, 1, 0, 0, 0, 0, 0), (.iastore, 1, 0, 0, 0, 0, 0), (.aload_n 0, 1, 0, 0, 0, 0, 0), (.getfield 23, 3, 10, 16, 2, 0, 0), (.iconst 3, 1, 0, 0, 0, 3, 0), (.dup2, 1, 0, 0, 0, 0, 0), (.iaload, 1, 0, 0, 0, 0, 0), (.iconst 1, 1, 0, 0, 0, 1, 0), (.iadd, 1, 0, 0, 0, 0, 0), (.iastore, 1, 0, 0, 0, 0, 0), (.return_, 1, 0, 0, 0, 0, 0)])
]
theorem ck_193 : (bk_193.all fun q => mm_ckr 10 cX10_candleLine q.2.2 q.1) = true := by decide +kernel
def bk_194 : List mmB := /- X10 placeLine -/ [
  (0, [true, false], [(.aload_n 0, 1, 0, 0, 0, 0, 0), (.getfield 110, 3, 10, 13, 0, 0, 0), (.ifCond .eq 4, 3, 8, 0, 0, 0, 0), (.return_, 1, 0, 0, 0, 0, 0)]),
  (8, [true, false], [(.aload_n 0, 1, 0, 0, 0, 0, 0), (.getfield 23, 3, 10, 16, 2, 0, 0), (.iconst 4, 1, 0, 0, 0, 4, 0), (.iaload, 1, 0, 0, 0, 0, 0), (.istore_n 1, 1, 0, 0, 0, 0, 0), (.aload_n 0, 1, 0, 0, 0, 0, 0), (.bipush 10, 2, 0, 0, 0, 10, 0), (.iload_n 1, 1, 0, 0, 0, 0, 0), (.iadd, 1, 0, 0, 0, 0, 0), (.invokevirtual 247, 3, 183, 2, 0, 0, 0), (.aload_n 0, 1, 0, 0, 0, 0, 0), (.getfield 110, 3, 10, 13, 0, 0, 0), (.ifCond .eq 4, 3, 31, 0, 0, 0, 0), (.return_, 1, 0, 0, 0, 0, 0)]),
  (31, [true, true], [(.aload_n 0, 1, 0, 0, 0, 0, 0), (.bipush 46, 2, 0, 0, 0, 46, 0), (.iload_n 1, 1, 0, 0, 0, 0, 0), (.iadd, 1, 0, 0, 0, 0, 0), (.bipush 51, 2, 0, 0, 0, 51, 0), (.iload_n 1, 1, 0, 0, 0, 0, 0), (.iadd, 1, 0, 0, 0, 0, 0), (.invokevirtual 251, 3, 192, 3, 0, 0, 0), (.aload_n 0, 1, 0, 0, 0, 0, 0), (.getfield 110, 3, 10, 13, 0, 0, 0), (.ifCond .ne 13, 3, 60, 0, 0, 0, 0), (.aload_n 0, 1, 0, 0, 0, 0, 0), (.getfield 23, 3, 10, 16, 2, 0, 0), (.iconst 4, 1, 0, 0, 0, 4, 0), (.dup2, 1, 0, 0, 0, 0, 0), (.iaload, 1, 0, 0, 0, 0, 0), (.iconst 1, 1, 0, 0, 0, 1, 0), (.iadd, 1, 0, 0, 0, 0, 0), (.iastore, 1, 0, 0, 0, 0, 0)]),
  (60, [false, false], [(.return_, 1, 0, 0, 0, 0, 0)])
]
theorem ck_194 : (bk_194.all fun q => mm_ckr 10 cX10_placeLine q.2.2 q.1) = true := by decide +kernel
def bk_195 : List mmB := /- X10 spotLine -/ [
  (0, [true, false], [(.aload_n 0, 1, 0, 0, 0, 0, 0), (.getfield 110, 3, 10, 13, 0, 0, 0), (.ifCond .eq 4, 3, 8, 0, 0, 0, 0), (.return_, 1, 0, 0, 0, 0, 0)]),
  (8, [true, false], [(.aload_n 0, 1, 0, 0, 0, 0, 0), (.getfield 23, 3, 10, 16, 2, 0, 0), (.iconst 5, 1, 0, 0, 0, 5, 0), (.iaload, 1, 0, 0, 0, 0, 0), (.istore_n 1, 1, 0, 0, 0, 0, 0), (.aload_n 0, 1, 0, 0, 0, 0, 0), (.bipush 15, 2, 0, 0, 0, 15, 0), (.iload_n 1, 1, 0, 0, 0, 0, 0), (.iadd, 1, 0, 0, 0, 0, 0), (.invokevirtual 247, 3, 183, 2, 0, 0, 0), (.aload_n 0, 1, 0, 0, 0, 0, 0), (.getfield 110, 3, 10, 13, 0, 0, 0), (.ifCond .eq 4, 3, 31, 0, 0, 0, 0), (.return_, 1, 0, 0, 0, 0, 0)]),
  (31, [true, true], [(.aload_n 0, 1, 0, 0, 0, 0, 0), (.bipush 56, 2, 0, 0, 0, 56, 0), (.iload_n 1, 1, 0, 0, 0, 0, 0), (.iadd, 1, 0, 0, 0, 0, 0), (.bipush 60, 2, 0, 0, 0, 60, 0), (.iload_n 1, 1, 0, 0, 0, 0, 0), (.iadd, 1, 0, 0, 0, 0, 0), (.invokevirtual 251, 3, 192, 3, 0, 0, 0), (.aload_n 0, 1, 0, 0, 0, 0, 0), (.getfield 110, 3, 10, 13, 0, 0, 0), (.ifCond .ne 13, 3, 60, 0, 0, 0, 0), (.aload_n 0, 1, 0, 0, 0, 0, 0), (.getfield 23, 3, 10, 16, 2, 0, 0), (.iconst 5, 1, 0, 0, 0, 5, 0), (.dup2, 1, 0, 0, 0, 0, 0), (.iaload, 1, 0, 0, 0, 0, 0), (.iconst 1, 1, 0, 0, 0, 1, 0), (.iadd, 1, 0, 0, 0, 0, 0), (.iastore, 1, 0, 0, 0, 0, 0)]),
  (60, [false, false], [(.return_, 1, 0, 0, 0, 0, 0)])
]
theorem ck_195 : (bk_195.all fun q => mm_ckr 10 cX10_spotLine q.2.2 q.1) = true := by decide +kernel
def bk_196 : List mmB := /- X10 personLine -/ [
  (0, [true, false], [(.aload_n 0, 1, 0, 0, 0, 0, 0), (.getfield 110, 3, 10, 13, 0, 0, 0), (.ifCond .eq 4, 3, 8, 0, 0, 0, 0), (.return_, 1, 0, 0, 0, 0, 0)]),
  (8, [true, false], [(.aload_n 0, 1, 0, 0, 0, 0, 0), (.getfield 23, 3, 10, 16, 2, 0, 0), (.bipush 6, 2, 0, 0, 0, 6, 0), (.iaload, 1, 0, 0, 0, 0, 0), (.istore_n 1, 1, 0, 0, 0, 0, 0), (.aload_n 0, 1, 0, 0, 0, 0, 0), (.bipush 19, 2, 0, 0, 0, 19, 0), (.iload_n 1, 1, 0, 0, 0, 0, 0), (.iadd, 1, 0, 0, 0, 0, 0), (.invokevirtual 247, 3, 183, 2, 0, 0, 0), (.aload_n 0, 1, 0, 0, 0, 0, 0), (.getfield 110, 3, 10, 13, 0, 0, 0), (.ifCond .eq 4, 3, 32, 0, 0, 0, 0), (.return_, 1, 0, 0, 0, 0, 0)]),
  (32, [true, true], [(.aload_n 0, 1, 0, 0, 0, 0, 0), (.getfield 23, 3, 10, 16, 2, 0, 0), (.bipush 64, 2, 0, 0, 0, 64, 0), (.iload_n 1, 1, 0, 0, 0, 0, 0), (.iadd, 1, 0, 0, 0, 0, 0), (.aload_n 0, 1, 0, 0, 0, 0, 0), (.ldc_w 261, 3, 114, 0, 0, 0, 0), (.iconst 1, 1, 0, 0, 0, 1, 0), (.bipush 30, 2, 0, 0, 0, 30, 0), (.invokevirtual 237, 3, 185, 4, 1, 0, 0), (.iastore, 1, 0, 0, 0, 0, 0), (.aload_n 0, 1, 0, 0, 0, 0, 0), (.getfield 23, 3, 10, 16, 2, 0, 0), (.bipush 68, 2, 0, 0, 0, 68, 0), (.iload_n 1, 1, 0, 0, 0, 0, 0), (.iadd, 1, 0, 0, 0, 0, 0), (.aload_n 0, 1, 0, 0, 0, 0, 0), (.ldc_w 263, 3, 115, 0, 0, 0, 0), (.iconst 0, 1, 0, 0, 0, 0, 0), (.bipush 30, 2, 0, 0, 0, 30, 0), (.invokevirtual 237, 3, 185, 4, 1, 0, 0), (.iastore, 1, 0, 0, 0, 0, 0), (.aload_n 0, 1, 0, 0, 0, 0, 0), (.getfield 110, 3, 10, 13, 0, 0, 0), (.ifCond .ne 14, 3, 88, 0, 0, 0, 0), (.aload_n 0, 1, 0, 0, 0, 0, 0), (.getfield 23, 3, 10, 16, 2, 0, 0), (.bipush 6, 2, 0, 0, 0, 6, 0), (.dup2, 1, 0, 0, 0, 0, 0), (.iaload, 1, 0, 0, 0, 0, 0), (.iconst 1, 1, 0, 0, 0, 1, 0), (.iadd, 1, 0, 0, 0, 0, 0), (.iastore, 1, 0, 0, 0, 0, 0)]),
  (88, [false, false], [(.return_, 1, 0, 0, 0, 0, 0)])
]
theorem ck_196 : (bk_196.all fun q => mm_ckr 10 cX10_personLine q.2.2 q.1) = true := by decide +kernel
def bk_197 : List mmB := /- X10 shakyLine -/ [
  (0, [true], [(.aload_n 0, 1, 0, 0, 0, 0, 0), (.getfield 110, 3, 10, 13, 0, 0, 0), (.ifCond .eq 4, 3, 8, 0, 0, 0, 0), (.return_, 1, 0, 0, 0, 0, 0)]),
  (8, [true], [(.aload_n 0, 1, 0, 0, 0, 0, 0), (.getfield 23, 3, 10, 16, 2, 0, 0), (.bipush 10, 2, 0, 0, 0, 10, 0), (.aload_n 0, 1, 0, 0, 0, 0, 0), (.iconst 0, 1, 0, 0, 0, 0, 0), (.bipush 9, 2, 0, 0, 0, 9, 0), (.invokevirtual 170, 3, 184, 3, 1, 0, 0), (.iastore, 1, 0, 0, 0, 0, 0), (.aload_n 0, 1, 0, 0, 0, 0, 0), (.invokevirtual 244, 3, 187, 1, 0, 0, 0), (.aload_n 0, 1, 0, 0, 0, 0, 0), (.getfield 23, 3, 10, 16, 2, 0, 0), (.bipush 11, 2, 0, 0, 0, 11, 0), (.aload_n 0, 1, 0, 0, 0, 0, 0), (.iconst 0, 1, 0, 0, 0, 0, 0), (.bipush 9, 2, 0, 0, 0, 9, 0), (.invokevirtual 170, 3, 184, 3, 1, 0, 0), (.iastore, 1, 0, 0, 0, 0, 0), (.aload_n 0, 1, 0, 0, 0, 0, 0), (.invokevirtual 244, 3, 187, 1, 0, 0, 0), (.aload_n 0, 1, 0, 0, 0, 0, 0), (.getfield 23, 3, 10, 16, 2, 0, 0), (.bipush 12, 2, 0, 0, 0, 12, 0), (.aload_n 0, 1, 0, 0, 0, 0, 0), (.aload_n 0, 1, 0, 0, 0, 0, 0), (.getfield 23, 3, 10, 16, 2, 0, 0), (.bipush 10, 2, 0, 0, 0, 10, 0), (.iaload, 1, 0, 0, 0, 0, 0), (.aload_n 0, 1, 0, 0, 0, 0, 0), (.getfield 23, 3, 10, 16, 2, 0, 0), (.bipush 11, 2, 0, 0, 0, 11, 0), (.iaload, 1, 0, 0, 0, 0, 0), (.iadd, 1, 0, 0, 0, 0, 0), (.ifCond .ne 7, 3, 73, 0, 0, 0, 0), (.iconst 1, 1, 0, 0, 0, 1, 0), (.goto 4, 3, 74, 0, 0, 0, 0)]),
  (73, [true], [(.iconst 0, 1, 0, 0, 0, 0, 0)]),
  (74, [true], [(.bipush 9, 2, 0, 0, 0, 9, 0), (.invokevirtual 170, 3, 184, 3, 1, 0, 0), (.iastore, 1, 0, 0, 0, 0, 0), (.aload_n 0, 1, 0, 0, 0, 0, 0), (.getfield 110, 3, 10, 13, 0, 0, 0), (.ifCond .ne 11, 3, 95, 0, 0, 0, 0), (.aload_n 0, 1, 0, 0, 0, 0, 0), (.getfield 23, 3, 10, 16, 2, 0, 0), (.bipush 7, 2, 0, 0, 0, 7, 0), (.iconst 1, 1, 0, 0, 0, 1, 0), (.iastore, 1, 0, 0, 0, 0, 0)]),
  (95, [false], [(.return_, 1, 0, 0, 0, 0, 0)])
]
theorem ck_197 : (bk_197.all fun q => mm_ckr 10 cX10_shakyLine q.2.2 q.1) = true := by decide +kernel
def bk_198 : List mmB := /- X10 leftLine -/ [
  (0, [true, false, false], [(.aload_n 0, 1, 0, 0, 0, 0, 0), (.getfield 110, 3, 10, 13, 0, 0, 0), (.ifCond .eq 4, 3, 8, 0, 0, 0, 0), (.return_, 1, 0, 0, 0, 0, 0)]),
  (8, [true, false, false], [(.aload_n 0, 1, 0, 0, 0, 0, 0), (.getfield 23, 3, 10, 16, 2, 0, 0), (.bipush 8, 2, 0, 0, 0, 8, 0), (.iconst 1, 1, 0, 0, 0, 1, 0), (.iastore, 1, 0, 0, 0, 0, 0), (.aload_n 0, 1, 0, 0, 0, 0, 0), (.ldc 154, 2, 108, 0, 0, 0, 0), (.invokevirtual 134, 3, 179, 2, 1, 0, 0), (.ifCond .eq 4, 3, 26, 0, 0, 0, 0), (.return_, 1, 0, 0, 0, 0, 0)]),
  (26, [true, false, false], [(.iconst 1, 1, 0, 0, 0, 1, 0), (.istore_n 1, 1, 0, 0, 0, 0, 0)]),
  (28, [true, true, false], [(.iload_n 1, 1, 0, 0, 0, 0, 0), (.ifCond .eq 112, 3, 141, 0, 0, 0, 0), (.aload_n 0, 1, 0, 0, 0, 0, 0), (.invokevirtual 156, 3, 181, 1, 0, 0, 0), (.aload_n 0, 1, 0, 0, 0, 0, 0), (.getfield 110, 3, 10, 13, 0, 0, 0), (.ifCond .eq 7, 3, 47, 0, 0, 0, 0), (.iconst (-1), 1, 0, 0, 0, (-1), 0), (.goto 7, 3, 51, 0, 0, 0, 0)]),
  (47, [true, false, false], [(.aload_n 0, 1, 0, 0, 0, 0, 0), (.invokevirtual 159, 3, 182, 1, 1, 0, 0)]),
  (51, [true, false, false], [(.istore_n 2, 1, 0, 0, 0, 0, 0), (.aload_n 0, 1, 0, 0, 0, 0, 0), (.getfield 110, 3, 10, 13, 0, 0, 0), (.ifCond .ne 22, 3, 78, 0, 0, 0, 0), (.iload_n 2, 1, 0, 0, 0, 0, 0), (.iconst 0, 1, 0, 0, 0, 0, 0), (.bipush 9, 2, 0, 0, 0, 9, 0), (.invokestatic 162, 3, 169, 3, 1, 0, 0), (.ifCond .ne 12, 3, 78, 0, 0, 0, 0), (.aload_n 0, 1, 0, 0, 0, 0, 0), (.iconst 2, 1, 0, 0, 0, 2, 0), (.aload_n 0, 1, 0, 0, 0, 0, 0), (.getfield 91, 3, 10, 4, 0, 0, 0), (.invokevirtual 137, 3, 177, 3, 0, 0, 0)]),
  (78, [true, false, true], [(.aload_n 0, 1, 0, 0, 0, 0, 0), (.getfield 110, 3, 10, 13, 0, 0, 0), (.ifCond .ne 26, 3, 108, 0, 0, 0, 0), (.aload_n 0, 1, 0, 0, 0, 0, 0), (.getfield 23, 3, 10, 16, 2, 0, 0), (.bipush 9, 2, 0, 0, 0, 9, 0), (.iaload, 1, 0, 0, 0, 0, 0), (.iload_n 2, 1, 0, 0, 0, 0, 0), (.invokestatic 265, 3, 170, 2, 1, 0, 0), (.ifCond .eq 12, 3, 108, 0, 0, 0, 0), (.aload_n 0, 1, 0, 0, 0, 0, 0), (.iconst 3, 1, 0, 0, 0, 3, 0), (.aload_n 0, 1, 0, 0, 0, 0, 0), (.getfield 91, 3, 10, 4, 0, 0, 0), (.invokevirtual 137, 3, 177, 3, 0, 0, 0)]),
  (108, [true, false, true], [(.aload_n 0, 1, 0, 0, 0, 0, 0), (.getfield 110, 3, 10, 13, 0, 0, 0), (.ifCond .eq 4, 3, 116, 0, 0, 0, 0), (.return_, 1, 0, 0, 0, 0, 0)]),
  (116, [true, false, true], [(.aload_n 0, 1, 0, 0, 0, 0, 0), (.getfield 23, 3, 10, 16, 2, 0, 0), (.bipush 9, 2, 0, 0, 0, 9, 0), (.dup2, 1, 0, 0, 0, 0, 0), (.iaload, 1, 0, 0, 0, 0, 0), (.iconst 1, 1, 0, 0, 0, 1, 0), (.iload_n 2, 1, 0, 0, 0, 0, 0), (.ishl, 1, 0, 0, 0, 0, 0), (.ior, 1, 0, 0, 0, 0, 0), (.iastore, 1, 0, 0, 0, 0, 0), (.aload_n 0, 1, 0, 0, 0, 0, 0), (.invokevirtual 131, 3, 176, 1, 0, 0, 0), (.aload_n 0, 1, 0, 0, 0, 0, 0), (.invokevirtual 174, 3, 186, 1, 1, 0, 0), (.istore_n 1, 1, 0, 0, 0, 0, 0), (.goto (-110), 3, 28, 0, 0, 0, 0)]),
  (141, [false, false, false], [(.return_, 1, 0, 0, 0, 0, 0)])
]
theorem ck_198 : (bk_198.all fun q => mm_ckr 10 cX10_leftLine q.2.2 q.1) = true := by decide +kernel
def bk_199 : List mmB := /- X10 fault -/ [
  (0, [true], [(.aload_n 0, 1, 0, 0, 0, 0, 0), (.iconst 0, 1, 0, 0, 0, 0, 0), (.putfield 72, 3, 10, 0, 0, 0, 0), (.aload_n 0, 1, 0, 0, 0, 0, 0), (.getfield 114, 3, 10, 9, 0, 0, 0), (.ireturn, 1, 0, 0, 0, 0, 0)])
]
theorem ck_199 : (bk_199.all fun q => mm_ckr 10 cX10_fault q.2.2 q.1) = true := by decide +kernel
def bk_200 : List mmB := /- X10 where -/ [
  (0, [true], [(.aload_n 0, 1, 0, 0, 0, 0, 0), (.iconst 0, 1, 0, 0, 0, 0, 0), (.putfield 72, 3, 10, 0, 0, 0, 0), (.aload_n 0, 1, 0, 0, 0, 0, 0), (.getfield 75, 3, 10, 11, 0, 0, 0), (.iconst 4, 1, 0, 0, 0, 4, 0), (.if_icmp .ne 10, 3, 20, 0, 0, 0, 0), (.aload_n 0, 1, 0, 0, 0, 0, 0), (.getfield 13, 3, 10, 10, 0, 0, 0), (.goto 4, 3, 21, 0, 0, 0, 0)]),
  (20, [false], [(.iconst (-1), 1, 0, 0, 0, (-1), 0)]),
  (21, [false], [(.ireturn, 1, 0, 0, 0, 0, 0)])
]
theorem ck_200 : (bk_200.all fun q => mm_ckr 10 cX10_where q.2.2 q.1) = true := by decide +kernel
def bk_201 : List mmB := /- X10 isCandle -/ [
  (0, [true, true], [(.aload_n 0, 1, 0, 0, 0, 0, 0), (.getfield 187, 3, 10, 14, 0, 0, 0), (.ifCond .eq 23, 3, 27, 0, 0, 0, 0), (.iload_n 1, 1, 0, 0, 0, 0, 0), (.iconst 0, 1, 0, 0, 0, 0, 0), (.aload_n 0, 1, 0, 0, 0, 0, 0), (.getfield 20, 3, 10, 15, 2, 0, 0), (.iconst 3, 1, 0, 0, 0, 3, 0), (.iaload, 1, 0, 0, 0, 0, 0), (.iconst 1, 1, 0, 0, 0, 1, 0), (.isub, 1, 0, 0, 0, 0, 0), (.invokestatic 162, 3, 169, 3, 1, 0, 0), (.ifCond .eq 7, 3, 27, 0, 0, 0, 0), (.iconst 1, 1, 0, 0, 0, 1, 0), (.goto 4, 3, 28, 0, 0, 0, 0)]),
  (27, [false, false], [(.iconst 0, 1, 0, 0, 0, 0, 0)]),
  (28, [false, false], [(.ireturn, 1, 0, 0, 5, 0, 0)])
]
theorem ck_201 : (bk_201.all fun q => mm_ckr 10 cX10_isCandle q.2.2 q.1) = true := by decide +kernel
def bk_202 : List mmB := /- X10 isPlace -/ [
  (0, [true, true], [(.aload_n 0, 1, 0, 0, 0, 0, 0), (.getfield 187, 3, 10, 14, 0, 0, 0), (.ifCond .eq 23, 3, 27, 0, 0, 0, 0), (.iload_n 1, 1, 0, 0, 0, 0, 0), (.iconst 0, 1, 0, 0, 0, 0, 0), (.aload_n 0, 1, 0, 0, 0, 0, 0), (.getfield 20, 3, 10, 15, 2, 0, 0), (.iconst 4, 1, 0, 0, 0, 4, 0), (.iaload, 1, 0, 0, 0, 0, 0), (.iconst 1, 1, 0, 0, 0, 1, 0), (.isub, 1, 0, 0, 0, 0, 0), (.invokestatic 162, 3, 169, 3, 1, 0, 0), (.ifCond .eq 7, 3, 27, 0, 0, 0, 0), (.iconst 1, 1, 0, 0, 0, 1, 0), (.goto 4, 3, 28, 0, 0, 0, 0)]),
  (27, [false, false], [(.iconst 0, 1, 0, 0, 0, 0, 0)]),
  (28, [false, false], [(.ireturn, 1, 0, 0, 5, 0, 0)])
]
theorem ck_202 : (bk_202.all fun q => mm_ckr 10 cX10_isPlace q.2.2 q.1) = true := by decide +kernel
def bk_203 : List mmB := /- X10 isPerson -/ [
  (0, [true, true], [(.aload_n 0, 1, 0, 0, 0, 0, 0), (.getfield 187, 3, 10, 14, 0, 0, 0), (.ifCond .eq 24, 3, 28, 0, 0, 0, 0), (.iload_n 1, 1, 0, 0, 0, 0, 0), (.iconst 0, 1, 0, 0, 0, 0, 0), (.aload_n 0, 1, 0, 0, 0, 0, 0), (.getfield 20, 3, 10, 15, 2, 0, 0), (.bipush 6, 2, 0, 0, 0, 6, 0), (.iaload, 1, 0, 0, 0, 0, 0), (.iconst 1, 1, 0, 0, 0, 1, 0), (.isub, 1, 0, 0, 0, 0, 0), (.invokestatic 162, 3, 169, 3, 1, 0, 0), (.ifCond .eq 7, 3, 28, 0, 0, 0, 0), (.iconst 1, 1, 0, 0, 0, 1, 0), (.goto 4, 3, 29, 0, 0, 0, 0)]),
  (28, [false, false], [(.iconst 0, 1, 0, 0, 0, 0, 0)]),
  (29, [false, false], [(.ireturn, 1, 0, 0, 5, 0, 0)])
]
theorem ck_203 : (bk_203.all fun q => mm_ckr 10 cX10_isPerson q.2.2 q.1) = true := by decide +kernel
def bk_204 : List mmB := /- X10 isBreath -/ [
  (0, [true, true], [(.aload_n 0, 1, 0, 0, 0, 0, 0), (.getfield 187, 3, 10, 14, 0, 0, 0), (.ifCond .eq 21, 3, 25, 0, 0, 0, 0), (.iload_n 1, 1, 0, 0, 0, 0, 0), (.iconst 0, 1, 0, 0, 0, 0, 0), (.aload_n 0, 1, 0, 0, 0, 0, 0), (.invokevirtual 208, 3, 206, 1, 1, 0, 0), (.iconst 1, 1, 0, 0, 0, 1, 0), (.isub, 1, 0, 0, 0, 0, 0), (.invokestatic 162, 3, 169, 3, 1, 0, 0), (.ifCond .eq 7, 3, 25, 0, 0, 0, 0), (.iconst 1, 1, 0, 0, 0, 1, 0), (.goto 4, 3, 26, 0, 0, 0, 0)]),
  (25, [false, false], [(.iconst 0, 1, 0, 0, 0, 0, 0)]),
  (26, [false, false], [(.ireturn, 1, 0, 0, 5, 0, 0)])
]
theorem ck_204 : (bk_204.all fun q => mm_ckr 10 cX10_isBreath q.2.2 q.1) = true := by decide +kernel
