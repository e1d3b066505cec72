/-! the methods as rows of instructions, and that their bytes say so -/
def bk_31 : List mmB := /- X1 clear -/ [
  (0, [true], [(.aload_n 0, 1, 0, 0, 0, 0, 0), (.getfield 14, 3, 1, 0, 2, 0, 0), (.iconst 0, 1, 0, 0, 0, 0, 0), (.putfield 39, 3, 5, 3, 0, 0, 0), (.aload_n 0, 1, 0, 0, 0, 0, 0), (.getfield 24, 3, 1, 2, 2, 0, 0), (.iconst 0, 1, 0, 0, 0, 0, 0), (.putfield 39, 3, 5, 3, 0, 0, 0), (.aload_n 0, 1, 0, 0, 0, 0, 0), (.getfield 27, 3, 1, 3, 2, 0, 0), (.iconst 0, 1, 0, 0, 0, 0, 0), (.putfield 39, 3, 5, 3, 0, 0, 0), (.aload_n 0, 1, 0, 0, 0, 0, 0), (.iconst 0, 1, 0, 0, 0, 0, 0), (.putfield 43, 3, 1, 6, 0, 0, 0), (.aload_n 0, 1, 0, 0, 0, 0, 0), (.iconst (-1), 1, 0, 0, 0, (-1), 0), (.putfield 46, 3, 1, 7, 0, 0, 0), (.aload_n 0, 1, 0, 0, 0, 0, 0), (.iconst 0, 1, 0, 0, 0, 0, 0), (.putfield 49, 3, 1, 8, 0, 0, 0), (.aload_n 0, 1, 0, 0, 0, 0, 0), (.getfield 36, 3, 1, 9, 2, 0, 0), (.iconst 0, 1, 0, 0, 0, 0, 0), (.iconst 0, 1, 0, 0, 0, 0, 0), (.iastore, 1, 0, 0, 0, 0, 0), (.aload_n 0, 1, 0, 0, 0, 0, 0), (.getfield 36, 3, 1, 9, 2, 0, 0), (.iconst 1, 1, 0, 0, 0, 1, 0), (.iconst 1, 1, 0, 0, 0, 1, 0), (.iastore, 1, 0, 0, 0, 0, 0), (.aload_n 0, 1, 0, 0, 0, 0, 0), (.getfield 36, 3, 1, 9, 2, 0, 0), (.iconst 2, 1, 0, 0, 0, 2, 0), (.iconst 0, 1, 0, 0, 0, 0, 0), (.iastore, 1, 0, 0, 0, 0, 0), (.aload_n 0, 1, 0, 0, 0, 0, 0), (.iconst 0, 1, 0, 0, 0, 0, 0), (.putfield 52, 3, 1, 10, 5, 0, 0), (.aload_n 0, 1, 0, 0, 0, 0, 0), (.bipush (-2), 2, 0, 0, 0, (-2), 0), (.putfield 56, 3, 1, 11, 0, 0, 0), (.return_, 1, 0, 0, 0, 0, 0)])
]
theorem ck_31 : (bk_31.all fun q => mm_ckr 1 cX1_clear q.2.2 q.1) = true := by decide +kernel
def bk_32 : List mmB := /- X1 lacks -/ [
  (0, [true], [(.aload_n 0, 1, 0, 0, 0, 0, 0), (.getfield 46, 3, 1, 7, 0, 0, 0), (.iconst (-1), 1, 0, 0, 0, (-1), 0), (.if_icmp .eq 30, 3, 35, 0, 0, 0, 0), (.aload_n 0, 1, 0, 0, 0, 0, 0), (.getfield 14, 3, 1, 0, 2, 0, 0), (.getfield 39, 3, 5, 3, 0, 0, 0), (.ifCond .eq 20, 3, 35, 0, 0, 0, 0), (.aload_n 0, 1, 0, 0, 0, 0, 0), (.getfield 24, 3, 1, 2, 2, 0, 0), (.getfield 39, 3, 5, 3, 0, 0, 0), (.ifCond .eq 10, 3, 35, 0, 0, 0, 0), (.aload_n 0, 1, 0, 0, 0, 0, 0), (.getfield 43, 3, 1, 6, 0, 0, 0), (.ifCond .ne 7, 3, 39, 0, 0, 0, 0)]),
  (35, [false], [(.iconst 1, 1, 0, 0, 0, 1, 0), (.goto 4, 3, 40, 0, 0, 0, 0)]),
  (39, [false], [(.iconst 0, 1, 0, 0, 0, 0, 0)]),
  (40, [false], [(.ireturn, 1, 0, 0, 5, 0, 0)])
]
theorem ck_32 : (bk_32.all fun q => mm_ckr 1 cX1_lacks q.2.2 q.1) = true := by decide +kernel
def bk_33 : List mmB := /- X1 trickCount -/ [
  (0, [true, false, false], [(.iconst 0, 1, 0, 0, 0, 0, 0), (.istore_n 1, 1, 0, 0, 0, 0, 0), (.iconst 0, 1, 0, 0, 0, 0, 0), (.istore_n 2, 1, 0, 0, 0, 0, 0)]),
  (4, [true, true, true], [(.iload_n 2, 1, 0, 0, 0, 0, 0), (.aload_n 0, 1, 0, 0, 0, 0, 0), (.getfield 14, 3, 1, 0, 2, 0, 0), (.getfield 39, 3, 5, 3, 0, 0, 0), (.if_icmp .ge 22, 3, 34, 0, 0, 0, 0), (.aload_n 0, 1, 0, 0, 0, 0, 0), (.getfield 20, 3, 1, 1, 2, 0, 0), (.iload_n 2, 1, 0, 0, 0, 0, 0), (.iaload, 1, 0, 0, 0, 0, 0), (.iconst 3, 1, 0, 0, 0, 3, 0), (.if_icmp .ne 6, 3, 28, 0, 0, 0, 0), (.iinc 1 1, 3, 0, 0, 0, 1, 0)]),
  (28, [true, true, true], [(.iinc 2 1, 3, 0, 0, 0, 1, 0), (.goto (-27), 3, 4, 0, 0, 0, 0)]),
  (34, [false, true, false], [(.iload_n 1, 1, 0, 0, 0, 0, 0), (.ireturn, 1, 0, 0, 0, 0, 0)])
]
theorem ck_33 : (bk_33.all fun q => mm_ckr 1 cX1_trickCount q.2.2 q.1) = true := by decide +kernel
def bk_34 : List mmB := /- X2 start -/ [
  (0, [true], [(.aload_n 0, 1, 0, 0, 0, 0, 0), (.iconst 0, 1, 0, 0, 0, 0, 0), (.putfield 27, 3, 2, 3, 0, 0, 0), (.aload_n 0, 1, 0, 0, 0, 0, 0), (.dup, 1, 0, 0, 0, 0, 0), (.getfield 31, 3, 2, 5, 0, 0, 0), (.iconst 1, 1, 0, 0, 0, 1, 0), (.iadd, 1, 0, 0, 0, 0, 0), (.putfield 31, 3, 2, 5, 0, 0, 0), (.return_, 1, 0, 0, 0, 0, 0)])
]
theorem ck_34 : (bk_34.all fun q => mm_ckr 2 cX2_start q.2.2 q.1) = true := by decide +kernel
def bk_35 : List mmB := /- X2 add -/ [
  (0, [true, true, true], [(.aload_n 0, 1, 0, 0, 0, 0, 0), (.getfield 20, 3, 2, 4, 2, 0, 0), (.iload_n 2, 1, 0, 0, 0, 0, 0), (.iaload, 1, 0, 0, 0, 0, 0), (.aload_n 0, 1, 0, 0, 0, 0, 0), (.getfield 31, 3, 2, 5, 0, 0, 0), (.if_icmp .eq 55, 3, 65, 0, 0, 0, 0), (.aload_n 0, 1, 0, 0, 0, 0, 0), (.getfield 27, 3, 2, 3, 0, 0, 0), (.aload_n 0, 1, 0, 0, 0, 0, 0), (.getfield 9, 3, 2, 1, 2, 0, 0), (.arraylength, 1, 0, 0, 0, 0, 0), (.if_icmp .ge 43, 3, 65, 0, 0, 0, 0), (.aload_n 0, 1, 0, 0, 0, 0, 0), (.getfield 20, 3, 2, 4, 2, 0, 0), (.iload_n 2, 1, 0, 0, 0, 0, 0), (.aload_n 0, 1, 0, 0, 0, 0, 0), (.getfield 31, 3, 2, 5, 0, 0, 0), (.iastore, 1, 0, 0, 0, 0, 0), (.aload_n 0, 1, 0, 0, 0, 0, 0), (.getfield 9, 3, 2, 1, 2, 0, 0), (.aload_n 0, 1, 0, 0, 0, 0, 0), (.getfield 27, 3, 2, 3, 0, 0, 0), (.iload_n 2, 1, 0, 0, 0, 0, 0), (.iastore, 1, 0, 0, 0, 0, 0), (.aload_n 0, 1, 0, 0, 0, 0, 0), (.getfield 15, 3, 2, 2, 2, 0, 0), (.aload_n 0, 1, 0, 0, 0, 0, 0), (.getfield 27, 3, 2, 3, 0, 0, 0), (.iload_n 1, 1, 0, 0, 0, 0, 0), (.iastore, 1, 0, 0, 0, 0, 0), (.aload_n 0, 1, 0, 0, 0, 0, 0), (.dup, 1, 0, 0, 0, 0, 0), (.getfield 27, 3, 2, 3, 0, 0, 0), (.iconst 1, 1, 0, 0, 0, 1, 0), (.iadd, 1, 0, 0, 0, 0, 0), (.putfield 27, 3, 2, 3, 0, 0, 0)]),
  (65, [false, false, false], [(.return_, 1, 0, 0, 0, 0, 0)])
]
theorem ck_35 : (bk_35.all fun q => mm_ckr 2 cX2_add q.2.2 q.1) = true := by decide +kernel
def bk_36 : List mmB := /- X2 list -/ [
  (0, [true, true, true, true, false, false], [(.aload_n 0, 1, 0, 0, 0, 0, 0), (.invokevirtual 34, 3, 34, 1, 0, 0, 0), (.iconst 0, 1, 0, 0, 0, 0, 0), (.istore 4, 2, 0, 0, 0, 0, 0)]),
  (7, [true, true, true, true, true, false], [(.iload 4, 2, 0, 0, 0, 0, 0), (.aload_n 0, 1, 0, 0, 0, 0, 0), (.getfield 23, 3, 2, 0, 2, 0, 0), (.getfield 37, 3, 0, 2, 0, 0, 0), (.if_icmp .ge 73, 3, 89, 0, 0, 0, 0), (.iload_n 1, 1, 0, 0, 0, 0, 0), (.iconst 1, 1, 0, 0, 0, 1, 0), (.if_icmp .ne 15, 3, 36, 0, 0, 0, 0), (.aload_n 0, 1, 0, 0, 0, 0, 0), (.getfield 23, 3, 2, 0, 2, 0, 0), (.iload 4, 2, 0, 0, 0, 0, 0), (.invokevirtual 40, 3, 11, 2, 1, 0, 0), (.goto 12, 3, 45, 0, 0, 0, 0)]),
  (36, [true, true, true, true, true, false], [(.aload_n 0, 1, 0, 0, 0, 0, 0), (.getfield 23, 3, 2, 0, 2, 0, 0), (.iload 4, 2, 0, 0, 0, 0, 0), (.invokevirtual 44, 3, 12, 2, 1, 0, 0)]),
  (45, [true, true, true, true, true, false], [(.istore 5, 2, 0, 0, 0, 0, 0), (.iload_n 1, 1, 0, 0, 0, 0, 0), (.iconst 4, 1, 0, 0, 0, 4, 0), (.if_icmp .eq 18, 3, 67, 0, 0, 0, 0), (.iload 5, 2, 0, 0, 0, 0, 0), (.iload_n 2, 1, 0, 0, 0, 0, 0), (.if_icmp .ne 7, 3, 62, 0, 0, 0, 0), (.iconst 1, 1, 0, 0, 0, 1, 0), (.goto 4, 3, 63, 0, 0, 0, 0)]),
  (62, [true, true, true, true, true, false], [(.iconst 0, 1, 0, 0, 0, 0, 0)]),
  (63, [true, true, true, true, true, false], [(.iload_n 3, 1, 0, 0, 0, 0, 0), (.if_icmp .ne 19, 3, 83, 0, 0, 0, 0)]),
  (67, [true, true, true, true, true, false], [(.aload_n 0, 1, 0, 0, 0, 0, 0), (.iload 4, 2, 0, 0, 0, 0, 0), (.aload_n 0, 1, 0, 0, 0, 0, 0), (.getfield 23, 3, 2, 0, 2, 0, 0), (.getfield 47, 3, 0, 3, 2, 0, 0), (.iload 4, 2, 0, 0, 0, 0, 0), (.iaload, 1, 0, 0, 0, 0, 0), (.invokevirtual 50, 3, 35, 3, 0, 0, 0)]),
  (83, [true, true, true, true, true, false], [(.iinc 4 1, 3, 0, 0, 0, 1, 0), (.goto (-79), 3, 7, 0, 0, 0, 0)]),
  (89, [false, false, false, false, false, false], [(.return_, 1, 0, 0, 0, 0, 0)])
]
theorem ck_36 : (bk_36.all fun q => mm_ckr 2 cX2_list q.2.2 q.1) = true := by decide +kernel
def bk_37 : List mmB := /- X2 listWithGuest -/ [
  (0, [true, true, false], [(.aload_n 0, 1, 0, 0, 0, 0, 0), (.invokevirtual 34, 3, 34, 1, 0, 0, 0), (.iconst 0, 1, 0, 0, 0, 0, 0), (.istore_n 2, 1, 0, 0, 0, 0, 0)]),
  (6, [true, true, true], [(.iload_n 2, 1, 0, 0, 0, 0, 0), (.aload_n 0, 1, 0, 0, 0, 0, 0), (.getfield 23, 3, 2, 0, 2, 0, 0), (.getfield 37, 3, 0, 2, 0, 0, 0), (.if_icmp .ge 23, 3, 37, 0, 0, 0, 0), (.aload_n 0, 1, 0, 0, 0, 0, 0), (.iload_n 2, 1, 0, 0, 0, 0, 0), (.aload_n 0, 1, 0, 0, 0, 0, 0), (.getfield 23, 3, 2, 0, 2, 0, 0), (.iload_n 2, 1, 0, 0, 0, 0, 0), (.iload_n 1, 1, 0, 0, 0, 0, 0), (.invokevirtual 54, 3, 29, 3, 1, 0, 0), (.invokevirtual 50, 3, 35, 3, 0, 0, 0), (.iinc 2 1, 3, 0, 0, 0, 1, 0), (.goto (-28), 3, 6, 0, 0, 0, 0)]),
  (37, [false, false, false], [(.return_, 1, 0, 0, 0, 0, 0)])
]
theorem ck_37 : (bk_37.all fun q => mm_ckr 2 cX2_listWithGuest q.2.2 q.1) = true := by decide +kernel
def bk_38 : List mmB := /- X3 outOf -/ [
  (0, [true, true], [(.aload_n 0, 1, 0, 0, 0, 0, 0), (.invokevirtual 41, 3, 42, 1, 0, 0, 0), (.aload_n 0, 1, 0, 0, 0, 0, 0), (.iload_n 1, 1, 0, 0, 0, 0, 0), (.invokevirtual 44, 3, 281, 2, 1, 0, 0), (.ireturn, 1, 0, 0, 0, 0, 0)])
]
theorem ck_38 : (bk_38.all fun q => mm_ckr 3 cX3_outOf q.2.2 q.1) = true := by decide +kernel
def bk_39 : List mmB := /- X3 likeliness -/ [
  (0, [true, true, true], [(.aload_n 0, 1, 0, 0, 0, 0, 0), (.invokevirtual 41, 3, 42, 1, 0, 0, 0), (.aload_n 0, 1, 0, 0, 0, 0, 0), (.iload_n 1, 1, 0, 0, 0, 0, 0), (.iload_n 2, 1, 0, 0, 0, 0, 0), (.invokevirtual 48, 3, 46, 3, 1, 0, 0), (.ireturn, 1, 0, 0, 0, 0, 0)])
]
theorem ck_39 : (bk_39.all fun q => mm_ckr 3 cX3_likeliness q.2.2 q.1) = true := by decide +kernel
def bk_40 : List mmB := /- X3 meanLeft -/ [
  (0, [true, true, true], [(.aload_n 0, 1, 0, 0, 0, 0, 0), (.invokevirtual 41, 3, 42, 1, 0, 0, 0), (.aload_n 0, 1, 0, 0, 0, 0, 0), (.iload_n 1, 1, 0, 0, 0, 0, 0), (.iload_n 2, 1, 0, 0, 0, 0, 0), (.invokevirtual 52, 3, 48, 3, 1, 0, 0), (.ireturn, 1, 0, 0, 0, 0, 0)])
]
theorem ck_40 : (bk_40.all fun q => mm_ckr 3 cX3_meanLeft q.2.2 q.1) = true := by decide +kernel
def bk_41 : List mmB := /- X3 likeliestBreath -/ [
  (0, [true, true, true, false, false], [(.aload_n 0, 1, 0, 0, 0, 0, 0), (.iload_n 1, 1, 0, 0, 0, 0, 0), (.iload_n 2, 1, 0, 0, 0, 0, 0), (.invokevirtual 55, 3, 39, 3, 1, 0, 0), (.istore_n 3, 1, 0, 0, 0, 0, 0), (.aload_n 0, 1, 0, 0, 0, 0, 0), (.iload_n 1, 1, 0, 0, 0, 0, 0), (.iload_n 2, 1, 0, 0, 0, 0, 0), (.invokevirtual 58, 3, 47, 3, 0, 0, 0), (.iconst 0, 1, 0, 0, 0, 0, 0), (.istore 4, 2, 0, 0, 0, 0, 0)]),
  (16, [true, false, true, true, true], [(.iload 4, 2, 0, 0, 0, 0, 0), (.aload_n 0, 1, 0, 0, 0, 0, 0), (.getfield 62, 3, 3, 9, 0, 0, 0), (.if_icmp .ge 28, 3, 50, 0, 0, 0, 0), (.aload_n 0, 1, 0, 0, 0, 0, 0), (.iload 4, 2, 0, 0, 0, 0, 0), (.iload_n 2, 1, 0, 0, 0, 0, 0), (.invokevirtual 66, 3, 45, 3, 1, 0, 0), (.iload_n 3, 1, 0, 0, 0, 0, 0), (.if_icmp .ne 11, 3, 44, 0, 0, 0, 0), (.aload_n 0, 1, 0, 0, 0, 0, 0), (.getfield 34, 3, 3, 8, 2, 0, 0), (.iload 4, 2, 0, 0, 0, 0, 0), (.iaload, 1, 0, 0, 0, 0, 0), (.ireturn, 1, 0, 0, 0, 0, 0)]),
  (44, [true, false, true, true, true], [(.iinc 4 1, 3, 0, 0, 0, 1, 0), (.goto (-31), 3, 16, 0, 0, 0, 0)]),
  (50, [false, false, false, false, false], [(.iconst (-1), 1, 0, 0, 0, (-1), 0), (.ireturn, 1, 0, 0, 0, 0, 0)])
]
theorem ck_41 : (bk_41.all fun q => mm_ckr 3 cX3_likeliestBreath q.2.2 q.1) = true := by decide +kernel
def bk_42 : List mmB := /- X3 prepare -/ [
  (0, [true, false], [(.aload_n 0, 1, 0, 0, 0, 0, 0), (.getfield 69, 3, 3, 1, 0, 0, 0), (.aload_n 0, 1, 0, 0, 0, 0, 0), (.getfield 37, 3, 3, 0, 2, 0, 0), (.getfield 72, 3, 0, 1, 0, 0, 0), (.if_icmp .ne 4, 3, 15, 0, 0, 0, 0), (.return_, 1, 0, 0, 0, 0, 0)]),
  (15, [true, false], [(.aload_n 0, 1, 0, 0, 0, 0, 0), (.aload_n 0, 1, 0, 0, 0, 0, 0), (.getfield 37, 3, 3, 0, 2, 0, 0), (.getfield 72, 3, 0, 1, 0, 0, 0), (.putfield 69, 3, 3, 1, 0, 0, 0), (.iconst 0, 1, 0, 0, 0, 0, 0), (.istore_n 1, 1, 0, 0, 0, 0, 0)]),
  (28, [true, true], [(.iload_n 1, 1, 0, 0, 0, 0, 0), (.iconst 2, 1, 0, 0, 0, 2, 0), (.if_icmp .ge 29, 3, 59, 0, 0, 0, 0), (.aload_n 0, 1, 0, 0, 0, 0, 0), (.getfield 15, 3, 3, 2, 2, 0, 0), (.iload_n 1, 1, 0, 0, 0, 0, 0), (.aaload, 1, 0, 0, 0, 0, 0), (.iconst (-1), 1, 0, 0, 0, (-1), 0), (.invokestatic 73, 3, 279, 2, 0, 0, 0), (.aload_n 0, 1, 0, 0, 0, 0, 0), (.getfield 18, 3, 3, 3, 2, 0, 0), (.iload_n 1, 1, 0, 0, 0, 0, 0), (.aaload, 1, 0, 0, 0, 0, 0), (.iconst (-1), 1, 0, 0, 0, (-1), 0), (.invokestatic 73, 3, 279, 2, 0, 0, 0), (.iinc 1 1, 3, 0, 0, 0, 1, 0), (.goto (-28), 3, 28, 0, 0, 0, 0)]),
  (59, [true, false], [(.aload_n 0, 1, 0, 0, 0, 0, 0), (.aload_n 0, 1, 0, 0, 0, 0, 0), (.getfield 37, 3, 3, 0, 2, 0, 0), (.getfield 79, 3, 0, 0, 3, 0, 0), (.getfield 83, 3, 1, 9, 2, 0, 0), (.iconst 0, 1, 0, 0, 0, 0, 0), (.iaload, 1, 0, 0, 0, 0, 0), (.putfield 88, 3, 3, 10, 0, 0, 0), (.aload_n 0, 1, 0, 0, 0, 0, 0), (.aload_n 0, 1, 0, 0, 0, 0, 0), (.getfield 37, 3, 3, 0, 2, 0, 0), (.getfield 79, 3, 0, 0, 3, 0, 0), (.getfield 83, 3, 1, 9, 2, 0, 0), (.iconst 1, 1, 0, 0, 0, 1, 0), (.iaload, 1, 0, 0, 0, 0, 0), (.putfield 91, 3, 3, 11, 0, 0, 0), (.aload_n 0, 1, 0, 0, 0, 0, 0), (.aload_n 0, 1, 0, 0, 0, 0, 0), (.getfield 37, 3, 3, 0, 2, 0, 0), (.getfield 79, 3, 0, 0, 3, 0, 0), (.getfield 83, 3, 1, 9, 2, 0, 0), (.iconst 2, 1, 0, 0, 0, 2, 0), (.iaload, 1, 0, 0, 0, 0, 0), (.putfield 94, 3, 3, 12, 0, 0, 0), (.aload_n 0, 1, 0, 0, 0, 0, 0), (.invokevirtual 97, 3, 43, 1, 0, 0, 0), (.return_, 1, 0, 0, 0, 0, 0)])
]
theorem ck_42 : (bk_42.all fun q => mm_ckr 3 cX3_prepare q.2.2 q.1) = true := by decide +kernel
def bk_43 : List mmB := /- X3 findChoices -/ [
  (0, [true, false, false, false], [(.aload_n 0, 1, 0, 0, 0, 0, 0), (.iconst 0, 1, 0, 0, 0, 0, 0), (.putfield 62, 3, 3, 9, 0, 0, 0), (.iconst 0, 1, 0, 0, 0, 0, 0), (.istore_n 1, 1, 0, 0, 0, 0, 0)]),
  (7, [true, true, false, false], [(.iload_n 1, 1, 0, 0, 0, 0, 0), (.aload_n 0, 1, 0, 0, 0, 0, 0), (.getfield 37, 3, 3, 0, 2, 0, 0), (.getfield 100, 3, 0, 2, 0, 0, 0), (.if_icmp .ge 153, 3, 168, 0, 0, 0, 0), (.aload_n 0, 1, 0, 0, 0, 0, 0), (.getfield 37, 3, 3, 0, 2, 0, 0), (.iload_n 1, 1, 0, 0, 0, 0, 0), (.invokevirtual 103, 3, 10, 2, 1, 0, 0), (.istore_n 2, 1, 0, 0, 0, 0, 0), (.iload_n 1, 1, 0, 0, 0, 0, 0), (.iload_n 2, 1, 0, 0, 0, 0, 0), (.isub, 1, 0, 0, 0, 0, 0), (.istore_n 3, 1, 0, 0, 0, 0, 0), (.aload_n 0, 1, 0, 0, 0, 0, 0), (.getfield 24, 3, 3, 5, 2, 0, 0), (.aload_n 0, 1, 0, 0, 0, 0, 0), (.getfield 62, 3, 3, 9, 0, 0, 0), (.aload_n 0, 1, 0, 0, 0, 0, 0), (.getfield 88, 3, 3, 10, 0, 0, 0), (.ifCond .ne 7, 3, 50, 0, 0, 0, 0), (.iconst 0, 1, 0, 0, 0, 0, 0), (.goto 22, 3, 69, 0, 0, 0, 0)]),
  (50, [true, true, true, true], [(.aload_n 0, 1, 0, 0, 0, 0, 0), (.getfield 37, 3, 3, 0, 2, 0, 0), (.getfield 106, 3, 0, 4, 2, 0, 0), (.iload_n 3, 1, 0, 0, 0, 0, 0), (.iload_n 2, 1, 0, 0, 0, 0, 0), (.bipush 16, 2, 0, 0, 0, 16, 0), (.iadd, 1, 0, 0, 0, 0, 0), (.iconst 1, 1, 0, 0, 0, 1, 0), (.isub, 1, 0, 0, 0, 0, 0), (.bipush 16, 2, 0, 0, 0, 16, 0), (.irem, 1, 0, 0, 0, 0, 0), (.iadd, 1, 0, 0, 0, 0, 0), (.iaload, 1, 0, 0, 0, 0, 0)]),
  (69, [true, true, true, true], [(.iastore, 1, 0, 0, 0, 0, 0), (.aload_n 0, 1, 0, 0, 0, 0, 0), (.getfield 28, 3, 3, 6, 2, 0, 0), (.aload_n 0, 1, 0, 0, 0, 0, 0), (.getfield 62, 3, 3, 9, 0, 0, 0), (.aload_n 0, 1, 0, 0, 0, 0, 0), (.getfield 91, 3, 3, 11, 0, 0, 0), (.ifCond .ne 7, 3, 89, 0, 0, 0, 0), (.iconst 0, 1, 0, 0, 0, 0, 0), (.goto 12, 3, 98, 0, 0, 0, 0)]),
  (89, [true, true, true, true], [(.aload_n 0, 1, 0, 0, 0, 0, 0), (.getfield 37, 3, 3, 0, 2, 0, 0), (.getfield 106, 3, 0, 4, 2, 0, 0), (.iload_n 1, 1, 0, 0, 0, 0, 0), (.iaload, 1, 0, 0, 0, 0, 0)]),
  (98, [true, true, true, true], [(.iastore, 1, 0, 0, 0, 0, 0), (.aload_n 0, 1, 0, 0, 0, 0, 0), (.getfield 31, 3, 3, 7, 2, 0, 0), (.aload_n 0, 1, 0, 0, 0, 0, 0), (.getfield 62, 3, 3, 9, 0, 0, 0), (.aload_n 0, 1, 0, 0, 0, 0, 0), (.getfield 94, 3, 3, 12, 0, 0, 0), (.ifCond .ne 7, 3, 118, 0, 0, 0, 0), (.iconst 0, 1, 0, 0, 0, 0, 0), (.goto 19, 3, 134, 0, 0, 0, 0)]),
  (118, [true, true, true, true], [(.aload_n 0, 1, 0, 0, 0, 0, 0), (.getfield 37, 3, 3, 0, 2, 0, 0), (.getfield 106, 3, 0, 4, 2, 0, 0), (.iload_n 3, 1, 0, 0, 0, 0, 0), (.iload_n 2, 1, 0, 0, 0, 0, 0), (.iconst 1, 1, 0, 0, 0, 1, 0), (.iadd, 1, 0, 0, 0, 0, 0), (.bipush 16, 2, 0, 0, 0, 16, 0), (.irem, 1, 0, 0, 0, 0, 0), (.iadd, 1, 0, 0, 0, 0, 0), (.iaload, 1, 0, 0, 0, 0, 0)]),
  (134, [true, true, false, false], [(.iastore, 1, 0, 0, 0, 0, 0), (.aload_n 0, 1, 0, 0, 0, 0, 0), (.invokevirtual 109, 3, 44, 1, 1, 0, 0), (.ifCond .eq 23, 3, 162, 0, 0, 0, 0), (.aload_n 0, 1, 0, 0, 0, 0, 0), (.getfield 34, 3, 3, 8, 2, 0, 0), (.aload_n 0, 1, 0, 0, 0, 0, 0), (.getfield 62, 3, 3, 9, 0, 0, 0), (.iload_n 1, 1, 0, 0, 0, 0, 0), (.iastore, 1, 0, 0, 0, 0, 0), (.aload_n 0, 1, 0, 0, 0, 0, 0), (.dup, 1, 0, 0, 0, 0, 0), (.getfield 62, 3, 3, 9, 0, 0, 0), (.iconst 1, 1, 0, 0, 0, 1, 0), (.iadd, 1, 0, 0, 0, 0, 0), (.putfield 62, 3, 3, 9, 0, 0, 0)]),
  (162, [true, true, false, false], [(.iinc 1 1, 3, 0, 0, 0, 1, 0), (.goto (-158), 3, 7, 0, 0, 0, 0)]),
  (168, [false, false, false, false], [(.return_, 1, 0, 0, 0, 0, 0)])
]
theorem ck_43 : (bk_43.all fun q => mm_ckr 3 cX3_findChoices q.2.2 q.1) = true := by decide +kernel
def bk_44 : List mmB := /- X3 isNewChoice -/ [
  (0, [true, false], [(.iconst 0, 1, 0, 0, 0, 0, 0), (.istore_n 1, 1, 0, 0, 0, 0, 0)]),
  (2, [true, true], [(.iload_n 1, 1, 0, 0, 0, 0, 0), (.aload_n 0, 1, 0, 0, 0, 0, 0), (.getfield 62, 3, 3, 9, 0, 0, 0), (.if_icmp .ge 65, 3, 72, 0, 0, 0, 0), (.aload_n 0, 1, 0, 0, 0, 0, 0), (.getfield 28, 3, 3, 6, 2, 0, 0), (.iload_n 1, 1, 0, 0, 0, 0, 0), (.iaload, 1, 0, 0, 0, 0, 0), (.aload_n 0, 1, 0, 0, 0, 0, 0), (.getfield 28, 3, 3, 6, 2, 0, 0), (.aload_n 0, 1, 0, 0, 0, 0, 0), (.getfield 62, 3, 3, 9, 0, 0, 0), (.iaload, 1, 0, 0, 0, 0, 0), (.if_icmp .ne 41, 3, 66, 0, 0, 0, 0), (.aload_n 0, 1, 0, 0, 0, 0, 0), (.getfield 24, 3, 3, 5, 2, 0, 0), (.iload_n 1, 1, 0, 0, 0, 0, 0), (.iaload, 1, 0, 0, 0, 0, 0), (.aload_n 0, 1, 0, 0, 0, 0, 0), (.getfield 24, 3, 3, 5, 2, 0, 0), (.aload_n 0, 1, 0, 0, 0, 0, 0), (.getfield 62, 3, 3, 9, 0, 0, 0), (.iaload, 1, 0, 0, 0, 0, 0), (.if_icmp .ne 23, 3, 66, 0, 0, 0, 0), (.aload_n 0, 1, 0, 0, 0, 0, 0), (.getfield 31, 3, 3, 7, 2, 0, 0), (.iload_n 1, 1, 0, 0, 0, 0, 0), (.iaload, 1, 0, 0, 0, 0, 0), (.aload_n 0, 1, 0, 0, 0, 0, 0), (.getfield 31, 3, 3, 7, 2, 0, 0), (.aload_n 0, 1, 0, 0, 0, 0, 0), (.getfield 62, 3, 3, 9, 0, 0, 0), (.iaload, 1, 0, 0, 0, 0, 0), (.if_icmp .ne 5, 3, 66, 0, 0, 0, 0), (.iconst 0, 1, 0, 0, 0, 0, 0), (.ireturn, 1, 0, 0, 5, 0, 0)]),
  (66, [true, true], [(.iinc 1 1, 3, 0, 0, 0, 1, 0), (.goto (-67), 3, 2, 0, 0, 0, 0)]),
  (72, [false, false], [(.iconst 1, 1, 0, 0, 0, 1, 0), (.ireturn, 1, 0, 0, 5, 0, 0)])
]
theorem ck_44 : (bk_44.all fun q => mm_ckr 3 cX3_isNewChoice q.2.2 q.1) = true := by decide +kernel
def bk_45 : List mmB := /- X3 total -/ [
  (0, [true, true, true, false], [(.aload_n 0, 1, 0, 0, 0, 0, 0), (.getfield 21, 3, 3, 4, 2, 0, 0), (.iload_n 2, 1, 0, 0, 0, 0, 0), (.iconst 1, 1, 0, 0, 0, 1, 0), (.isub, 1, 0, 0, 0, 0, 0), (.aaload, 1, 0, 0, 0, 0, 0), (.astore_n 3, 1, 0, 0, 0, 0, 0), (.aload_n 0, 1, 0, 0, 0, 0, 0), (.getfield 88, 3, 3, 10, 0, 0, 0), (.aload_n 3, 1, 0, 0, 0, 0, 0), (.aload_n 0, 1, 0, 0, 0, 0, 0), (.getfield 24, 3, 3, 5, 2, 0, 0), (.iload_n 1, 1, 0, 0, 0, 0, 0), (.iaload, 1, 0, 0, 0, 0, 0), (.iaload, 1, 0, 0, 0, 0, 0), (.imul, 1, 0, 0, 0, 0, 0), (.aload_n 0, 1, 0, 0, 0, 0, 0), (.getfield 91, 3, 3, 11, 0, 0, 0), (.aload_n 3, 1, 0, 0, 0, 0, 0), (.aload_n 0, 1, 0, 0, 0, 0, 0), (.getfield 28, 3, 3, 6, 2, 0, 0), (.iload_n 1, 1, 0, 0, 0, 0, 0), (.iaload, 1, 0, 0, 0, 0, 0), (.iaload, 1, 0, 0, 0, 0, 0), (.imul, 1, 0, 0, 0, 0, 0), (.iadd, 1, 0, 0, 0, 0, 0), (.aload_n 0, 1, 0, 0, 0, 0, 0), (.getfield 94, 3, 3, 12, 0, 0, 0), (.aload_n 3, 1, 0, 0, 0, 0, 0), (.aload_n 0, 1, 0, 0, 0, 0, 0), (.getfield 31, 3, 3, 7, 2, 0, 0), (.iload_n 1, 1, 0, 0, 0, 0, 0), (.iaload, 1, 0, 0, 0, 0, 0), (.iaload, 1, 0, 0, 0, 0, 0), (.imul, 1, 0, 0, 0, 0, 0), (.iadd, 1, 0, 0, 0, 0, 0), (.ireturn, 1, 0, 0, 0, 0, 0)])
]
theorem ck_45 : (bk_45.all fun q => mm_ckr 3 cX3_total q.2.2 q.1) = true := by decide +kernel
def bk_46 : List mmB := /- X3 likelinessOf -/ [
  (0, [true, true, true, false, false], [(.iload_n 1, 1, 0, 0, 0, 0, 0), (.ifCond .ne 9, 3, 10, 0, 0, 0, 0), (.aload_n 0, 1, 0, 0, 0, 0, 0), (.iload_n 2, 1, 0, 0, 0, 0, 0), (.invokevirtual 44, 3, 281, 2, 1, 0, 0), (.ireturn, 1, 0, 0, 0, 0, 0)]),
  (10, [true, true, true, false, false], [(.iload_n 2, 1, 0, 0, 0, 0, 0), (.ifCond .le 8, 3, 19, 0, 0, 0, 0), (.iload_n 2, 1, 0, 0, 0, 0, 0), (.iconst 3, 1, 0, 0, 0, 3, 0), (.if_icmp .le 5, 3, 21, 0, 0, 0, 0)]),
  (19, [false, false, false, false, false], [(.iconst 0, 1, 0, 0, 0, 0, 0), (.ireturn, 1, 0, 0, 0, 0, 0)]),
  (21, [true, true, true, false, false], [(.iload_n 2, 1, 0, 0, 0, 0, 0), (.iconst 2, 1, 0, 0, 0, 2, 0), (.if_icmp .gt 28, 3, 51, 0, 0, 0, 0), (.aload_n 0, 1, 0, 0, 0, 0, 0), (.getfield 15, 3, 3, 2, 2, 0, 0), (.iload_n 2, 1, 0, 0, 0, 0, 0), (.iconst 1, 1, 0, 0, 0, 1, 0), (.isub, 1, 0, 0, 0, 0, 0), (.aaload, 1, 0, 0, 0, 0, 0), (.iload_n 1, 1, 0, 0, 0, 0, 0), (.iaload, 1, 0, 0, 0, 0, 0), (.iconst (-1), 1, 0, 0, 0, (-1), 0), (.if_icmp .eq 14, 3, 51, 0, 0, 0, 0), (.aload_n 0, 1, 0, 0, 0, 0, 0), (.getfield 15, 3, 3, 2, 2, 0, 0), (.iload_n 2, 1, 0, 0, 0, 0, 0), (.iconst 1, 1, 0, 0, 0, 1, 0), (.isub, 1, 0, 0, 0, 0, 0), (.aaload, 1, 0, 0, 0, 0, 0), (.iload_n 1, 1, 0, 0, 0, 0, 0), (.iaload, 1, 0, 0, 0, 0, 0), (.ireturn, 1, 0, 0, 0, 0, 0)]),
  (51, [true, true, true, false, false], [(.aload_n 0, 1, 0, 0, 0, 0, 0), (.iload_n 1, 1, 0, 0, 0, 0, 0), (.iload_n 2, 1, 0, 0, 0, 0, 0), (.invokevirtual 58, 3, 47, 3, 0, 0, 0), (.iconst 0, 1, 0, 0, 0, 0, 0), (.istore_n 3, 1, 0, 0, 0, 0, 0), (.iconst 0, 1, 0, 0, 0, 0, 0), (.istore 4, 2, 0, 0, 0, 0, 0)]),
  (62, [true, true, true, true, true], [(.iload 4, 2, 0, 0, 0, 0, 0), (.aload_n 0, 1, 0, 0, 0, 0, 0), (.getfield 62, 3, 3, 9, 0, 0, 0), (.if_icmp .ge 21, 3, 89, 0, 0, 0, 0), (.iload_n 3, 1, 0, 0, 0, 0, 0), (.aload_n 0, 1, 0, 0, 0, 0, 0), (.iload 4, 2, 0, 0, 0, 0, 0), (.iload_n 2, 1, 0, 0, 0, 0, 0), (.invokevirtual 66, 3, 45, 3, 1, 0, 0), (.invokestatic 113, 3, 1001, 2, 1, 0, 0), (.istore_n 3, 1, 0, 0, 0, 0, 0), (.iinc 4 1, 3, 0, 0, 0, 1, 0), (.goto (-24), 3, 62, 0, 0, 0, 0)]),
  (89, [true, true, true, true, false], [(.iload_n 2, 1, 0, 0, 0, 0, 0), (.iconst 2, 1, 0, 0, 0, 2, 0), (.if_icmp .gt 14, 3, 105, 0, 0, 0, 0), (.aload_n 0, 1, 0, 0, 0, 0, 0), (.getfield 15, 3, 3, 2, 2, 0, 0), (.iload_n 2, 1, 0, 0, 0, 0, 0), (.iconst 1, 1, 0, 0, 0, 1, 0), (.isub, 1, 0, 0, 0, 0, 0), (.aaload, 1, 0, 0, 0, 0, 0), (.iload_n 1, 1, 0, 0, 0, 0, 0), (.iload_n 3, 1, 0, 0, 0, 0, 0), (.iastore, 1, 0, 0, 0, 0, 0)]),
  (105, [false, false, false, true, false], [(.iload_n 3, 1, 0, 0, 0, 0, 0), (.ireturn, 1, 0, 0, 0, 0, 0)])
]
theorem ck_46 : (bk_46.all fun q => mm_ckr 3 cX3_likelinessOf q.2.2 q.1) = true := by decide +kernel
def bk_47 : List mmB := /- X3 weighChances -/ [
  (0, [true, true, true, false], [(.iconst 0, 1, 0, 0, 0, 0, 0), (.istore_n 3, 1, 0, 0, 0, 0, 0)]),
  (2, [true, true, true, true], [(.iload_n 3, 1, 0, 0, 0, 0, 0), (.aload_n 0, 1, 0, 0, 0, 0, 0), (.getfield 37, 3, 3, 0, 2, 0, 0), (.getfield 118, 3, 0, 7, 0, 0, 0), (.if_icmp .ge 43, 3, 53, 0, 0, 0, 0), (.aload_n 0, 1, 0, 0, 0, 0, 0), (.getfield 21, 3, 3, 4, 2, 0, 0), (.iload_n 2, 1, 0, 0, 0, 0, 0), (.iconst 1, 1, 0, 0, 0, 1, 0), (.isub, 1, 0, 0, 0, 0, 0), (.aaload, 1, 0, 0, 0, 0, 0), (.iload_n 3, 1, 0, 0, 0, 0, 0), (.aload_n 0, 1, 0, 0, 0, 0, 0), (.aload_n 0, 1, 0, 0, 0, 0, 0), (.getfield 37, 3, 3, 0, 2, 0, 0), (.iload_n 1, 1, 0, 0, 0, 0, 0), (.aload_n 0, 1, 0, 0, 0, 0, 0), (.getfield 37, 3, 3, 0, 2, 0, 0), (.getfield 121, 3, 0, 5, 2, 0, 0), (.iload_n 3, 1, 0, 0, 0, 0, 0), (.iaload, 1, 0, 0, 0, 0, 0), (.invokevirtual 124, 3, 24, 3, 1, 0, 0), (.iload_n 2, 1, 0, 0, 0, 0, 0), (.iconst 1, 1, 0, 0, 0, 1, 0), (.isub, 1, 0, 0, 0, 0, 0), (.invokevirtual 48, 3, 46, 3, 1, 0, 0), (.iastore, 1, 0, 0, 0, 0, 0), (.iinc 3 1, 3, 0, 0, 0, 1, 0), (.goto (-48), 3, 2, 0, 0, 0, 0)]),
  (53, [false, false, false, false], [(.return_, 1, 0, 0, 0, 0, 0)])
]
theorem ck_47 : (bk_47.all fun q => mm_ckr 3 cX3_weighChances q.2.2 q.1) = true := by decide +kernel
def bk_48 : List mmB := /- X3 meanOf -/ [
  (0, [true, true, true, false, false, false], [(.aload_n 0, 1, 0, 0, 0, 0, 0), (.getfield 37, 3, 3, 0, 2, 0, 0), (.iload_n 1, 1, 0, 0, 0, 0, 0), (.invokevirtual 127, 3, 18, 2, 1, 0, 0), (.istore_n 3, 1, 0, 0, 0, 0, 0), (.iload_n 2, 1, 0, 0, 0, 0, 0), (.ifCond .le 12, 3, 22, 0, 0, 0, 0), (.iload_n 2, 1, 0, 0, 0, 0, 0), (.iconst 3, 1, 0, 0, 0, 3, 0), (.if_icmp .gt 7, 3, 22, 0, 0, 0, 0), (.iload_n 3, 1, 0, 0, 0, 0, 0), (.ifCond .ne 5, 3, 24, 0, 0, 0, 0)]),
  (22, [false, false, false, true, false, false], [(.iload_n 3, 1, 0, 0, 0, 0, 0), (.ireturn, 1, 0, 0, 0, 0, 0)]),
  (24, [true, true, true, true, false, false], [(.iload_n 2, 1, 0, 0, 0, 0, 0), (.iconst 2, 1, 0, 0, 0, 2, 0), (.if_icmp .gt 28, 3, 54, 0, 0, 0, 0), (.aload_n 0, 1, 0, 0, 0, 0, 0), (.getfield 18, 3, 3, 3, 2, 0, 0), (.iload_n 2, 1, 0, 0, 0, 0, 0), (.iconst 1, 1, 0, 0, 0, 1, 0), (.isub, 1, 0, 0, 0, 0, 0), (.aaload, 1, 0, 0, 0, 0, 0), (.iload_n 1, 1, 0, 0, 0, 0, 0), (.iaload, 1, 0, 0, 0, 0, 0), (.iconst (-1), 1, 0, 0, 0, (-1), 0), (.if_icmp .eq 14, 3, 54, 0, 0, 0, 0), (.aload_n 0, 1, 0, 0, 0, 0, 0), (.getfield 18, 3, 3, 3, 2, 0, 0), (.iload_n 2, 1, 0, 0, 0, 0, 0), (.iconst 1, 1, 0, 0, 0, 1, 0), (.isub, 1, 0, 0, 0, 0, 0), (.aaload, 1, 0, 0, 0, 0, 0), (.iload_n 1, 1, 0, 0, 0, 0, 0), (.iaload, 1, 0, 0, 0, 0, 0), (.ireturn, 1, 0, 0, 0, 0, 0)]),
  (54, [true, true, true, true, false, false], [(.aload_n 0, 1, 0, 0, 0, 0, 0), (.iload_n 1, 1, 0, 0, 0, 0, 0), (.iload_n 2, 1, 0, 0, 0, 0, 0), (.invokevirtual 130, 3, 280, 3, 0, 0, 0), (.iload_n 3, 1, 0, 0, 0, 0, 0), (.aload_n 0, 1, 0, 0, 0, 0, 0), (.iload_n 2, 1, 0, 0, 0, 0, 0), (.invokevirtual 44, 3, 281, 2, 1, 0, 0), (.imul, 1, 0, 0, 0, 0, 0), (.istore 4, 2, 0, 0, 0, 0, 0), (.iconst 0, 1, 0, 0, 0, 0, 0), (.istore 5, 2, 0, 0, 0, 0, 0)]),
  (72, [true, true, true, false, true, true], [(.iload 5, 2, 0, 0, 0, 0, 0), (.aload_n 0, 1, 0, 0, 0, 0, 0), (.getfield 62, 3, 3, 9, 0, 0, 0), (.if_icmp .ge 23, 3, 101, 0, 0, 0, 0), (.iload 4, 2, 0, 0, 0, 0, 0), (.aload_n 0, 1, 0, 0, 0, 0, 0), (.iload 5, 2, 0, 0, 0, 0, 0), (.iload_n 2, 1, 0, 0, 0, 0, 0), (.invokevirtual 66, 3, 45, 3, 1, 0, 0), (.invokestatic 133, 3, 1002, 2, 1, 0, 0), (.istore 4, 2, 0, 0, 0, 0, 0), (.iinc 5 1, 3, 0, 0, 0, 1, 0), (.goto (-26), 3, 72, 0, 0, 0, 0)]),
  (101, [true, true, true, false, true, false], [(.iload_n 2, 1, 0, 0, 0, 0, 0), (.iconst 2, 1, 0, 0, 0, 2, 0), (.if_icmp .gt 15, 3, 118, 0, 0, 0, 0), (.aload_n 0, 1, 0, 0, 0, 0, 0), (.getfield 18, 3, 3, 3, 2, 0, 0), (.iload_n 2, 1, 0, 0, 0, 0, 0), (.iconst 1, 1, 0, 0, 0, 1, 0), (.isub, 1, 0, 0, 0, 0, 0), (.aaload, 1, 0, 0, 0, 0, 0), (.iload_n 1, 1, 0, 0, 0, 0, 0), (.iload 4, 2, 0, 0, 0, 0, 0), (.iastore, 1, 0, 0, 0, 0, 0)]),
  (118, [false, false, false, false, true, false], [(.iload 4, 2, 0, 0, 0, 0, 0), (.ireturn, 1, 0, 0, 0, 0, 0)])
]
theorem ck_48 : (bk_48.all fun q => mm_ckr 3 cX3_meanOf q.2.2 q.1) = true := by decide +kernel
def bk_49 : List mmB := /- X4 begin -/ [
  (0, [true, true], [(.aload_n 0, 1, 0, 0, 0, 0, 0), (.iload_n 1, 1, 0, 0, 0, 0, 0), (.putfield 18, 3, 4, 0, 0, 0, 0), (.aload_n 0, 1, 0, 0, 0, 0, 0), (.iconst 0, 1, 0, 0, 0, 0, 0), (.putfield 22, 3, 4, 2, 0, 0, 0), (.aload_n 0, 1, 0, 0, 0, 0, 0), (.iconst 0, 1, 0, 0, 0, 0, 0), (.putfield 25, 3, 4, 4, 0, 0, 0), (.return_, 1, 0, 0, 0, 0, 0)])
]
theorem ck_49 : (bk_49.all fun q => mm_ckr 4 cX4_begin q.2.2 q.1) = true := by decide +kernel
def bk_50 : List mmB := /- X4 act -/ [
  (0, [true, true], [(.aload_n 0, 1, 0, 0, 0, 0, 0), (.getfield 22, 3, 4, 2, 0, 0, 0), (.bipush 20, 2, 0, 0, 0, 20, 0), (.if_icmp .lt 24, 3, 30, 0, 0, 0, 0), (.aload_n 0, 1, 0, 0, 0, 0, 0), (.getfield 11, 3, 4, 1, 2, 0, 0), (.iconst 1, 1, 0, 0, 0, 1, 0), (.aload_n 0, 1, 0, 0, 0, 0, 0), (.getfield 11, 3, 4, 1, 2, 0, 0), (.iconst 0, 1, 0, 0, 0, 0, 0), (.bipush 19, 2, 0, 0, 0, 19, 0), (.invokestatic 28, 3, 1003, 5, 0, 0, 0), (.aload_n 0, 1, 0, 0, 0, 0, 0), (.bipush 19, 2, 0, 0, 0, 19, 0), (.putfield 22, 3, 4, 2, 0, 0, 0)]),
  (30, [true, true], [(.aload_n 0, 1, 0, 0, 0, 0, 0), (.getfield 11, 3, 4, 1, 2, 0, 0), (.aload_n 0, 1, 0, 0, 0, 0, 0), (.getfield 22, 3, 4, 2, 0, 0, 0), (.aload_n 0, 1, 0, 0, 0, 0, 0), (.getfield 18, 3, 4, 0, 0, 0, 0), (.iastore, 1, 0, 0, 0, 0, 0), (.aload_n 0, 1, 0, 0, 0, 0, 0), (.dup, 1, 0, 0, 0, 0, 0), (.getfield 22, 3, 4, 2, 0, 0, 0), (.iconst 1, 1, 0, 0, 0, 1, 0), (.iadd, 1, 0, 0, 0, 0, 0), (.putfield 22, 3, 4, 2, 0, 0, 0), (.aload_n 0, 1, 0, 0, 0, 0, 0), (.iload_n 1, 1, 0, 0, 0, 0, 0), (.putfield 18, 3, 4, 0, 0, 0, 0), (.return_, 1, 0, 0, 0, 0, 0)])
]
theorem ck_50 : (bk_50.all fun q => mm_ckr 4 cX4_act q.2.2 q.1) = true := by decide +kernel
def bk_51 : List mmB := /- X4 takeBack -/ [
  (0, [true], [(.aload_n 0, 1, 0, 0, 0, 0, 0), (.getfield 22, 3, 4, 2, 0, 0, 0), (.ifCond .gt 5, 3, 9, 0, 0, 0, 0), (.iconst 0, 1, 0, 0, 0, 0, 0), (.ireturn, 1, 0, 0, 5, 0, 0)]),
  (9, [true], [(.aload_n 0, 1, 0, 0, 0, 0, 0), (.dup, 1, 0, 0, 0, 0, 0), (.getfield 22, 3, 4, 2, 0, 0, 0), (.iconst 1, 1, 0, 0, 0, 1, 0), (.isub, 1, 0, 0, 0, 0, 0), (.putfield 22, 3, 4, 2, 0, 0, 0), (.aload_n 0, 1, 0, 0, 0, 0, 0), (.aload_n 0, 1, 0, 0, 0, 0, 0), (.getfield 11, 3, 4, 1, 2, 0, 0), (.aload_n 0, 1, 0, 0, 0, 0, 0), (.getfield 22, 3, 4, 2, 0, 0, 0), (.iaload, 1, 0, 0, 0, 0, 0), (.putfield 18, 3, 4, 0, 0, 0, 0), (.iconst 1, 1, 0, 0, 0, 1, 0), (.ireturn, 1, 0, 0, 5, 0, 0)])
]
theorem ck_51 : (bk_51.all fun q => mm_ckr 4 cX4_takeBack q.2.2 q.1) = true := by decide +kernel
def bk_52 : List mmB := /- X4 keepImage -/ [
  (0, [true], [(.aload_n 0, 1, 0, 0, 0, 0, 0), (.getfield 25, 3, 4, 4, 0, 0, 0), (.iconst 3, 1, 0, 0, 0, 3, 0), (.if_icmp .lt 5, 3, 10, 0, 0, 0, 0), (.iconst (-1), 1, 0, 0, 0, (-1), 0), (.ireturn, 1, 0, 0, 0, 0, 0)]),
  (10, [true], [(.aload_n 0, 1, 0, 0, 0, 0, 0), (.getfield 15, 3, 4, 3, 2, 0, 0), (.aload_n 0, 1, 0, 0, 0, 0, 0), (.getfield 25, 3, 4, 4, 0, 0, 0), (.aload_n 0, 1, 0, 0, 0, 0, 0), (.getfield 18, 3, 4, 0, 0, 0, 0), (.iastore, 1, 0, 0, 0, 0, 0), (.aload_n 0, 1, 0, 0, 0, 0, 0), (.dup, 1, 0, 0, 0, 0, 0), (.getfield 25, 3, 4, 4, 0, 0, 0), (.iconst 1, 1, 0, 0, 0, 1, 0), (.iadd, 1, 0, 0, 0, 0, 0), (.putfield 25, 3, 4, 4, 0, 0, 0), (.aload_n 0, 1, 0, 0, 0, 0, 0), (.getfield 25, 3, 4, 4, 0, 0, 0), (.iconst 1, 1, 0, 0, 0, 1, 0), (.isub, 1, 0, 0, 0, 0, 0), (.ireturn, 1, 0, 0, 0, 0, 0)])
]
theorem ck_52 : (bk_52.all fun q => mm_ckr 4 cX4_keepImage q.2.2 q.1) = true := by decide +kernel
def bk_53 : List mmB := /- X4 returnTo -/ [
  (0, [true, true], [(.iload_n 1, 1, 0, 0, 0, 0, 0), (.ifCond .lt 11, 3, 12, 0, 0, 0, 0), (.iload_n 1, 1, 0, 0, 0, 0, 0), (.aload_n 0, 1, 0, 0, 0, 0, 0), (.getfield 25, 3, 4, 4, 0, 0, 0), (.if_icmp .lt 5, 3, 14, 0, 0, 0, 0)]),
  (12, [false, false], [(.iconst 0, 1, 0, 0, 0, 0, 0), (.ireturn, 1, 0, 0, 5, 0, 0)]),
  (14, [true, true], [(.aload_n 0, 1, 0, 0, 0, 0, 0), (.aload_n 0, 1, 0, 0, 0, 0, 0), (.getfield 15, 3, 4, 3, 2, 0, 0), (.iload_n 1, 1, 0, 0, 0, 0, 0), (.iaload, 1, 0, 0, 0, 0, 0), (.putfield 18, 3, 4, 0, 0, 0, 0), (.aload_n 0, 1, 0, 0, 0, 0, 0), (.iconst 0, 1, 0, 0, 0, 0, 0), (.putfield 22, 3, 4, 2, 0, 0, 0), (.iconst 1, 1, 0, 0, 0, 1, 0), (.ireturn, 1, 0, 0, 5, 0, 0)])
]
theorem ck_53 : (bk_53.all fun q => mm_ckr 4 cX4_returnTo q.2.2 q.1) = true := by decide +kernel
def bk_54 : List mmB := /- X5 isFull -/ [
  (0, [true], [(.aload_n 0, 1, 0, 0, 0, 0, 0), (.getfield 22, 3, 5, 3, 0, 0, 0), (.aload_n 0, 1, 0, 0, 0, 0, 0), (.getfield 18, 3, 5, 0, 0, 0, 0), (.if_icmp .ge 15, 3, 23, 0, 0, 0, 0), (.aload_n 0, 1, 0, 0, 0, 0, 0), (.getfield 22, 3, 5, 3, 0, 0, 0), (.aload_n 0, 1, 0, 0, 0, 0, 0), (.getfield 9, 3, 5, 1, 2, 0, 0), (.arraylength, 1, 0, 0, 0, 0, 0), (.if_icmp .lt 7, 3, 27, 0, 0, 0, 0)]),
  (23, [false], [(.iconst 1, 1, 0, 0, 0, 1, 0), (.goto 4, 3, 28, 0, 0, 0, 0)]),
  (27, [false], [(.iconst 0, 1, 0, 0, 0, 0, 0)]),
  (28, [false], [(.ireturn, 1, 0, 0, 5, 0, 0)])
]
theorem ck_54 : (bk_54.all fun q => mm_ckr 5 cX5_isFull q.2.2 q.1) = true := by decide +kernel
def bk_55 : List mmB := /- X5 add -/ [
  (0, [true, true, true], [(.aload_n 0, 1, 0, 0, 0, 0, 0), (.invokevirtual 25, 3, 54, 1, 1, 0, 0), (.ifCond .ne 33, 3, 37, 0, 0, 0, 0), (.aload_n 0, 1, 0, 0, 0, 0, 0), (.getfield 9, 3, 5, 1, 2, 0, 0), (.aload_n 0, 1, 0, 0, 0, 0, 0), (.getfield 22, 3, 5, 3, 0, 0, 0), (.iload_n 1, 1, 0, 0, 0, 0, 0), (.iastore, 1, 0, 0, 0, 0, 0), (.aload_n 0, 1, 0, 0, 0, 0, 0), (.getfield 15, 3, 5, 2, 2, 0, 0), (.aload_n 0, 1, 0, 0, 0, 0, 0), (.getfield 22, 3, 5, 3, 0, 0, 0), (.iload_n 2, 1, 0, 0, 0, 0, 0), (.iastore, 1, 0, 0, 0, 0, 0), (.aload_n 0, 1, 0, 0, 0, 0, 0), (.dup, 1, 0, 0, 0, 0, 0), (.getfield 22, 3, 5, 3, 0, 0, 0), (.iconst 1, 1, 0, 0, 0, 1, 0), (.iadd, 1, 0, 0, 0, 0, 0), (.putfield 22, 3, 5, 3, 0, 0, 0)]),
  (37, [false, false, false], [(.return_, 1, 0, 0, 0, 0, 0)])
]
theorem ck_55 : (bk_55.all fun q => mm_ckr 5 cX5_add q.2.2 q.1) = true := by decide +kernel
def bk_106 : List mmB := /- X8 count -/ [
  (0, [true, true, false, false], [(.aload_n 0, 1, 0, 0, 0, 0, 0), (.iload_n 1, 1, 0, 0, 0, 0, 0), (.invokevirtual 19, 3, 108, 2, 0, 0, 0), (.iconst 0, 1, 0, 0, 0, 0, 0), (.istore_n 2, 1, 0, 0, 0, 0, 0), (.iconst 0, 1, 0, 0, 0, 0, 0), (.istore_n 3, 1, 0, 0, 0, 0, 0)]),
  (9, [true, false, true, true], [(.iload_n 3, 1, 0, 0, 0, 0, 0), (.aload_n 0, 1, 0, 0, 0, 0, 0), (.getfield 15, 3, 8, 0, 2, 0, 0), (.getfield 23, 3, 0, 7, 0, 0, 0), (.if_icmp .ge 28, 3, 45, 0, 0, 0, 0), (.iload_n 2, 1, 0, 0, 0, 0, 0), (.aload_n 0, 1, 0, 0, 0, 0, 0), (.getfield 15, 3, 8, 0, 2, 0, 0), (.getfield 29, 3, 0, 6, 2, 0, 0), (.iload_n 3, 1, 0, 0, 0, 0, 0), (.iaload, 1, 0, 0, 0, 0, 0), (.aload_n 0, 1, 0, 0, 0, 0, 0), (.getfield 9, 3, 8, 1, 2, 0, 0), (.iload_n 3, 1, 0, 0, 0, 0, 0), (.iaload, 1, 0, 0, 0, 0, 0), (.imul, 1, 0, 0, 0, 0, 0), (.iadd, 1, 0, 0, 0, 0, 0), (.istore_n 2, 1, 0, 0, 0, 0, 0), (.iinc 3 1, 3, 0, 0, 0, 1, 0), (.goto (-33), 3, 9, 0, 0, 0, 0)]),
  (45, [false, false, true, false], [(.iload_n 2, 1, 0, 0, 0, 0, 0), (.ireturn, 1, 0, 0, 0, 0, 0)])
]
theorem ck_106 : (bk_106.all fun q => mm_ckr 8 cX8_count q.2.2 q.1) = true := by decide +kernel
def bk_107 : List mmB := /- X8 firstBreath -/ [
  (0, [true, true, true, false, false], [(.iload_n 2, 1, 0, 0, 0, 0, 0), (.ifCond .ge 5, 3, 6, 0, 0, 0, 0), (.iconst (-1), 1, 0, 0, 0, (-1), 0), (.ireturn, 1, 0, 0, 0, 0, 0)]),
  (6, [true, true, true, false, false], [(.aload_n 0, 1, 0, 0, 0, 0, 0), (.iload_n 1, 1, 0, 0, 0, 0, 0), (.invokevirtual 19, 3, 108, 2, 0, 0, 0), (.iload_n 2, 1, 0, 0, 0, 0, 0), (.istore_n 3, 1, 0, 0, 0, 0, 0), (.iconst 0, 1, 0, 0, 0, 0, 0), (.istore 4, 2, 0, 0, 0, 0, 0)]),
  (16, [true, false, false, true, true], [(.iload 4, 2, 0, 0, 0, 0, 0), (.aload_n 0, 1, 0, 0, 0, 0, 0), (.getfield 15, 3, 8, 0, 2, 0, 0), (.getfield 32, 3, 0, 2, 0, 0, 0), (.if_icmp .ge 34, 3, 59, 0, 0, 0, 0), (.iload_n 3, 1, 0, 0, 0, 0, 0), (.aload_n 0, 1, 0, 0, 0, 0, 0), (.getfield 9, 3, 8, 1, 2, 0, 0), (.aload_n 0, 1, 0, 0, 0, 0, 0), (.getfield 15, 3, 8, 0, 2, 0, 0), (.getfield 35, 3, 0, 4, 2, 0, 0), (.iload 4, 2, 0, 0, 0, 0, 0), (.iaload, 1, 0, 0, 0, 0, 0), (.iaload, 1, 0, 0, 0, 0, 0), (.isub, 1, 0, 0, 0, 0, 0), (.istore_n 3, 1, 0, 0, 0, 0, 0), (.iload_n 3, 1, 0, 0, 0, 0, 0), (.ifCond .ge 6, 3, 53, 0, 0, 0, 0), (.iload 4, 2, 0, 0, 0, 0, 0), (.ireturn, 1, 0, 0, 0, 0, 0)]),
  (53, [true, false, false, true, true], [(.iinc 4 1, 3, 0, 0, 0, 1, 0), (.goto (-40), 3, 16, 0, 0, 0, 0)]),
  (59, [false, false, false, false, false], [(.iconst (-1), 1, 0, 0, 0, (-1), 0), (.ireturn, 1, 0, 0, 0, 0, 0)])
]
theorem ck_107 : (bk_107.all fun q => mm_ckr 8 cX8_firstBreath q.2.2 q.1) = true := by decide +kernel
def bk_108 : List mmB := /- X8 findRows -/ [
  (0, [true, true, false, false, false], [(.aload_n 0, 1, 0, 0, 0, 0, 0), (.getfield 15, 3, 8, 0, 2, 0, 0), (.invokevirtual 38, 3, 16, 1, 1, 0, 0), (.istore_n 2, 1, 0, 0, 0, 0, 0), (.iconst 0, 1, 0, 0, 0, 0, 0), (.istore_n 3, 1, 0, 0, 0, 0, 0)]),
  (10, [true, true, true, true, false], [(.iload_n 3, 1, 0, 0, 0, 0, 0), (.aload_n 0, 1, 0, 0, 0, 0, 0), (.getfield 15, 3, 8, 0, 2, 0, 0), (.getfield 23, 3, 0, 7, 0, 0, 0), (.if_icmp .ge 54, 3, 72, 0, 0, 0, 0), (.aload_n 0, 1, 0, 0, 0, 0, 0), (.getfield 15, 3, 8, 0, 2, 0, 0), (.iload_n 2, 1, 0, 0, 0, 0, 0), (.aload_n 0, 1, 0, 0, 0, 0, 0), (.getfield 15, 3, 8, 0, 2, 0, 0), (.getfield 42, 3, 0, 5, 2, 0, 0), (.iload_n 3, 1, 0, 0, 0, 0, 0), (.iaload, 1, 0, 0, 0, 0, 0), (.invokevirtual 45, 3, 24, 3, 1, 0, 0), (.istore 4, 2, 0, 0, 0, 0, 0), (.aload_n 0, 1, 0, 0, 0, 0, 0), (.getfield 9, 3, 8, 1, 2, 0, 0), (.iload_n 3, 1, 0, 0, 0, 0, 0), (.iload_n 1, 1, 0, 0, 0, 0, 0), (.iconst 1, 1, 0, 0, 0, 1, 0), (.if_icmp .ne 12, 3, 59, 0, 0, 0, 0), (.aload_n 0, 1, 0, 0, 0, 0, 0), (.iload 4, 2, 0, 0, 0, 0, 0), (.invokevirtual 49, 3, 110, 2, 1, 0, 0), (.goto 9, 3, 65, 0, 0, 0, 0)]),
  (59, [true, true, true, true, true], [(.aload_n 0, 1, 0, 0, 0, 0, 0), (.iload 4, 2, 0, 0, 0, 0, 0), (.invokevirtual 53, 3, 109, 2, 1, 0, 0)]),
  (65, [true, true, true, true, false], [(.iastore, 1, 0, 0, 0, 0, 0), (.iinc 3 1, 3, 0, 0, 0, 1, 0), (.goto (-59), 3, 10, 0, 0, 0, 0)]),
  (72, [false, false, false, false, false], [(.return_, 1, 0, 0, 0, 0, 0)])
]
theorem ck_108 : (bk_108.all fun q => mm_ckr 8 cX8_findRows q.2.2 q.1) = true := by decide +kernel
def bk_109 : List mmB := /- X8 countLast -/ [
  (0, [true, true, false, false], [(.iconst 0, 1, 0, 0, 0, 0, 0), (.istore_n 2, 1, 0, 0, 0, 0, 0), (.iconst 0, 1, 0, 0, 0, 0, 0), (.istore_n 3, 1, 0, 0, 0, 0, 0)]),
  (4, [true, true, true, true], [(.iload_n 3, 1, 0, 0, 0, 0, 0), (.aload_n 0, 1, 0, 0, 0, 0, 0), (.getfield 15, 3, 8, 0, 2, 0, 0), (.getfield 23, 3, 0, 7, 0, 0, 0), (.if_icmp .ge 43, 3, 55, 0, 0, 0, 0), (.iload_n 2, 1, 0, 0, 0, 0, 0), (.aload_n 0, 1, 0, 0, 0, 0, 0), (.getfield 15, 3, 8, 0, 2, 0, 0), (.getfield 29, 3, 0, 6, 2, 0, 0), (.iload_n 3, 1, 0, 0, 0, 0, 0), (.iaload, 1, 0, 0, 0, 0, 0), (.aload_n 0, 1, 0, 0, 0, 0, 0), (.aload_n 0, 1, 0, 0, 0, 0, 0), (.getfield 15, 3, 8, 0, 2, 0, 0), (.iload_n 1, 1, 0, 0, 0, 0, 0), (.aload_n 0, 1, 0, 0, 0, 0, 0), (.getfield 15, 3, 8, 0, 2, 0, 0), (.getfield 42, 3, 0, 5, 2, 0, 0), (.iload_n 3, 1, 0, 0, 0, 0, 0), (.iaload, 1, 0, 0, 0, 0, 0), (.invokevirtual 45, 3, 24, 3, 1, 0, 0), (.invokevirtual 49, 3, 110, 2, 1, 0, 0), (.imul, 1, 0, 0, 0, 0, 0), (.iadd, 1, 0, 0, 0, 0, 0), (.istore_n 2, 1, 0, 0, 0, 0, 0), (.iinc 3 1, 3, 0, 0, 0, 1, 0), (.goto (-48), 3, 4, 0, 0, 0, 0)]),
  (55, [false, false, true, false], [(.iload_n 2, 1, 0, 0, 0, 0, 0), (.ireturn, 1, 0, 0, 0, 0, 0)])
]
theorem ck_109 : (bk_109.all fun q => mm_ckr 8 cX8_countLast q.2.2 q.1) = true := by decide +kernel
def bk_110 : List mmB := /- X8 isLeft -/ [
  (0, [true, true], [(.aload_n 0, 1, 0, 0, 0, 0, 0), (.getfield 15, 3, 8, 0, 2, 0, 0), (.iload_n 1, 1, 0, 0, 0, 0, 0), (.invokevirtual 56, 3, 17, 2, 1, 0, 0), (.aload_n 0, 1, 0, 0, 0, 0, 0), (.getfield 15, 3, 8, 0, 2, 0, 0), (.getfield 59, 3, 0, 0, 3, 0, 0), (.getfield 63, 3, 1, 11, 0, 0, 0), (.if_icmp .ne 7, 3, 25, 0, 0, 0, 0), (.iconst 1, 1, 0, 0, 0, 1, 0), (.goto 4, 3, 26, 0, 0, 0, 0)]),
  (25, [false, false], [(.iconst 0, 1, 0, 0, 0, 0, 0)]),
  (26, [false, false], [(.ireturn, 1, 0, 0, 0, 0, 0)])
]
theorem ck_110 : (bk_110.all fun q => mm_ckr 8 cX8_isLeft q.2.2 q.1) = true := by decide +kernel
def bk_278 : List mmB := /- J6 bitCount_0f7a4 -/ [
  (0, [true], [(.iload_n 0, 1, 0, 0, 0, 0, 0), (.iload_n 0, 1, 0, 0, 0, 0, 0), (.iconst 1, 1, 0, 0, 0, 1, 0), (.iushr, 1, 0, 0, 0, 0, 0), (.ldc_w 265, 3, 0, 0, 0, 1431655765, 0), (.iand, 1, 0, 0, 0, 0, 0), (.isub, 1, 0, 0, 0, 0, 0), (.istore_n 0, 1, 0, 0, 0, 0, 0), (.iload_n 0, 1, 0, 0, 0, 0, 0), (.ldc_w 266, 3, 0, 0, 0, 858993459, 0), (.iand, 1, 0, 0, 0, 0, 0), (.iload_n 0, 1, 0, 0, 0, 0, 0), (.iconst 2, 1, 0, 0, 0, 2, 0), (.iushr, 1, 0, 0, 0, 0, 0), (.ldc_w 266, 3, 0, 0, 0, 858993459, 0), (.iand, 1, 0, 0, 0, 0, 0), (.iadd, 1, 0, 0, 0, 0, 0), (.istore_n 0, 1, 0, 0, 0, 0, 0), (.iload_n 0, 1, 0, 0, 0, 0, 0), (.iload_n 0, 1, 0, 0, 0, 0, 0), (.iconst 4, 1, 0, 0, 0, 4, 0), (.iushr, 1, 0, 0, 0, 0, 0), (.iadd, 1, 0, 0, 0, 0, 0), (.ldc_w 267, 3, 0, 0, 0, 252645135, 0), (.iand, 1, 0, 0, 0, 0, 0), (.istore_n 0, 1, 0, 0, 0, 0, 0), (.iload_n 0, 1, 0, 0, 0, 0, 0), (.iload_n 0, 1, 0, 0, 0, 0, 0), (.bipush 8, 2, 0, 0, 0, 8, 0), (.iushr, 1, 0, 0, 0, 0, 0), (.iadd, 1, 0, 0, 0, 0, 0), (.istore_n 0, 1, 0, 0, 0, 0, 0), (.iload_n 0, 1, 0, 0, 0, 0, 0), (.iload_n 0, 1, 0, 0, 0, 0, 0), (.bipush 16, 2, 0, 0, 0, 16, 0), (.iushr, 1, 0, 0, 0, 0, 0), (.iadd, 1, 0, 0, 0, 0, 0), (.istore_n 0, 1, 0, 0, 0, 0, 0), (.iload_n 0, 1, 0, 0, 0, 0, 0), (.bipush 63, 2, 0, 0, 0, 63, 0), (.iand, 1, 0, 0, 0, 0, 0), (.ireturn, 1, 0, 0, 0, 0, 0)])
]
theorem ck_278 : (bk_278.all fun q => mm_ckr 12 cJ6_bitCount_0f7a4 q.2.2 q.1) = true := by decide +kernel
def bk_279 : List mmB := /- J7 fill_53178 -/ [
  (0, [true, true, false, false], [(.iconst 0, 1, 0, 0, 0, 0, 0), (.istore_n 2, 1, 0, 0, 0, 0, 0), (.aload_n 0, 1, 0, 0, 0, 0, 0), (.arraylength, 1, 0, 0, 0, 0, 0), (.istore_n 3, 1, 0, 0, 0, 0, 0)]),
  (5, [true, true, true, true], [(.iload_n 2, 1, 0, 0, 0, 0, 0), (.iload_n 3, 1, 0, 0, 0, 0, 0), (.if_icmp .ge 13, 3, 20, 0, 0, 0, 0), (.aload_n 0, 1, 0, 0, 0, 0, 0), (.iload_n 2, 1, 0, 0, 0, 0, 0), (.iload_n 1, 1, 0, 0, 0, 0, 0), (.iastore, 1, 0, 0, 0, 0, 0), (.iinc 2 1, 3, 0, 0, 0, 1, 0), (.goto (-12), 3, 5, 0, 0, 0, 0)]),
  (20, [false, false, false, false], [(.return_, 1, 0, 0, 0, 0, 0)])
]
theorem ck_279 : (bk_279.all fun q => mm_ckr 13 cJ7_fill_53178 q.2.2 q.1) = true := by decide +kernel
def bk_280 : List mmB := /- X3 weighMeans -/ [
  (0, [true, true, true, false], [(.iconst 0, 1, 0, 0, 0, 0, 0), (.istore_n 3, 1, 0, 0, 0, 0, 0)]),
  (2, [true, true, true, true], [(.iload_n 3, 1, 0, 0, 0, 0, 0), (.aload_n 0, 1, 0, 0, 0, 0, 0), (.getfield 37, 3, 3, 0, 2, 0, 0), (.getfield 118, 3, 0, 7, 0, 0, 0), (.if_icmp .ge 43, 3, 53, 0, 0, 0, 0), (.aload_n 0, 1, 0, 0, 0, 0, 0), (.getfield 21, 3, 3, 4, 2, 0, 0), (.iload_n 2, 1, 0, 0, 0, 0, 0), (.iconst 1, 1, 0, 0, 0, 1, 0), (.isub, 1, 0, 0, 0, 0, 0), (.aaload, 1, 0, 0, 0, 0, 0), (.iload_n 3, 1, 0, 0, 0, 0, 0), (.aload_n 0, 1, 0, 0, 0, 0, 0), (.aload_n 0, 1, 0, 0, 0, 0, 0), (.getfield 37, 3, 3, 0, 2, 0, 0), (.iload_n 1, 1, 0, 0, 0, 0, 0), (.aload_n 0, 1, 0, 0, 0, 0, 0), (.getfield 37, 3, 3, 0, 2, 0, 0), (.getfield 121, 3, 0, 5, 2, 0, 0), (.iload_n 3, 1, 0, 0, 0, 0, 0), (.iaload, 1, 0, 0, 0, 0, 0), (.invokevirtual 124, 3, 24, 3, 1, 0, 0), (.iload_n 2, 1, 0, 0, 0, 0, 0), (.iconst 1, 1, 0, 0, 0, 1, 0), (.isub, 1, 0, 0, 0, 0, 0), (.invokevirtual 52, 3, 48, 3, 1, 0, 0), (.iastore, 1, 0, 0, 0, 0, 0), (.iinc 3 1, 3, 0, 0, 0, 1, 0), (.goto (-48), 3, 2, 0, 0, 0, 0)]),
  (53, [false, false, false, false], [(.return_, 1, 0, 0, 0, 0, 0)])
]
theorem ck_280 : (bk_280.all fun q => mm_ckr 3 cX3_weighMeans q.2.2 q.1) = true := by decide +kernel
def bk_281 : List mmB := /- X3 partsIn -/ [
  (0, [true, true, false, false], [(.iconst 1, 1, 0, 0, 0, 1, 0), (.istore_n 2, 1, 0, 0, 0, 0, 0), (.iconst 0, 1, 0, 0, 0, 0, 0), (.istore_n 3, 1, 0, 0, 0, 0, 0)]),
  (4, [true, true, true, true], [(.iload_n 3, 1, 0, 0, 0, 0, 0), (.iload_n 1, 1, 0, 0, 0, 0, 0), (.if_icmp .ge 26, 3, 32, 0, 0, 0, 0), (.iload_n 2, 1, 0, 0, 0, 0, 0), (.aload_n 0, 1, 0, 0, 0, 0, 0), (.getfield 88, 3, 3, 10, 0, 0, 0), (.aload_n 0, 1, 0, 0, 0, 0, 0), (.getfield 91, 3, 3, 11, 0, 0, 0), (.iadd, 1, 0, 0, 0, 0, 0), (.aload_n 0, 1, 0, 0, 0, 0, 0), (.getfield 94, 3, 3, 12, 0, 0, 0), (.iadd, 1, 0, 0, 0, 0, 0), (.imul, 1, 0, 0, 0, 0, 0), (.istore_n 2, 1, 0, 0, 0, 0, 0), (.iinc 3 1, 3, 0, 0, 0, 1, 0), (.goto (-25), 3, 4, 0, 0, 0, 0)]),
  (32, [false, false, true, false], [(.iload_n 2, 1, 0, 0, 0, 0, 0), (.ireturn, 1, 0, 0, 0, 0, 0)])
]
theorem ck_281 : (bk_281.all fun q => mm_ckr 3 cX3_partsIn q.2.2 q.1) = true := by decide +kernel
