/-! the law's blocks -/
section VI
variable {xs : Nat → Int32} {L n l Lm n1 n2 : Nat} {b0 b1 b2 p q : Bool} {ad : Nat → Nat} {I : mmI} {J : mmJ} {T T1 : zT} {to to1 : Bool} {K K1 : Nat → Nat} {P P1 : zP} {tr t1 : Nat} {f f1 : zF}
theorem st_626 (h : HI xs L n l Lm T to K P tr f T to K P tr f b0 b1 p q n1 n2 I) (hn : 6 * n + 6 ≤ L) (hL : L ≤ 3072) (kk : LK xs L n) : mm_w (fun v _ => v = some (.int 1)) (mm_wc 210) bk_law 626 [some (.ref 68), some (.ref 0), some (.ref 46), some (.ref 65), some (.int (nI (6 * n))), none, none] [] ((mm_fl b0 b1 b2, n1, n2, p, q, ad), I, J) := by
  have ok : to = true → okR K := fun z => h.cc.ok z
  have hB : to = true → nB K ≤ 320 := fun z => nB_le (ok z)
  refine lx_626 (cs_125 h (by omega) (fun x1 y1 z1 z2 c0 c1 c2 p' q' ad' l' Lm' I' J' v t hh hr => ms_228 hh (fun x2 y2 w1 w2 I2 J2 v2 t2 hr2 hl => ?_)))
  have hu := rf_uq (fun c a b u w => va_greedy_uq u w) hr hr2
  obtain ⟨e, rfl⟩ := hu
  exact ⟨fun _ => kk _ _ _ _ _ _ _ _ _ _ _ _ _ _ _ _ _ _ (hl rfl), fun e' => absurd e e'⟩
theorem st_639 (h : HI xs L n l Lm T to K P tr f T to K P tr f b0 b1 p q n1 n2 I) (hn : 6 * n + 6 ≤ L) (hL : L ≤ 3072) (kk : LK xs L n) : mm_w (fun v _ => v = some (.int 1)) (mm_wc 210) bk_law 639 [some (.ref 68), some (.ref 0), some (.ref 46), some (.ref 65), some (.int (nI (6 * n))), none, none] [] ((mm_fl b0 b1 b2, n1, n2, p, q, ad), I, J) := by
  have ok : to = true → okR K := fun z => h.cc.ok z
  have hB : to = true → nB K ≤ 320 := fun z => nB_le (ok z)
  refine lx_639 ⟨lw_in h hn hL (j := 1) (by decide), cs_126 h (by omega) (fun x1 y1 z1 z2 c0 c1 c2 p' q' ad' l' Lm' I' J' v P' t hh hr => ⟨lw_in hh hn hL (j := 1) (by decide), ms_230 hh (fun x2 y2 w1 w2 I2 J2 v2 P2 t2 hr2 hl => ?_)⟩)⟩
  simp only [h.scr] at hr
  simp only [hh.scr] at hr2
  have hu := ra_blow_uq hB hr hr2
  obtain ⟨e, rfl, rfl⟩ := hu
  exact ⟨fun _ => kk _ _ _ _ _ _ _ _ _ _ _ _ _ _ _ _ _ _ (hl ⟨rfl, rfl⟩), fun e' => absurd e e'⟩
theorem st_664 (h : HI xs L n l Lm T to K P tr f T to K P tr f b0 b1 p q n1 n2 I) (hn : 6 * n + 6 ≤ L) (hL : L ≤ 3072) (kk : LK xs L n) : mm_w (fun v _ => v = some (.int 1)) (mm_wc 210) bk_law 664 [some (.ref 68), some (.ref 0), some (.ref 46), some (.ref 65), some (.int (nI (6 * n))), none, none] [] ((mm_fl b0 b1 b2, n1, n2, p, q, ad), I, J) := by
  have ok : to = true → okR K := fun z => h.cc.ok z
  have hB : to = true → nB K ≤ 320 := fun z => nB_le (ok z)
  refine lx_664 ⟨lw_in h hn hL (j := 1) (by decide), cs_127 h (by omega) (fun x1 y1 z1 z2 c0 c1 c2 p' q' ad' l' Lm' I' J' v P' t hh hr => ⟨lw_in hh hn hL (j := 1) (by decide), ms_231 hh (fun x2 y2 w1 w2 I2 J2 v2 P2 t2 hr2 hl => ?_)⟩)⟩
  simp only [h.scr] at hr
  simp only [hh.scr] at hr2
  have hu := ra_light_uq (fun z => (ok z).c.2) hr hr2
  obtain ⟨e, rfl, rfl⟩ := hu
  exact ⟨fun _ => kk _ _ _ _ _ _ _ _ _ _ _ _ _ _ _ _ _ _ (hl ⟨rfl, rfl⟩), fun e' => absurd e e'⟩
theorem st_689 (h : HI xs L n l Lm T to K P tr f T to K P tr f b0 b1 p q n1 n2 I) (hn : 6 * n + 6 ≤ L) (hL : L ≤ 3072) (kk : LK xs L n) : mm_w (fun v _ => v = some (.int 1)) (mm_wc 210) bk_law 689 [some (.ref 68), some (.ref 0), some (.ref 46), some (.ref 65), some (.int (nI (6 * n))), none, none] [] ((mm_fl b0 b1 b2, n1, n2, p, q, ad), I, J) := by
  have ok : to = true → okR K := fun z => h.cc.ok z
  have hB : to = true → nB K ≤ 320 := fun z => nB_le (ok z)
  refine lx_689 (cs_128 h (by omega) (fun x1 y1 z1 z2 c0 c1 c2 p' q' ad' l' Lm' I' J' v P' t hh hr => ms_232 hh (fun x2 y2 w1 w2 I2 J2 v2 P2 t2 hr2 hl => ?_)))
  have hu := ra_all_uq hr hr2
  obtain ⟨e, rfl, rfl⟩ := hu
  exact ⟨fun _ => kk _ _ _ _ _ _ _ _ _ _ _ _ _ _ _ _ _ _ (hl ⟨rfl, rfl⟩), fun e' => absurd e e'⟩
theorem st_702 (h : HI xs L n l Lm T to K P tr f T to K P tr f b0 b1 p q n1 n2 I) (hn : 6 * n + 6 ≤ L) (hL : L ≤ 3072) (kk : LK xs L n) : mm_w (fun v _ => v = some (.int 1)) (mm_wc 210) bk_law 702 [some (.ref 68), some (.ref 0), some (.ref 46), some (.ref 65), some (.int (nI (6 * n))), none, none] [] ((mm_fl b0 b1 b2, n1, n2, p, q, ad), I, J) := by
  have ok : to = true → okR K := fun z => h.cc.ok z
  have hB : to = true → nB K ≤ 320 := fun z => nB_le (ok z)
  refine lx_702 (cs_129 h (by omega) (fun x1 y1 z1 z2 c0 c1 c2 p' q' ad' l' Lm' I' J' v P' t hh hr => ms_233 hh (fun x2 y2 w1 w2 I2 J2 v2 P2 t2 hr2 hl => ?_)))
  have hu := ra_undo_uq hr hr2
  obtain ⟨e, rfl, rfl⟩ := hu
  exact ⟨fun _ => kk _ _ _ _ _ _ _ _ _ _ _ _ _ _ _ _ _ _ (hl ⟨rfl, rfl⟩), fun e' => absurd e e'⟩
theorem st_715 (h : HI xs L n l Lm T to K P tr f T to K P tr f b0 b1 p q n1 n2 I) (hn : 6 * n + 6 ≤ L) (hL : L ≤ 3072) (kk : LK xs L n) : mm_w (fun v _ => v = some (.int 1)) (mm_wc 210) bk_law 715 [some (.ref 68), some (.ref 0), some (.ref 46), some (.ref 65), some (.int (nI (6 * n))), none, none] [] ((mm_fl b0 b1 b2, n1, n2, p, q, ad), I, J) := by
  have ok : to = true → okR K := fun z => h.cc.ok z
  have hB : to = true → nB K ≤ 320 := fun z => nB_le (ok z)
  refine lx_715 (cs_130 h (by omega) (fun x1 y1 z1 z2 c0 c1 c2 p' q' ad' l' Lm' I' J' v t hh hr => ms_241 hh (fun x2 y2 w1 w2 I2 J2 v2 t2 hr2 hl => ?_)))
  have hu := rf_uq (fun c a b u w => isD.uq u w) hr hr2
  obtain ⟨e, rfl⟩ := hu
  exact ⟨fun _ => kk _ _ _ _ _ _ _ _ _ _ _ _ _ _ _ _ _ _ (hl rfl), fun e' => absurd e e'⟩
theorem st_728 (h : HI xs L n l Lm T to K P tr f T to K P tr f b0 b1 p q n1 n2 I) (hn : 6 * n + 6 ≤ L) (hL : L ≤ 3072) (kk : LK xs L n) : mm_w (fun v _ => v = some (.int 1)) (mm_wc 210) bk_law 728 [some (.ref 68), some (.ref 0), some (.ref 46), some (.ref 65), some (.int (nI (6 * n))), none, none] [] ((mm_fl b0 b1 b2, n1, n2, p, q, ad), I, J) := by
  have ok : to = true → okR K := fun z => h.cc.ok z
  have hB : to = true → nB K ≤ 320 := fun z => nB_le (ok z)
  refine lx_728 ⟨lw_in h hn hL (j := 1) (by decide), cs_131 h (by omega) (fun x1 y1 z1 z2 c0 c1 c2 p' q' ad' l' Lm' I' J' v t hh hr => ⟨lw_in hh hn hL (j := 1) (by decide), ms_242 hh (fun x2 y2 w1 w2 I2 J2 v2 t2 hr2 hl => ?_)⟩)⟩
  simp only [h.scr] at hr
  simp only [hh.scr] at hr2
  have hu := ra_row_uq hr hr2
  obtain ⟨e, rfl⟩ := hu
  exact ⟨fun _ => kk _ _ _ _ _ _ _ _ _ _ _ _ _ _ _ _ _ _ (hl rfl), fun e' => absurd e e'⟩
theorem st_753 (h : HI xs L n l Lm T to K P tr f T to K P tr f b0 b1 p q n1 n2 I) (hn : 6 * n + 6 ≤ L) (hL : L ≤ 3072) (kk : LK xs L n) : mm_w (fun v _ => v = some (.int 1)) (mm_wc 210) bk_law 753 [some (.ref 68), some (.ref 0), some (.ref 46), some (.ref 65), some (.int (nI (6 * n))), none, none] [] ((mm_fl b0 b1 b2, n1, n2, p, q, ad), I, J) := by
  have ok : to = true → okR K := fun z => h.cc.ok z
  have hB : to = true → nB K ≤ 320 := fun z => nB_le (ok z)
  refine lx_753 ⟨lw_in h hn hL (j := 1) (by decide), cs_132 h (by omega) (fun x1 y1 z1 z2 c0 c1 c2 p' q' ad' l' Lm' I' J' v t hh hr => ⟨lw_in hh hn hL (j := 1) (by decide), ms_244 hh (fun x2 y2 w1 w2 I2 J2 v2 t2 hr2 hl => ?_)⟩)⟩
  simp only [h.scr] at hr
  simp only [hh.scr] at hr2
  have hu := rf_uq (fun c a b u w => va_from_uq (ok c.1) u w) hr hr2
  obtain ⟨e, rfl⟩ := hu
  exact ⟨fun _ => kk _ _ _ _ _ _ _ _ _ _ _ _ _ _ _ _ _ _ (hl rfl), fun e' => absurd e e'⟩
theorem st_778 (h : HI xs L n l Lm T to K P tr f T to K P tr f b0 b1 p q n1 n2 I) (hn : 6 * n + 6 ≤ L) (hL : L ≤ 3072) (kk : LK xs L n) : mm_w (fun v _ => v = some (.int 1)) (mm_wc 210) bk_law 778 [some (.ref 68), some (.ref 0), some (.ref 46), some (.ref 65), some (.int (nI (6 * n))), none, none] [] ((mm_fl b0 b1 b2, n1, n2, p, q, ad), I, J) := by
  have ok : to = true → okR K := fun z => h.cc.ok z
  have hB : to = true → nB K ≤ 320 := fun z => nB_le (ok z)
  refine lx_778 ⟨lw_in h hn hL (j := 1) (by decide), cs_133 h (by omega) (fun x1 y1 z1 z2 c0 c1 c2 p' q' ad' l' Lm' I' J' v t hh hr => ⟨lw_in hh hn hL (j := 1) (by decide), ms_245 hh (fun x2 y2 w1 w2 I2 J2 v2 t2 hr2 hl => ?_)⟩)⟩
  simp only [h.scr] at hr
  simp only [hh.scr] at hr2
  have hu := rf_uq (fun c a b u w => va_by_uq (ok c.1) u w) hr hr2
  obtain ⟨e, rfl⟩ := hu
  exact ⟨fun _ => kk _ _ _ _ _ _ _ _ _ _ _ _ _ _ _ _ _ _ (hl rfl), fun e' => absurd e e'⟩
theorem st_803 (h : HI xs L n l Lm T to K P tr f T to K P tr f b0 b1 p q n1 n2 I) (hn : 6 * n + 6 ≤ L) (hL : L ≤ 3072) (kk : LK xs L n) : mm_w (fun v _ => v = some (.int 1)) (mm_wc 210) bk_law 803 [some (.ref 68), some (.ref 0), some (.ref 46), some (.ref 65), some (.int (nI (6 * n))), none, none] [] ((mm_fl b0 b1 b2, n1, n2, p, q, ad), I, J) := by
  have ok : to = true → okR K := fun z => h.cc.ok z
  have hB : to = true → nB K ≤ 320 := fun z => nB_le (ok z)
  refine lx_803 (cs_134 h (by omega) (fun x1 y1 z1 z2 c0 c1 c2 p' q' ad' l' Lm' I' J' v t hh hr => ms_248 hh (fun x2 y2 w1 w2 I2 J2 v2 t2 hr2 hl => ?_)))
  have hu := rf_uq (fun c a b u w => va_inTime_uq u w) hr hr2
  obtain ⟨e, rfl⟩ := hu
  exact ⟨fun _ => kk _ _ _ _ _ _ _ _ _ _ _ _ _ _ _ _ _ _ (hl rfl), fun e' => absurd e e'⟩
theorem st_816 (h : HI xs L n l Lm T to K P tr f T to K P tr f b0 b1 p q n1 n2 I) (hn : 6 * n + 6 ≤ L) (hL : L ≤ 3072) (kk : LK xs L n) : mm_w (fun v _ => v = some (.int 1)) (mm_wc 210) bk_law 816 [some (.ref 68), some (.ref 0), some (.ref 46), some (.ref 65), some (.int (nI (6 * n))), none, none] [] ((mm_fl b0 b1 b2, n1, n2, p, q, ad), I, J) := by
  have ok : to = true → okR K := fun z => h.cc.ok z
  have hB : to = true → nB K ≤ 320 := fun z => nB_le (ok z)
  refine lx_816 ⟨lw_in h hn hL (j := 1) (by decide), lw_in h hn hL (j := 2) (by decide), cs_135 h (by omega) (fun x1 y1 z1 z2 c0 c1 c2 p' q' ad' l' Lm' I' J' v t hh hr => ⟨lw_in hh hn hL (j := 1) (by decide), lw_in hh hn hL (j := 2) (by decide), ms_250 hh (fun x2 y2 w1 w2 I2 J2 v2 t2 hr2 hl => ?_)⟩)⟩
  simp only [h.scr] at hr
  simp only [hh.scr] at hr2
  have hu := rf_uq (fun c a b u w => va_walk_uq (ok c.1) u w) hr hr2
  obtain ⟨e, rfl⟩ := hu
  exact ⟨fun _ => kk _ _ _ _ _ _ _ _ _ _ _ _ _ _ _ _ _ _ (hl rfl), fun e' => absurd e e'⟩
theorem st_853 (h : HI xs L n l Lm T to K P tr f T to K P tr f b0 b1 p q n1 n2 I) (hn : 6 * n + 6 ≤ L) (hL : L ≤ 3072) (kk : LK xs L n) : mm_w (fun v _ => v = some (.int 1)) (mm_wc 210) bk_law 853 [some (.ref 68), some (.ref 0), some (.ref 46), some (.ref 65), some (.int (nI (6 * n))), none, none] [] ((mm_fl b0 b1 b2, n1, n2, p, q, ad), I, J) := by
  have ok : to = true → okR K := fun z => h.cc.ok z
  have hB : to = true → nB K ≤ 320 := fun z => nB_le (ok z)
  refine lx_853 (cs_136 h (by omega) (fun x1 y1 z1 z2 c0 c1 c2 p' q' ad' l' Lm' I' J' v t hh hr => ms_252 hh (fun x2 y2 w1 w2 I2 J2 v2 t2 hr2 hl => ?_)))
  have hu := rf_uq (fun c a b u w => va_each.uq (ok c) u w) hr hr2
  obtain ⟨e, rfl⟩ := hu
  exact ⟨fun _ => kk _ _ _ _ _ _ _ _ _ _ _ _ _ _ _ _ _ _ (hl rfl), fun e' => absurd e e'⟩
theorem st_866 (h : HI xs L n l Lm T to K P tr f T to K P tr f b0 b1 p q n1 n2 I) (hn : 6 * n + 6 ≤ L) (hL : L ≤ 3072) (kk : LK xs L n) : mm_w (fun v _ => v = some (.int 1)) (mm_wc 210) bk_law 866 [some (.ref 68), some (.ref 0), some (.ref 46), some (.ref 65), some (.int (nI (6 * n))), none, none] [] ((mm_fl b0 b1 b2, n1, n2, p, q, ad), I, J) := by
  have ok : to = true → okR K := fun z => h.cc.ok z
  have hB : to = true → nB K ≤ 320 := fun z => nB_le (ok z)
  refine lx_866 (cs_137 h (by omega) (fun x1 y1 z1 z2 c0 c1 c2 p' q' ad' l' Lm' I' J' v t hh hr => ms_253 hh (fun x2 y2 w1 w2 I2 J2 v2 t2 hr2 hl => ?_)))
  have hu := rf_uq (fun c a b u w => isT.uq u w) hr hr2
  obtain ⟨e, rfl⟩ := hu
  exact ⟨fun _ => kk _ _ _ _ _ _ _ _ _ _ _ _ _ _ _ _ _ _ (hl rfl), fun e' => absurd e e'⟩
theorem st_879 (h : HI xs L n l Lm T to K P tr f T to K P tr f b0 b1 p q n1 n2 I) (hn : 6 * n + 6 ≤ L) (hL : L ≤ 3072) (kk : LK xs L n) : mm_w (fun v _ => v = some (.int 1)) (mm_wc 210) bk_law 879 [some (.ref 68), some (.ref 0), some (.ref 46), some (.ref 65), some (.int (nI (6 * n))), none, none] [] ((mm_fl b0 b1 b2, n1, n2, p, q, ad), I, J) := by
  have ok : to = true → okR K := fun z => h.cc.ok z
  have hB : to = true → nB K ≤ 320 := fun z => nB_le (ok z)
  refine lx_879 (cs_138 h (by omega) (fun x1 y1 z1 z2 c0 c1 c2 p' q' ad' l' Lm' I' J' v t hh hr => ms_254 hh (fun x2 y2 w1 w2 I2 J2 v2 t2 hr2 hl => ?_)))
  have hu := rf_uq (fun c a b u w => va_gEnd_uq u w) hr hr2
  obtain ⟨e, rfl⟩ := hu
  exact ⟨fun _ => kk _ _ _ _ _ _ _ _ _ _ _ _ _ _ _ _ _ _ (hl rfl), fun e' => absurd e e'⟩
end VI
