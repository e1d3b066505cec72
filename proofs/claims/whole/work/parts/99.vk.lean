/-! the law's blocks -/
section VI
variable {xs : Nat → Int32} {L n l Lm n1 n2 : Nat} {b0 b1 b2 p q : Bool} {ad : Nat → Nat} {I : mmI} {J : mmJ} {T T1 : zT} {to to1 : Bool} {K K1 : Nat → Nat} {P P1 : zP} {tr t1 : Nat} {f f1 : zF}
theorem st_892 (h : HI xs L n l Lm T to K P tr f T to K P tr f b0 b1 p q n1 n2 I) (hn : 6 * n + 6 ≤ L) (hL : L ≤ 3072) (kk : LK xs L n) : mm_w (fun v _ => v = some (.int 1)) (mm_wc 210) bk_law 892 [some (.ref 68), some (.ref 0), some (.ref 46), some (.ref 65), some (.int (nI (6 * n))), none, none] [] ((mm_fl b0 b1 b2, n1, n2, p, q, ad), I, J) := by
  have ok : to = true → okR K := fun z => h.cc.ok z
  have hB : to = true → nB K ≤ 320 := fun z => nB_le (ok z)
  refine lx_892 ⟨lw_in h hn hL (j := 1) (by decide), cs_139 h (by omega) (fun x1 y1 z1 z2 c0 c1 c2 p' q' ad' l' Lm' I' J' v t hh hr => ⟨lw_in hh hn hL (j := 1) (by decide), ms_246 hh (fun x2 y2 w1 w2 I2 J2 v2 t2 hr2 hl => ?_)⟩)⟩
  simp only [h.scr] at hr
  simp only [hh.scr] at hr2
  have hu := rf_uq (fun c a b u w => va_soonest_uq (ok c.1) u w) hr hr2
  obtain ⟨e, rfl⟩ := hu
  exact ⟨fun _ => kk _ _ _ _ _ _ _ _ _ _ _ _ _ _ _ _ _ _ (hl rfl), fun e' => absurd e e'⟩
theorem st_917 (h : HI xs L n l Lm T to K P tr f T to K P tr f b0 b1 p q n1 n2 I) (hn : 6 * n + 6 ≤ L) (hL : L ≤ 3072) (kk : LK xs L n) : mm_w (fun v _ => v = some (.int 1)) (mm_wc 210) bk_law 917 [some (.ref 68), some (.ref 0), some (.ref 46), some (.ref 65), some (.int (nI (6 * n))), none, none] [] ((mm_fl b0 b1 b2, n1, n2, p, q, ad), I, J) := by
  have ok : to = true → okR K := fun z => h.cc.ok z
  have hB : to = true → nB K ≤ 320 := fun z => nB_le (ok z)
  refine lx_917 ⟨lw_in h hn hL (j := 1) (by decide), cs_140 h (by omega) (fun x1 y1 z1 z2 c0 c1 c2 p' q' ad' l' Lm' I' J' v t hh hr => ⟨lw_in hh hn hL (j := 1) (by decide), ms_247 hh (fun x2 y2 w1 w2 I2 J2 v2 t2 hr2 hl => ?_)⟩)⟩
  simp only [h.scr] at hr
  simp only [hh.scr] at hr2
  have hu := ra_few_uq hr hr2
  obtain ⟨e, rfl⟩ := hu
  exact ⟨fun _ => kk _ _ _ _ _ _ _ _ _ _ _ _ _ _ _ _ _ _ (hl rfl), fun e' => absurd e e'⟩
theorem st_942 (h : HI xs L n l Lm T to K P tr f T to K P tr f b0 b1 p q n1 n2 I) (hn : 6 * n + 6 ≤ L) (hL : L ≤ 3072) (kk : LK xs L n) : mm_w (fun v _ => v = some (.int 1)) (mm_wc 210) bk_law 942 [some (.ref 68), some (.ref 0), some (.ref 46), some (.ref 65), some (.int (nI (6 * n))), none, none] [] ((mm_fl b0 b1 b2, n1, n2, p, q, ad), I, J) := by
  have ok : to = true → okR K := fun z => h.cc.ok z
  have hB : to = true → nB K ≤ 320 := fun z => nB_le (ok z)
  refine lx_942 ⟨lw_in h hn hL (j := 1) (by decide), lw_in h hn hL (j := 2) (by decide), fun e0 => cs_141 (lo := false) (by decide) h (by omega) (fun x1 y1 z1 z2 c0 c1 c2 p' q' ad' l' Lm' I' J' v t hh hr => ⟨lw_in hh hn hL (j := 1) (by decide), lw_in hh hn hL (j := 2) (by decide), fun e1 => ms_262 (lo := false) (by decide) hh (fun x2 y2 w1 w2 I2 J2 v2 t2 hr2 hl => ?_), fun e1 => absurd ((hh.scr _).trans ((h.scr _).symm.trans e0)) e1⟩), fun e0 => cs_141 (lo := true) (by decide) h (by omega) (fun x1 y1 z1 z2 c0 c1 c2 p' q' ad' l' Lm' I' J' v t hh hr => ⟨lw_in hh hn hL (j := 1) (by decide), lw_in hh hn hL (j := 2) (by decide), fun e1 => absurd ((h.scr _).trans ((hh.scr _).symm.trans e1)) e0, fun e1 => ms_262 (lo := true) (by decide) hh (fun x2 y2 w1 w2 I2 J2 v2 t2 hr2 hl => ?_)⟩)⟩
  · simp only [h.scr] at hr
    simp only [hh.scr] at hr2
    have hu := ra_chance_uq hr hr2
    obtain ⟨e, rfl⟩ := hu
    exact ⟨fun _ => kk _ _ _ _ _ _ _ _ _ _ _ _ _ _ _ _ _ _ (hl rfl), fun e' => absurd (by rw [e]; exact lg_self _) e'⟩
  · simp only [h.scr] at hr
    simp only [hh.scr] at hr2
    have hu := ra_chance_uq hr hr2
    obtain ⟨e, rfl⟩ := hu
    exact ⟨fun _ => kk _ _ _ _ _ _ _ _ _ _ _ _ _ _ _ _ _ _ (hl rfl), fun e' => absurd (by rw [e]; exact lg_self _) e'⟩
theorem st_996 (h : HI xs L n l Lm T to K P tr f T to K P tr f b0 b1 p q n1 n2 I) (hn : 6 * n + 6 ≤ L) (hL : L ≤ 3072) (kk : LK xs L n) : mm_w (fun v _ => v = some (.int 1)) (mm_wc 210) bk_law 996 [some (.ref 68), some (.ref 0), some (.ref 46), some (.ref 65), some (.int (nI (6 * n))), none, none] [] ((mm_fl b0 b1 b2, n1, n2, p, q, ad), I, J) := by
  have ok : to = true → okR K := fun z => h.cc.ok z
  have hB : to = true → nB K ≤ 320 := fun z => nB_le (ok z)
  refine lx_996 ⟨lw_in h hn hL (j := 1) (by decide), cs_142 h (by omega) (fun x1 y1 z1 z2 c0 c1 c2 p' q' ad' l' Lm' I' J' v t hh hr => ⟨lw_in hh hn hL (j := 1) (by decide), ms_266 hh (fun x2 y2 w1 w2 I2 J2 v2 t2 hr2 hl => ?_)⟩)⟩
  simp only [h.scr] at hr
  simp only [hh.scr] at hr2
  have hu := ra_best_uq hr hr2
  obtain ⟨e, rfl⟩ := hu
  exact ⟨fun _ => kk _ _ _ _ _ _ _ _ _ _ _ _ _ _ _ _ _ _ (hl rfl), fun e' => absurd e e'⟩
theorem st_1021 (h : HI xs L n l Lm T to K P tr f T to K P tr f b0 b1 p q n1 n2 I) (hn : 6 * n + 6 ≤ L) (hL : L ≤ 3072) (kk : LK xs L n) : mm_w (fun v _ => v = some (.int 1)) (mm_wc 210) bk_law 1021 [some (.ref 68), some (.ref 0), some (.ref 46), some (.ref 65), some (.int (nI (6 * n))), none, none] [] ((mm_fl b0 b1 b2, n1, n2, p, q, ad), I, J) := by
  have ok : to = true → okR K := fun z => h.cc.ok z
  have hB : to = true → nB K ≤ 320 := fun z => nB_le (ok z)
  refine lx_1021 ⟨lw_in h hn hL (j := 1) (by decide), lw_in h hn hL (j := 2) (by decide), fun e0 => cs_143 (lo := false) (by decide) h (by omega) (fun x1 y1 z1 z2 c0 c1 c2 p' q' ad' l' Lm' I' J' v t hh hr => ⟨lw_in hh hn hL (j := 1) (by decide), lw_in hh hn hL (j := 2) (by decide), fun e1 => ms_265 (lo := false) (by decide) hh (fun x2 y2 w1 w2 I2 J2 v2 t2 hr2 hl => ?_), fun e1 => absurd ((hh.scr _).trans ((h.scr _).symm.trans e0)) e1⟩), fun e0 => cs_143 (lo := true) (by decide) h (by omega) (fun x1 y1 z1 z2 c0 c1 c2 p' q' ad' l' Lm' I' J' v t hh hr => ⟨lw_in hh hn hL (j := 1) (by decide), lw_in hh hn hL (j := 2) (by decide), fun e1 => absurd ((h.scr _).trans ((hh.scr _).symm.trans e1)) e0, fun e1 => ms_265 (lo := true) (by decide) hh (fun x2 y2 w1 w2 I2 J2 v2 t2 hr2 hl => ?_)⟩)⟩
  · simp only [h.scr] at hr
    simp only [hh.scr] at hr2
    have hu := ra_content_uq hr hr2
    obtain ⟨e, rfl⟩ := hu
    exact ⟨fun _ => kk _ _ _ _ _ _ _ _ _ _ _ _ _ _ _ _ _ _ (hl rfl), fun e' => absurd (by rw [e]; exact lg_self _) e'⟩
  · simp only [h.scr] at hr
    simp only [hh.scr] at hr2
    have hu := ra_content_uq hr hr2
    obtain ⟨e, rfl⟩ := hu
    exact ⟨fun _ => kk _ _ _ _ _ _ _ _ _ _ _ _ _ _ _ _ _ _ (hl rfl), fun e' => absurd (by rw [e]; exact lg_self _) e'⟩
theorem st_1075 (h : HI xs L n l Lm T to K P tr f T to K P tr f b0 b1 p q n1 n2 I) (hn : 6 * n + 6 ≤ L) (hL : L ≤ 3072) (kk : LK xs L n) : mm_w (fun v _ => v = some (.int 1)) (mm_wc 210) bk_law 1075 [some (.ref 68), some (.ref 0), some (.ref 46), some (.ref 65), some (.int (nI (6 * n))), none, none] [] ((mm_fl b0 b1 b2, n1, n2, p, q, ad), I, J) := by
  have ok : to = true → okR K := fun z => h.cc.ok z
  have hB : to = true → nB K ≤ 320 := fun z => nB_le (ok z)
  refine lx_1075 ⟨lw_in h hn hL (j := 1) (by decide), cs_144 h (by omega) (fun x1 y1 z1 z2 c0 c1 c2 p' q' ad' l' Lm' I' J' v t hh hr => ⟨lw_in hh hn hL (j := 1) (by decide), ms_269 hh (fun x2 y2 w1 w2 I2 J2 v2 t2 hr2 hl => ?_)⟩)⟩
  simp only [h.scr] at hr
  simp only [hh.scr] at hr2
  have hu := ra_fits_uq hr hr2
  obtain ⟨e, rfl⟩ := hu
  exact ⟨fun _ => kk _ _ _ _ _ _ _ _ _ _ _ _ _ _ _ _ _ _ (hl rfl), fun e' => absurd e e'⟩
theorem st_1100 (h : HI xs L n l Lm T to K P tr f T to K P tr f b0 b1 p q n1 n2 I) (hn : 6 * n + 6 ≤ L) (hL : L ≤ 3072) (kk : LK xs L n) : mm_w (fun v _ => v = some (.int 1)) (mm_wc 210) bk_law 1100 [some (.ref 68), some (.ref 0), some (.ref 46), some (.ref 65), some (.int (nI (6 * n))), none, none] [] ((mm_fl b0 b1 b2, n1, n2, p, q, ad), I, J) := by
  have ok : to = true → okR K := fun z => h.cc.ok z
  have hB : to = true → nB K ≤ 320 := fun z => nB_le (ok z)
  refine lx_1100 ⟨lw_in h hn hL (j := 1) (by decide), lw_in h hn hL (j := 2) (by decide), cs_145 h (by omega) (fun x1 y1 z1 z2 c0 c1 c2 p' q' ad' l' Lm' I' J' v t hh hr => ⟨lw_in hh hn hL (j := 1) (by decide), lw_in hh hn hL (j := 2) (by decide), ms_270 hh (fun x2 y2 w1 w2 I2 J2 v2 t2 hr2 hl => ?_)⟩)⟩
  simp only [h.scr] at hr
  simp only [hh.scr] at hr2
  have hu := ra_fitAt_uq hr hr2
  obtain ⟨e, rfl⟩ := hu
  exact ⟨fun _ => kk _ _ _ _ _ _ _ _ _ _ _ _ _ _ _ _ _ _ (hl rfl), fun e' => absurd e e'⟩
theorem st_1137 (h : HI xs L n l Lm T to K P tr f T to K P tr f b0 b1 p q n1 n2 I) (hn : 6 * n + 6 ≤ L) (hL : L ≤ 3072) (kk : LK xs L n) : mm_w (fun v _ => v = some (.int 1)) (mm_wc 210) bk_law 1137 [some (.ref 68), some (.ref 0), some (.ref 46), some (.ref 65), some (.int (nI (6 * n))), none, none] [] ((mm_fl b0 b1 b2, n1, n2, p, q, ad), I, J) := by
  have ok : to = true → okR K := fun z => h.cc.ok z
  have hB : to = true → nB K ≤ 320 := fun z => nB_le (ok z)
  refine lx_1137 ⟨lw_in h hn hL (j := 1) (by decide), cs_146 h (by omega) (fun x1 y1 z1 z2 c0 c1 c2 p' q' ad' l' Lm' I' J' v t hh hr => ⟨lw_in hh hn hL (j := 1) (by decide), ms_271 hh (fun x2 y2 w1 w2 I2 J2 v2 t2 hr2 hl => ?_)⟩)⟩
  simp only [h.scr] at hr
  simp only [hh.scr] at hr2
  have hu := rf_uq (fun c a b u w => va_more_uq (ok c.1) u w) hr hr2
  obtain ⟨e, rfl⟩ := hu
  exact ⟨fun _ => kk _ _ _ _ _ _ _ _ _ _ _ _ _ _ _ _ _ _ (hl rfl), fun e' => absurd e e'⟩
theorem st_1162 (h : HI xs L n l Lm T to K P tr f T to K P tr f b0 b1 p q n1 n2 I) (hn : 6 * n + 6 ≤ L) (hL : L ≤ 3072) (kk : LK xs L n) : mm_w (fun v _ => v = some (.int 1)) (mm_wc 210) bk_law 1162 [some (.ref 68), some (.ref 0), some (.ref 46), some (.ref 65), some (.int (nI (6 * n))), none, none] [] ((mm_fl b0 b1 b2, n1, n2, p, q, ad), I, J) := by
  have ok : to = true → okR K := fun z => h.cc.ok z
  have hB : to = true → nB K ≤ 320 := fun z => nB_le (ok z)
  refine lx_1162 ⟨lw_in h hn hL (j := 1) (by decide), lw_in h hn hL (j := 2) (by decide), cs_147 h (by omega) (fun x1 y1 z1 z2 c0 c1 c2 p' q' ad' l' Lm' I' J' v t hh hr => ⟨lw_in hh hn hL (j := 1) (by decide), lw_in hh hn hL (j := 2) (by decide), ms_272 hh (fun x2 y2 w1 w2 I2 J2 v2 t2 hr2 hl => ?_)⟩)⟩
  simp only [h.scr] at hr
  simp only [hh.scr] at hr2
  have hu := rf_uq (fun c a b u w => va_less_uq (ok c.1) u w) hr hr2
  obtain ⟨e, rfl⟩ := hu
  exact ⟨fun _ => kk _ _ _ _ _ _ _ _ _ _ _ _ _ _ _ _ _ _ (hl rfl), fun e' => absurd e e'⟩
theorem st_1199 (h : HI xs L n l Lm T to K P tr f T to K P tr f b0 b1 p q n1 n2 I) (hn : 6 * n + 6 ≤ L) (hL : L ≤ 3072) (kk : LK xs L n) : mm_w (fun v _ => v = some (.int 1)) (mm_wc 210) bk_law 1199 [some (.ref 68), some (.ref 0), some (.ref 46), some (.ref 65), some (.int (nI (6 * n))), none, none] [] ((mm_fl b0 b1 b2, n1, n2, p, q, ad), I, J) := by
  have ok : to = true → okR K := fun z => h.cc.ok z
  have hB : to = true → nB K ≤ 320 := fun z => nB_le (ok z)
  refine lx_1199 (cs_148 h (by omega) (fun x1 y1 z1 z2 c0 c1 c2 p' q' ad' l' Lm' I' J' v P' t hh hr => ms_273 hh (fun x2 y2 w1 w2 I2 J2 v2 P2 t2 hr2 hl => ?_)))
  have hu := ra_image_uq hr hr2
  obtain ⟨e, rfl, rfl⟩ := hu
  exact ⟨fun _ => kk _ _ _ _ _ _ _ _ _ _ _ _ _ _ _ _ _ _ (hl ⟨rfl, rfl⟩), fun e' => absurd e e'⟩
theorem st_1212 (h : HI xs L n l Lm T to K P tr f T to K P tr f b0 b1 p q n1 n2 I) (hn : 6 * n + 6 ≤ L) (hL : L ≤ 3072) (kk : LK xs L n) : mm_w (fun v _ => v = some (.int 1)) (mm_wc 210) bk_law 1212 [some (.ref 68), some (.ref 0), some (.ref 46), some (.ref 65), some (.int (nI (6 * n))), none, none] [] ((mm_fl b0 b1 b2, n1, n2, p, q, ad), I, J) := by
  have ok : to = true → okR K := fun z => h.cc.ok z
  have hB : to = true → nB K ≤ 320 := fun z => nB_le (ok z)
  refine lx_1212 ⟨lw_in h hn hL (j := 1) (by decide), cs_149 h (by omega) (fun x1 y1 z1 z2 c0 c1 c2 p' q' ad' l' Lm' I' J' v P' t hh hr => ⟨lw_in hh hn hL (j := 1) (by decide), ms_274 hh (fun x2 y2 w1 w2 I2 J2 v2 P2 t2 hr2 hl => ?_)⟩)⟩
  simp only [h.scr] at hr
  simp only [hh.scr] at hr2
  have hu := ra_back_uq h.cc.1.2.2.2.1 hr hr2
  obtain ⟨e, rfl, rfl⟩ := hu
  exact ⟨fun _ => kk _ _ _ _ _ _ _ _ _ _ _ _ _ _ _ _ _ _ (hl ⟨rfl, rfl⟩), fun e' => absurd e e'⟩
theorem st_1293 (h : HI xs L n l Lm T to K P tr f T to K P tr f b0 b1 p q n1 n2 I) (hn : 6 * n + 6 ≤ L) (hL : L ≤ 3072) (kk : LK xs L n) : mm_w (fun v _ => v = some (.int 1)) (mm_wc 210) bk_law 1293 [some (.ref 68), some (.ref 0), some (.ref 46), some (.ref 65), some (.int (nI (6 * n))), none, none] [] ((mm_fl b0 b1 b2, n1, n2, p, q, ad), I, J) := by
  have ok : to = true → okR K := fun z => h.cc.ok z
  have hB : to = true → nB K ≤ 320 := fun z => nB_le (ok z)
  refine lx_1293 ⟨lw_in h hn hL (j := 1) (by decide), cs_150 h (by omega) (fun x1 y1 z1 z2 c0 c1 c2 p' q' ad' l' Lm' I' J' v hh hr => ⟨lw_in hh hn hL (j := 1) (by decide), ms_276 hh (fun x2 y2 w1 w2 I2 J2 v2 hr2 hl => ?_)⟩)⟩
  simp only [h.scr] at hr
  simp only [hh.scr] at hr2
  have hu := va_size_uq hr hr2
  have e := hu
  exact ⟨fun _ => kk _ _ _ _ _ _ _ _ _ _ _ _ _ _ _ _ _ _ (hl trivial), fun e' => absurd e e'⟩
theorem st_1318 (h : HI xs L n l Lm T to K P tr f T to K P tr f b0 b1 p q n1 n2 I) (hn : 6 * n + 6 ≤ L) (hL : L ≤ 3072) (kk : LK xs L n) : mm_w (fun v _ => v = some (.int 1)) (mm_wc 210) bk_law 1318 [some (.ref 68), some (.ref 0), some (.ref 46), some (.ref 65), some (.int (nI (6 * n))), none, none] [] ((mm_fl b0 b1 b2, n1, n2, p, q, ad), I, J) := by
  have ok : to = true → okR K := fun z => h.cc.ok z
  have hB : to = true → nB K ≤ 320 := fun z => nB_le (ok z)
  refine lx_1318 (cs_151 h (by omega) (fun x1 y1 z1 z2 c0 c1 c2 p' q' ad' l' Lm' I' J' v hh hr => ms_277 hh (fun x2 y2 w1 w2 I2 J2 v2 hr2 hl => ?_)))
  have hu := hr.trans hr2.symm
  have e := hu
  exact ⟨fun _ => kk _ _ _ _ _ _ _ _ _ _ _ _ _ _ _ _ _ _ (hl trivial), fun e' => absurd e e'⟩
end VI
