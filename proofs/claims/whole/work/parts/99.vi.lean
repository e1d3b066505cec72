/-! the law's blocks, from what stands to what stands -/
def LK (xs : Nat → Int32) (L n : Nat) : Prop := ∀ (l Lm : Nat) (T : zT) (to : Bool) (K : Nat → Nat) (P : zP) (tr : Nat) (f : zF) (b0 b1 b2 p q : Bool) (ad : Nat → Nat) (n1 n2 : Nat) (I : mmI) (J : mmJ), HI xs L (n + 1) l Lm T to K P tr f T to K P tr f b0 b1 p q n1 n2 I → mm_w (fun v _ => v = some (.int 1)) (mm_wc 210) bk_law 1331 [some (.ref 68), some (.ref 0), some (.ref 46), some (.ref 65), some (.int (nI (6 * n))), none, none] [] ((mm_fl b0 b1 b2, n1, n2, p, q, ad), I, J)
theorem lg_self (x : Int64) : lg_cmp x x = nI 0 := by
  unfold lg_cmp
  simp
  try rfl
section VI
variable {xs : Nat → Int32} {L n l Lm n1 n2 : Nat} {b0 b1 b2 p q : Bool} {ad : Nat → Nat} {I : mmI} {J : mmJ} {T T1 : zT} {to to1 : Bool} {K K1 : Nat → Nat} {P P1 : zP} {tr t1 : Nat} {f f1 : zF}
theorem lw_in {m j : Nat} (h : HI xs L m l Lm T to K P tr f T1 to1 K1 P1 t1 f1 b0 b1 p q n1 n2 I) (hn : 6 * n + 6 ≤ L) (hL : L ≤ 3072) (hj : j < 6) : vp_in (nI (6 * n) + nI j) (I 69 0).toNatClampNeg := by
  rw [h.2.2.2.2.2.2.1, z_add, z_ix (by omega)]
  exact z_in (by omega) (by omega)
theorem st_224 (h : HI xs L n l Lm T to K P tr f T to K P tr f b0 b1 p q n1 n2 I) (hn : 6 * n + 6 ≤ L) (hL : L ≤ 3072) (kk : LK xs L n) : mm_w (fun v _ => v = some (.int 1)) (mm_wc 210) bk_law 224 [some (.ref 68), some (.ref 0), some (.ref 46), some (.ref 65), some (.int (nI (6 * n))), none, none] [] ((mm_fl b0 b1 b2, n1, n2, p, q, ad), I, J) := by
  have ok : to = true → okR K := fun z => h.cc.ok z
  have hB : to = true → nB K ≤ 320 := fun z => nB_le (ok z)
  refine lx_224 ⟨lw_in h hn hL (j := 1) (by decide), lw_in h hn hL (j := 2) (by decide), lw_in h hn hL (j := 3) (by decide), lw_in h hn hL (j := 4) (by decide), lw_in h hn hL (j := 5) (by decide), cs_111 h (by omega) (fun x1 y1 z1 z2 c0 c1 c2 p' q' ad' l' Lm' I' J' v T' hh hr => ⟨lw_in hh hn hL (j := 1) (by decide), lw_in hh hn hL (j := 2) (by decide), lw_in hh hn hL (j := 3) (by decide), lw_in hh hn hL (j := 4) (by decide), lw_in hh hn hL (j := 5) (by decide), ms_172 hh (fun x2 y2 w1 w2 I2 J2 v2 T2 hr2 hl => ?_)⟩)⟩
  simp only [h.scr] at hr
  simp only [hh.scr] at hr2
  have hu := ra_feed_uq hr hr2
  obtain ⟨e, rfl⟩ := hu
  exact ⟨fun _ => kk _ _ _ _ _ _ _ _ _ _ _ _ _ _ _ _ _ _ (hl rfl), fun e' => absurd e e'⟩
theorem st_297 (h : HI xs L n l Lm T to K P tr f T to K P tr f b0 b1 p q n1 n2 I) (hn : 6 * n + 6 ≤ L) (hL : L ≤ 3072) (kk : LK xs L n) : mm_w (fun v _ => v = some (.int 1)) (mm_wc 210) bk_law 297 [some (.ref 68), some (.ref 0), some (.ref 46), some (.ref 65), some (.int (nI (6 * n))), none, none] [] ((mm_fl b0 b1 b2, n1, n2, p, q, ad), I, J) := by
  have ok : to = true → okR K := fun z => h.cc.ok z
  have hB : to = true → nB K ≤ 320 := fun z => nB_le (ok z)
  refine lx_297 ⟨lw_in h hn hL (j := 1) (by decide), cs_112 h (by omega) (fun x1 y1 z1 z2 c0 c1 c2 p' q' ad' l' Lm' I' J' v T' to' K' P' t f' hh hr => ⟨lw_in hh hn hL (j := 1) (by decide), ms_188 hh (fun x2 y2 w1 w2 I2 J2 v2 T2 to2 K2 P2 t2 f2 hr2 hl => ?_)⟩)⟩
  simp only [h.scr] at hr
  simp only [hh.scr] at hr2
  have hu := ra_cake_uq h.cc.1.1 hr hr2
  obtain ⟨e, rfl, rfl, rfl, rfl, rfl, rfl⟩ := hu
  exact ⟨fun _ => kk _ _ _ _ _ _ _ _ _ _ _ _ _ _ _ _ _ _ (hl ⟨rfl, rfl, rfl, rfl, rfl, rfl⟩), fun e' => absurd e e'⟩
theorem st_322 (h : HI xs L n l Lm T to K P tr f T to K P tr f b0 b1 p q n1 n2 I) (hn : 6 * n + 6 ≤ L) (hL : L ≤ 3072) (kk : LK xs L n) : mm_w (fun v _ => v = some (.int 1)) (mm_wc 210) bk_law 322 [some (.ref 68), some (.ref 0), some (.ref 46), some (.ref 65), some (.int (nI (6 * n))), none, none] [] ((mm_fl b0 b1 b2, n1, n2, p, q, ad), I, J) := by
  have ok : to = true → okR K := fun z => h.cc.ok z
  have hB : to = true → nB K ≤ 320 := fun z => nB_le (ok z)
  refine lx_322 (cs_113 h (by omega) (fun x1 y1 z1 z2 c0 c1 c2 p' q' ad' l' Lm' I' J' v hh hr => ms_199 hh (fun x2 y2 w1 w2 I2 J2 v2 hr2 hl => ?_)))
  have hu := hr.trans hr2.symm
  have e := hu
  exact ⟨fun _ => kk _ _ _ _ _ _ _ _ _ _ _ _ _ _ _ _ _ _ (hl trivial), fun e' => absurd e e'⟩
theorem st_335 (h : HI xs L n l Lm T to K P tr f T to K P tr f b0 b1 p q n1 n2 I) (hn : 6 * n + 6 ≤ L) (hL : L ≤ 3072) (kk : LK xs L n) : mm_w (fun v _ => v = some (.int 1)) (mm_wc 210) bk_law 335 [some (.ref 68), some (.ref 0), some (.ref 46), some (.ref 65), some (.int (nI (6 * n))), none, none] [] ((mm_fl b0 b1 b2, n1, n2, p, q, ad), I, J) := by
  have ok : to = true → okR K := fun z => h.cc.ok z
  have hB : to = true → nB K ≤ 320 := fun z => nB_le (ok z)
  refine lx_335 (cs_114 h (by omega) (fun x1 y1 z1 z2 c0 c1 c2 p' q' ad' l' Lm' I' J' v hh hr => ms_200 hh (fun x2 y2 w1 w2 I2 J2 v2 hr2 hl => ?_)))
  have hu := hr.trans hr2.symm
  have e := hu
  exact ⟨fun _ => kk _ _ _ _ _ _ _ _ _ _ _ _ _ _ _ _ _ _ (hl trivial), fun e' => absurd e e'⟩
theorem st_348 (h : HI xs L n l Lm T to K P tr f T to K P tr f b0 b1 p q n1 n2 I) (hn : 6 * n + 6 ≤ L) (hL : L ≤ 3072) (kk : LK xs L n) : mm_w (fun v _ => v = some (.int 1)) (mm_wc 210) bk_law 348 [some (.ref 68), some (.ref 0), some (.ref 46), some (.ref 65), some (.int (nI (6 * n))), none, none] [] ((mm_fl b0 b1 b2, n1, n2, p, q, ad), I, J) := by
  have ok : to = true → okR K := fun z => h.cc.ok z
  have hB : to = true → nB K ≤ 320 := fun z => nB_le (ok z)
  refine lx_348 ⟨lw_in h hn hL (j := 1) (by decide), lw_in h hn hL (j := 2) (by decide), cs_115 h (by omega) (fun x1 y1 z1 z2 c0 c1 c2 p' q' ad' l' Lm' I' J' v t hh hr => ⟨lw_in hh hn hL (j := 1) (by decide), lw_in hh hn hL (j := 2) (by decide), ms_215 hh (fun x2 y2 w1 w2 I2 J2 v2 t2 hr2 hl => ?_)⟩)⟩
  simp only [h.scr] at hr
  simp only [hh.scr] at hr2
  have hu := rf_uq (fun c a b u w => va_candle_uq (ok c.1) u w) hr hr2
  obtain ⟨e, rfl⟩ := hu
  exact ⟨fun _ => kk _ _ _ _ _ _ _ _ _ _ _ _ _ _ _ _ _ _ (hl rfl), fun e' => absurd e e'⟩
theorem st_385 (h : HI xs L n l Lm T to K P tr f T to K P tr f b0 b1 p q n1 n2 I) (hn : 6 * n + 6 ≤ L) (hL : L ≤ 3072) (kk : LK xs L n) : mm_w (fun v _ => v = some (.int 1)) (mm_wc 210) bk_law 385 [some (.ref 68), some (.ref 0), some (.ref 46), some (.ref 65), some (.int (nI (6 * n))), none, none] [] ((mm_fl b0 b1 b2, n1, n2, p, q, ad), I, J) := by
  have ok : to = true → okR K := fun z => h.cc.ok z
  have hB : to = true → nB K ≤ 320 := fun z => nB_le (ok z)
  refine lx_385 ⟨lw_in h hn hL (j := 1) (by decide), cs_116 h (by omega) (fun x1 y1 z1 z2 c0 c1 c2 p' q' ad' l' Lm' I' J' v t hh hr => ⟨lw_in hh hn hL (j := 1) (by decide), ms_216 hh (fun x2 y2 w1 w2 I2 J2 v2 t2 hr2 hl => ?_)⟩)⟩
  simp only [h.scr] at hr
  simp only [hh.scr] at hr2
  have hu := rf_uq (fun c a b u w => va_fan_uq (ok c.1) u w) hr hr2
  obtain ⟨e, rfl⟩ := hu
  exact ⟨fun _ => kk _ _ _ _ _ _ _ _ _ _ _ _ _ _ _ _ _ _ (hl rfl), fun e' => absurd e e'⟩
theorem st_410 (h : HI xs L n l Lm T to K P tr f T to K P tr f b0 b1 p q n1 n2 I) (hn : 6 * n + 6 ≤ L) (hL : L ≤ 3072) (kk : LK xs L n) : mm_w (fun v _ => v = some (.int 1)) (mm_wc 210) bk_law 410 [some (.ref 68), some (.ref 0), some (.ref 46), some (.ref 65), some (.int (nI (6 * n))), none, none] [] ((mm_fl b0 b1 b2, n1, n2, p, q, ad), I, J) := by
  have ok : to = true → okR K := fun z => h.cc.ok z
  have hB : to = true → nB K ≤ 320 := fun z => nB_le (ok z)
  refine lx_410 ⟨lw_in h hn hL (j := 1) (by decide), lw_in h hn hL (j := 2) (by decide), lw_in h hn hL (j := 3) (by decide), cs_117 h (by omega) (fun x1 y1 z1 z2 c0 c1 c2 p' q' ad' l' Lm' I' J' v t hh hr => ⟨lw_in hh hn hL (j := 1) (by decide), lw_in hh hn hL (j := 2) (by decide), lw_in hh hn hL (j := 3) (by decide), ms_217 hh (fun x2 y2 w1 w2 I2 J2 v2 t2 hr2 hl => ?_)⟩)⟩
  simp only [h.scr] at hr
  simp only [hh.scr] at hr2
  have hu := rf_uq (fun c a b u w => va_breath_uq (ok c.1) u w) hr hr2
  obtain ⟨e, rfl⟩ := hu
  exact ⟨fun _ => kk _ _ _ _ _ _ _ _ _ _ _ _ _ _ _ _ _ _ (hl rfl), fun e' => absurd e e'⟩
theorem st_459 (h : HI xs L n l Lm T to K P tr f T to K P tr f b0 b1 p q n1 n2 I) (hn : 6 * n + 6 ≤ L) (hL : L ≤ 3072) (kk : LK xs L n) : mm_w (fun v _ => v = some (.int 1)) (mm_wc 210) bk_law 459 [some (.ref 68), some (.ref 0), some (.ref 46), some (.ref 65), some (.int (nI (6 * n))), none, none] [] ((mm_fl b0 b1 b2, n1, n2, p, q, ad), I, J) := by
  have ok : to = true → okR K := fun z => h.cc.ok z
  have hB : to = true → nB K ≤ 320 := fun z => nB_le (ok z)
  refine lx_459 ⟨lw_in h hn hL (j := 1) (by decide), lw_in h hn hL (j := 2) (by decide), cs_118 h (by omega) (fun x1 y1 z1 z2 c0 c1 c2 p' q' ad' l' Lm' I' J' v t hh hr => ⟨lw_in hh hn hL (j := 1) (by decide), lw_in hh hn hL (j := 2) (by decide), ms_218 hh (fun x2 y2 w1 w2 I2 J2 v2 t2 hr2 hl => ?_)⟩)⟩
  simp only [h.scr] at hr
  simp only [hh.scr] at hr2
  have hu := rf_uq (fun c a b u w => va_breathOf_uq (ok c.1) u w) hr hr2
  obtain ⟨e, rfl⟩ := hu
  exact ⟨fun _ => kk _ _ _ _ _ _ _ _ _ _ _ _ _ _ _ _ _ _ (hl rfl), fun e' => absurd e e'⟩
theorem st_496 (h : HI xs L n l Lm T to K P tr f T to K P tr f b0 b1 p q n1 n2 I) (hn : 6 * n + 6 ≤ L) (hL : L ≤ 3072) (kk : LK xs L n) : mm_w (fun v _ => v = some (.int 1)) (mm_wc 210) bk_law 496 [some (.ref 68), some (.ref 0), some (.ref 46), some (.ref 65), some (.int (nI (6 * n))), none, none] [] ((mm_fl b0 b1 b2, n1, n2, p, q, ad), I, J) := by
  have ok : to = true → okR K := fun z => h.cc.ok z
  have hB : to = true → nB K ≤ 320 := fun z => nB_le (ok z)
  refine lx_496 (cs_119 h (by omega) (fun x1 y1 z1 z2 c0 c1 c2 p' q' ad' l' Lm' I' J' v t hh hr => ms_219 hh (fun x2 y2 w1 w2 I2 J2 v2 t2 hr2 hl => ?_)))
  have hu := rf_uq (fun c a b u w => u.trans w.symm) hr hr2
  obtain ⟨e, rfl⟩ := hu
  exact ⟨fun _ => kk _ _ _ _ _ _ _ _ _ _ _ _ _ _ _ _ _ _ (hl rfl), fun e' => absurd e e'⟩
theorem st_509 (h : HI xs L n l Lm T to K P tr f T to K P tr f b0 b1 p q n1 n2 I) (hn : 6 * n + 6 ≤ L) (hL : L ≤ 3072) (kk : LK xs L n) : mm_w (fun v _ => v = some (.int 1)) (mm_wc 210) bk_law 509 [some (.ref 68), some (.ref 0), some (.ref 46), some (.ref 65), some (.int (nI (6 * n))), none, none] [] ((mm_fl b0 b1 b2, n1, n2, p, q, ad), I, J) := by
  have ok : to = true → okR K := fun z => h.cc.ok z
  have hB : to = true → nB K ≤ 320 := fun z => nB_le (ok z)
  refine lx_509 (cs_120 h (by omega) (fun x1 y1 z1 z2 c0 c1 c2 p' q' ad' l' Lm' I' J' v t hh hr => ms_220 hh (fun x2 y2 w1 w2 I2 J2 v2 t2 hr2 hl => ?_)))
  have hu := rf_uq (fun c a b u w => u.trans w.symm) hr hr2
  obtain ⟨e, rfl⟩ := hu
  exact ⟨fun _ => kk _ _ _ _ _ _ _ _ _ _ _ _ _ _ _ _ _ _ (hl rfl), fun e' => absurd e e'⟩
theorem st_522 (h : HI xs L n l Lm T to K P tr f T to K P tr f b0 b1 p q n1 n2 I) (hn : 6 * n + 6 ≤ L) (hL : L ≤ 3072) (kk : LK xs L n) : mm_w (fun v _ => v = some (.int 1)) (mm_wc 210) bk_law 522 [some (.ref 68), some (.ref 0), some (.ref 46), some (.ref 65), some (.int (nI (6 * n))), none, none] [] ((mm_fl b0 b1 b2, n1, n2, p, q, ad), I, J) := by
  have ok : to = true → okR K := fun z => h.cc.ok z
  have hB : to = true → nB K ≤ 320 := fun z => nB_le (ok z)
  refine lx_522 ⟨lw_in h hn hL (j := 1) (by decide), lw_in h hn hL (j := 2) (by decide), fun e0 => cs_121 (it := false) (by decide) h (by omega) (fun x1 y1 z1 z2 c0 c1 c2 p' q' ad' l' Lm' I' J' v t hh hr => ⟨lw_in hh hn hL (j := 1) (by decide), lw_in hh hn hL (j := 2) (by decide), fun e1 => ms_221 (it := false) (by decide) hh (fun x2 y2 w1 w2 I2 J2 v2 t2 hr2 hl => ?_), fun e1 => absurd ((hh.scr _).trans ((h.scr _).symm.trans e0)) e1⟩), fun e0 => cs_121 (it := true) (by decide) h (by omega) (fun x1 y1 z1 z2 c0 c1 c2 p' q' ad' l' Lm' I' J' v t hh hr => ⟨lw_in hh hn hL (j := 1) (by decide), lw_in hh hn hL (j := 2) (by decide), fun e1 => absurd ((h.scr _).trans ((hh.scr _).symm.trans e1)) e0, fun e1 => ms_221 (it := true) (by decide) hh (fun x2 y2 w1 w2 I2 J2 v2 t2 hr2 hl => ?_)⟩)⟩
  · simp only [h.scr] at hr
    simp only [hh.scr] at hr2
    have hu := rf_uq (fun c a b u w => va_lights_uq (ok c.1) u w) hr hr2
    obtain ⟨e, rfl⟩ := hu
    exact ⟨fun _ => kk _ _ _ _ _ _ _ _ _ _ _ _ _ _ _ _ _ _ (hl rfl), fun e' => absurd e e'⟩
  · simp only [h.scr] at hr
    simp only [hh.scr] at hr2
    have hu := rf_uq (fun c a b u w => va_lights_uq (ok c.1) u w) hr hr2
    obtain ⟨e, rfl⟩ := hu
    exact ⟨fun _ => kk _ _ _ _ _ _ _ _ _ _ _ _ _ _ _ _ _ _ (hl rfl), fun e' => absurd e e'⟩
theorem st_575 (h : HI xs L n l Lm T to K P tr f T to K P tr f b0 b1 p q n1 n2 I) (hn : 6 * n + 6 ≤ L) (hL : L ≤ 3072) (kk : LK xs L n) : mm_w (fun v _ => v = some (.int 1)) (mm_wc 210) bk_law 575 [some (.ref 68), some (.ref 0), some (.ref 46), some (.ref 65), some (.int (nI (6 * n))), none, none] [] ((mm_fl b0 b1 b2, n1, n2, p, q, ad), I, J) := by
  have ok : to = true → okR K := fun z => h.cc.ok z
  have hB : to = true → nB K ≤ 320 := fun z => nB_le (ok z)
  refine lx_575 (cs_122 h (by omega) (fun x1 y1 z1 z2 c0 c1 c2 p' q' ad' l' Lm' I' J' v t hh hr => ms_222 hh (fun x2 y2 w1 w2 I2 J2 v2 t2 hr2 hl => ?_)))
  have hu := rf_uq (fun c a b u w => u.trans w.symm) hr hr2
  obtain ⟨e, rfl⟩ := hu
  exact ⟨fun _ => kk _ _ _ _ _ _ _ _ _ _ _ _ _ _ _ _ _ _ (hl rfl), fun e' => absurd e e'⟩
theorem st_588 (h : HI xs L n l Lm T to K P tr f T to K P tr f b0 b1 p q n1 n2 I) (hn : 6 * n + 6 ≤ L) (hL : L ≤ 3072) (kk : LK xs L n) : mm_w (fun v _ => v = some (.int 1)) (mm_wc 210) bk_law 588 [some (.ref 68), some (.ref 0), some (.ref 46), some (.ref 65), some (.int (nI (6 * n))), none, none] [] ((mm_fl b0 b1 b2, n1, n2, p, q, ad), I, J) := by
  have ok : to = true → okR K := fun z => h.cc.ok z
  have hB : to = true → nB K ≤ 320 := fun z => nB_le (ok z)
  refine lx_588 (cs_123 h (by omega) (fun x1 y1 z1 z2 c0 c1 c2 p' q' ad' l' Lm' I' J' v t hh hr => ms_223 hh (fun x2 y2 w1 w2 I2 J2 v2 t2 hr2 hl => ?_)))
  have hu := rf_uq (fun c a b u w => u.trans w.symm) hr hr2
  obtain ⟨e, rfl⟩ := hu
  exact ⟨fun _ => kk _ _ _ _ _ _ _ _ _ _ _ _ _ _ _ _ _ _ (hl rfl), fun e' => absurd e e'⟩
theorem st_601 (h : HI xs L n l Lm T to K P tr f T to K P tr f b0 b1 p q n1 n2 I) (hn : 6 * n + 6 ≤ L) (hL : L ≤ 3072) (kk : LK xs L n) : mm_w (fun v _ => v = some (.int 1)) (mm_wc 210) bk_law 601 [some (.ref 68), some (.ref 0), some (.ref 46), some (.ref 65), some (.int (nI (6 * n))), none, none] [] ((mm_fl b0 b1 b2, n1, n2, p, q, ad), I, J) := by
  have ok : to = true → okR K := fun z => h.cc.ok z
  have hB : to = true → nB K ≤ 320 := fun z => nB_le (ok z)
  refine lx_601 ⟨lw_in h hn hL (j := 1) (by decide), cs_124 h (by omega) (fun x1 y1 z1 z2 c0 c1 c2 p' q' ad' l' Lm' I' J' v t hh hr => ⟨lw_in hh hn hL (j := 1) (by decide), ms_226 hh (fun x2 y2 w1 w2 I2 J2 v2 t2 hr2 hl => ?_)⟩)⟩
  simp only [h.scr] at hr
  simp only [hh.scr] at hr2
  have hu := ra_gain_uq hB hr hr2
  obtain ⟨e, rfl⟩ := hu
  exact ⟨fun _ => kk _ _ _ _ _ _ _ _ _ _ _ _ _ _ _ _ _ _ (hl rfl), fun e' => absurd e e'⟩
end VI
