/-! the law's loop -/
theorem lw_go {L n : Nat} (hL : L ≤ 3072) (hn : 6 * n ≤ L) : (nI L - nI 6 < nI (6 * n)) = ¬ (6 * n + 6 ≤ L) := by
  by_cases h6 : 6 ≤ L
  · rw [z_sub h6, z_lt (by omega) (by omega)]
    exact propext (by omega)
  · have h0 : n = 0 := by omega
    subst h0
    have hc : L = 0 ∨ L = 1 ∨ L = 2 ∨ L = 3 ∨ L = 4 ∨ L = 5 := by omega
    rcases hc with rfl | rfl | rfl | rfl | rfl | rfl <;> exact propext ⟨fun _ => by decide, fun _ => by decide⟩
theorem lw_loop {xs : Nat → Int32} {L : Nat} (hL : L ≤ 3072) : ∀ (m n : Nat), m + n = 512 → 6 * n ≤ L → ∀ (l Lm : Nat) (T : zT) (to : Bool) (K : Nat → Nat) (P : zP) (tr : Nat) (f : zF) (b0 b1 b2 p q : Bool) (ad : Nat → Nat) (n1 n2 : Nat) (I : mmI) (J : mmJ), HI xs L n l Lm T to K P tr f T to K P tr f b0 b1 p q n1 n2 I → mm_w (fun v _ => v = some (.int 1)) (mm_wc 210) bk_law 23 [some (.ref 68), some (.ref 0), some (.ref 46), some (.ref 65), some (.int (nI (6 * n))), none, none] [] ((mm_fl b0 b1 b2, n1, n2, p, q, ad), I, J) := by
  intro m
  induction m with
  | zero =>
    intro n hm hn l Lm T to K P tr f b0 b1 b2 p q ad n1 n2 I J h
    refine lx_23 ?_
    rw [h.2.2.2.2.2.2.1, lw_go hL hn]
    exact ⟨fun _ => rfl, fun e => absurd (by omega) e⟩
  | succ m ih =>
    intro n hm hn l Lm T to K P tr f b0 b1 b2 p q ad n1 n2 I J h
    have kk0 : 6 * n + 6 ≤ L → LK xs L n := by
      intro hn6 l Lm T to K P tr f b0 b1 b2 p q ad n1 n2 I J h
      refine lx_1331 ?_
      rw [z_add]
      exact ih (n + 1) (by omega) (by omega) l Lm T to K P tr f b0 b1 b2 p q ad n1 n2 I J h
    refine lx_23 ?_
    have e69 := h.2.2.2.2.2.2.1
    have hv : 6 * n + 6 ≤ L → vp_in (nI (6 * n)) (I 69 0).toNatClampNeg := fun hn6 => by
      rw [e69, z_ix (by omega)]; exact z_in (by omega) (by omega)
    have e1 : (I 69 0 - nI 6 < nI (6 * n)) = ¬ (6 * n + 6 ≤ L) := by rw [e69, lw_go hL hn]
    refine ⟨fun _ => rfl, fun e => ?_⟩
    rw [e1] at e
    have hn6 : 6 * n + 6 ≤ L := by omega
    have kk := kk0 hn6
    have hN : HI xs L (n + 1) l Lm T to K P tr f T to K P tr f b0 b1 p q (n1 - 0) (n2 - 0) I := h.kA (by omega) (S := []) fr.rf rfl rfl h.cc
    exact ⟨hv hn6, fun _ => kk _ _ _ _ _ _ _ _ _ _ _ _ _ _ _ _ _ _ hN, fun _ => st_224 h hn6 hL kk, fun _ => st_297 h hn6 hL kk, fun _ => st_322 h hn6 hL kk, fun _ => st_335 h hn6 hL kk, fun _ => st_348 h hn6 hL kk, fun _ => st_385 h hn6 hL kk, fun _ => st_410 h hn6 hL kk, fun _ => st_459 h hn6 hL kk, fun _ => st_496 h hn6 hL kk, fun _ => st_509 h hn6 hL kk, fun _ => st_522 h hn6 hL kk, fun _ => st_575 h hn6 hL kk, fun _ => st_588 h hn6 hL kk, fun _ => st_601 h hn6 hL kk, fun _ => st_626 h hn6 hL kk, fun _ => st_639 h hn6 hL kk, fun _ => st_664 h hn6 hL kk, fun _ => st_689 h hn6 hL kk, fun _ => st_702 h hn6 hL kk, fun _ => st_715 h hn6 hL kk, fun _ => st_728 h hn6 hL kk, fun _ => st_753 h hn6 hL kk, fun _ => st_778 h hn6 hL kk, fun _ => st_803 h hn6 hL kk, fun _ => st_816 h hn6 hL kk, fun _ => st_853 h hn6 hL kk, fun _ => st_866 h hn6 hL kk, fun _ => st_879 h hn6 hL kk, fun _ => st_892 h hn6 hL kk, fun _ => st_917 h hn6 hL kk, fun _ => st_942 h hn6 hL kk, fun _ => st_996 h hn6 hL kk, fun _ => st_1021 h hn6 hL kk, fun _ => st_1075 h hn6 hL kk, fun _ => st_1100 h hn6 hL kk, fun _ => st_1137 h hn6 hL kk, fun _ => st_1162 h hn6 hL kk, fun _ => st_1199 h hn6 hL kk, fun _ => st_1212 h hn6 hL kk, fun _ => st_1237 h hn6 hL kk, fun _ => st_1293 h hn6 hL kk, fun _ => st_1318 h hn6 hL kk⟩
