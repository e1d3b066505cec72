/-! the law's block of led -/
section VM
variable {xs : Nat → Int32} {L n l Lm n1 n2 : Nat} {b0 b1 b2 p q : Bool} {ad : Nat → Nat} {I : mmI} {J : mmJ} {T : zT} {to : Bool} {K : Nat → Nat} {P : zP} {tr : Nat} {f : zF}
theorem st_1237 (h : HI xs L n l Lm T to K P tr f T to K P tr f b0 b1 p q n1 n2 I) (hn : 6 * n + 6 ≤ L) (hL : L ≤ 3072) (kk : LK xs L n) : mm_w (fun v _ => v = some (.int 1)) (mm_wc 210) bk_law 1237 [some (.ref 68), some (.ref 0), some (.ref 46), some (.ref 65), some (.int (nI (6 * n))), none, none] [] ((mm_fl b0 b1 b2, n1, n2, p, q, ad), I, J) := by
  have ok : to = true → okR K := fun z => h.cc.ok z
  have g8 := h.2.2.2.2.2.2.2.1
  have g9 := h.2.2.2.2.2.2.2.2
  have hh : HI xs L (n + 1) l Lm T to K P tr f T to K P tr f b0 b1 p q (n1 - 1) (n2 - 6) I := h.cls (by omega) (fun _ _ _ _ => rfl) h.cc h.se h.od (Nat.le_succ _) (Nat.le_add_right _ _) (by omega) (by omega)
  refine lx_1237 ⟨lw_in h hn hL (j := 1) (by decide), 1, 6, by omega, by omega, cd_1013 (d := 207) h.cc (fun v hr => ⟨_, _, _, _, _, _, _, _, _, rfl, rfl, lw_in h hn hL (j := 1) (by decide), 0, 0, Nat.zero_le _, Nat.zero_le _, md_275 (d := 208) h.mi (fun I' v2 th hf hm hth hr2 => ⟨_, _, _, _, _, _, _, _, _, rfl, rfl, 0, 0, Nat.zero_le _, Nat.zero_le _, fx_165 (d := 209) ⟨_, _, _, _, _, _, _, _, _, rfl, rfl, ?_⟩⟩)⟩) (fun hr => ⟨_, _, _, _, _, _, _, _, _, rfl, rfl, lw_in h hn hL (j := 1) (by decide), 0, 0, Nat.zero_le _, Nat.zero_le _, md_275 (d := 208) h.mi (fun I' v2 th hf hm hth hr2 => ⟨_, _, _, _, _, _, _, _, _, rfl, rfl, 0, 0, Nat.zero_le _, Nat.zero_le _, fx_165 (d := 209) ⟨_, _, _, _, _, _, _, _, _, rfl, rfl, ?_⟩⟩)⟩)⟩
  · obtain ⟨e, rfl⟩ := ra_led_uq ok hr hr2
    have e3 : lg_cmp (mm_upJ J 65 0 v.toInt64 65 0) (Int32.toInt64 v2) = nI 0 := by
      rw [upJ_eq, if_pos ⟨rfl, rfl⟩, e]; exact lg_self _
    exact ⟨fun _ => ⟨fun z => absurd rfl z, fun _ => ⟨fun _ => kk _ _ _ _ _ _ _ _ _ _ _ _ _ _ _ _ _ _ (hh.mod hf hm), fun z => absurd e3 z⟩⟩, fun z => absurd hth z⟩
  · obtain ⟨e, rfl⟩ := ra_led_uq ok hr hr2
    exact ⟨fun _ => ⟨fun _ => kk _ _ _ _ _ _ _ _ _ _ _ _ _ _ _ _ _ _ (hh.mod hf hm), fun z => absurd z n10⟩, fun z => absurd hth z⟩
end VM
