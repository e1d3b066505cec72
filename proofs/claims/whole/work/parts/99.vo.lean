/-! the law's beginning; the law holds -/
theorem lw_I0 (L : Nat) (xs : Nat → Int32) : HI xs L 0 0 0 (0, fun _ => 0) false (fun _ => 0) (0, 0, fun _ => 0, 0, fun _ => 0) 0 (0, 0) (0, fun _ => 0) false (fun _ => 0) (0, 0, fun _ => 0, 0, fun _ => 0) 0 (0, 0) false false true false 600958 6860228 (mm_I0 L xs) := by
  have ff : false = true → False := fun z => by cases z
  have z : zOk (0, fun _ => 0) false (fun _ => 0) (0, 0, fun _ => 0, 0, fun _ => 0) 0 (0, 0) := ⟨Nat.zero_le _, fun k hk => absurd hk (Nat.not_lt_zero k), Nat.zero_le _, Nat.zero_le _, fun _ => ⟨rfl, rfl⟩, fun e => (ff e).elim, Nat.zero_le _, Nat.zero_le _, Nat.zero_le _⟩
  have h55 : ∀ j, j < 16 → mm_I0 L xs 55 j = wX j := by
    intro j hj
    have hc : j = 0 ∨ j = 1 ∨ j = 2 ∨ j = 3 ∨ j = 4 ∨ j = 5 ∨ j = 6 ∨ j = 7 ∨ j = 8 ∨ j = 9 ∨ j = 10 ∨ j = 11 ∨ j = 12 ∨ j = 13 ∨ j = 14 ∨ j = 15 := by omega
    rcases hc with rfl | rfl | rfl | rfl | rfl | rfl | rfl | rfl | rfl | rfl | rfl | rfl | rfl | rfl | rfl | rfl <;> rfl
  have h56 : ∀ j, j < 16 → mm_I0 L xs 56 j = wY j := by
    intro j hj
    have hc : j = 0 ∨ j = 1 ∨ j = 2 ∨ j = 3 ∨ j = 4 ∨ j = 5 ∨ j = 6 ∨ j = 7 ∨ j = 8 ∨ j = 9 ∨ j = 10 ∨ j = 11 ∨ j = 12 ∨ j = 13 ∨ j = 14 ∨ j = 15 := by omega
    rcases hc with rfl | rfl | rfl | rfl | rfl | rfl | rfl | rfl | rfl | rfl | rfl | rfl | rfl | rfl | rfl | rfl <;> rfl
  have hw : cWy (mm_I0 L xs) := ⟨fun j _ => rfl, fun j _ => rfl⟩
  have hmo : cMo (mm_I0 L xs) := by
    intro c
    cases c <;> exact ⟨rfl, rfl, rfl⟩
  refine ⟨⟨z, rfl, fun k hk => absurd hk (Nat.not_lt_zero k), rfl, fun e => absurd e (by decide), rfl, rfl, rfl, rfl, h55, h56, fun e => (ff e).elim⟩, ⟨z, rfl, rfl, rfl, fun e => absurd e (by decide), rfl, fun k hk => absurd hk (Nat.not_lt_zero k), hmo, rfl, rfl, rfl, fun k hk => absurd hk (Nat.not_lt_zero k), fun k hk => absurd hk (Nat.not_lt_zero k), fun e => (ff e).elim, rfl, rfl, fun e => (ff e).elim, hw⟩, fun e => (ff e).elim, fun e => (ff e).elim, ⟨Nat.le_refl _, Nat.zero_le _⟩, fun j => rfl, rfl, by decide, by decide⟩
theorem lw_pure {L : Nat} {xs : Nat → Int32} (hL : L ≤ 3072) : mm_pure L xs := by
  intro ad
  have h := lw_loop (xs := xs) hL 512 0 rfl (Nat.zero_le _) 0 0 _ _ _ _ _ _ _ _ false _ _ ad _ _ _ (fun _ _ => 0) (lw_I0 L xs)
  have e1 : mm_fl false false false = fun _ => false := by
    funext k
    match k with
    | 0 => rfl
    | 1 => rfl
    | 2 => rfl
    | k + 3 => rfl
  rw [e1] at h
  exact h
