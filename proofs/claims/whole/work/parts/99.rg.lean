/-! reading: what a line that is right keeps (2) -/
section RG
variable {b : Nat → Nat} {N a a' : Nat} {D nc D' nc' : Nat → Nat}
theorem placF_ok (ha : a ≤ N) (hp : D 4 < 5) (o : okD D nc) (h : placF b N a D nc = .ok (a', D', nc')) : a < a' ∧ a' ≤ N ∧ okD D' nc' := by
  unfold placF at h
  obtain ⟨a1, b1, c1, d1, h⟩ := nmF_ok ha h
  obtain ⟨x, y, a2, e2, e3, e4, e5, h⟩ := xyF_ok b1 h
  injection h with h
  injection h with e1 e2
  injection e2 with e2 e3
  subst e1; subst e2; subst e3
  obtain ⟨o0, o1, o2, o3, o4, o5, o6, o7, o8, o9, o10, o11, o12, o13, o14, o15, o16, o17, o18, o19, o20, o21, o22⟩ := o
  have g : ∀ k, k ≠ 46 + D 4 → k ≠ 51 + D 4 → k ≠ 4 → up1 (up1 (up1 D (46 + D 4) x) (51 + D 4) y) 4 (D 4 + 1) k = D k := fun k h1 h2 h3 => by rw [up1_n h3, up1_n h2, up1_n h1]
  have gA : up1 (up1 (up1 D (46 + D 4) x) (51 + D 4) y) 4 (D 4 + 1) (46 + D 4) = x := by rw [up1_n (by omega), up1_n (by omega), up1_s]
  have gB : up1 (up1 (up1 D (46 + D 4) x) (51 + D 4) y) 4 (D 4 + 1) (51 + D 4) = y := by rw [up1_n (by omega), up1_s]
  have gC : up1 (up1 (up1 D (46 + D 4) x) (51 + D 4) y) 4 (D 4 + 1) 4 = D 4 + 1 := up1_s _ _ _
  generalize up1 (up1 (up1 D (46 + D 4) x) (51 + D 4) y) 4 (D 4 + 1) = E at *
  have gs : ∀ k, k < 13 → k ≠ 4 → E k = D k := fun k h1 h2 => g k (by omega) (by omega) h2
  have gk : ∀ c, c < 11 → E (35 + c) = D (35 + c) := fun c hc => g _ (by omega) (by omega) (by omega)
  have nm : ∀ j, j ≠ 10 + D 4 → up1 nc (10 + D 4) (cod b N a) j = nc j := fun j hj => up1_n hj
  refine ⟨by omega, by omega, by rw [gs 0 (by decide) (by decide)]; exact o0, by rw [gs 1 (by decide) (by decide)]; exact o1, by rw [gs 2 (by decide) (by decide)]; exact o2, by rw [gs 0 (by decide) (by decide), gs 2 (by decide) (by decide)]; exact o3, by rw [gs 3 (by decide) (by decide)]; exact o4, by rw [gC]; omega, by rw [gs 5 (by decide) (by decide)]; exact o6, by rw [gs 6 (by decide) (by decide)]; exact o7, by rw [gs 7 (by decide) (by decide)]; exact o8, by rw [gs 8 (by decide) (by decide)]; exact o9, by rw [gs 9 (by decide) (by decide), gs 3 (by decide) (by decide)]; exact o10, by rw [gs 9 (by decide) (by decide), gs 8 (by decide) (by decide)]; exact o11, fun k k1 k2 => by rw [gs k (by omega) (by omega)]; exact o12 k k1 k2, by rw [gs 7 (by decide) (by decide), gs 10 (by decide) (by decide), gs 11 (by decide) (by decide), gs 12 (by decide) (by decide)]; exact o13, fun k k1 k2 => ?_, fun k k1 k2 => ?_, by rw [nTr_cg (gs 3 (by decide) (by decide)) (fun c hc => gk c (by omega))]; exact o16, fun c e1 e2 => by rw [gk c e2]; rw [gs 3 (by decide) (by decide)] at e1; exact o17 c e1 e2, fun j hj => by rw [nm j (by omega), gs 3 (by decide) (by decide)]; exact o18 j hj, fun j hj => ?_, fun j hj => ?_, fun j hj => ?_, okN_up o22 c1 d1⟩
  · by_cases e : k = 46 + D 4
    · rw [e, gA]; omega
    · by_cases e2 : k = 51 + D 4
      · rw [e2, gB]; omega
      · rw [g k e e2 (by omega)]; exact o14 k k1 k2
  · by_cases e : k = 46 + D 4
    · rw [e, gA]; omega
    · by_cases e2 : k = 51 + D 4
      · rw [e2, gB]; omega
      · rw [g k e e2 (by omega)]; exact o15 k k1 k2
  · rw [gC]
    by_cases e : j = D 4
    · rw [e, up1_s]; exact ⟨fun _ => by omega, fun _ => c1⟩
    · rw [nm _ (by omega), o19 j hj]; omega
  · rw [nm _ (by omega), gs 5 (by decide) (by decide)]; exact o20 j hj
  · rw [nm _ (by omega), gs 6 (by decide) (by decide)]; exact o21 j hj
theorem spotF_ok (ha : a ≤ N) (hp : D 5 < 4) (o : okD D nc) (h : spotF b N a D nc = .ok (a', D', nc')) : a < a' ∧ a' ≤ N ∧ okD D' nc' := by
  unfold spotF at h
  obtain ⟨a1, b1, c1, d1, h⟩ := nmF_ok ha h
  obtain ⟨x, y, a2, e2, e3, e4, e5, h⟩ := xyF_ok b1 h
  injection h with h
  injection h with e1 e2
  injection e2 with e2 e3
  subst e1; subst e2; subst e3
  obtain ⟨o0, o1, o2, o3, o4, o5, o6, o7, o8, o9, o10, o11, o12, o13, o14, o15, o16, o17, o18, o19, o20, o21, o22⟩ := o
  have g : ∀ k, k ≠ 56 + D 5 → k ≠ 60 + D 5 → k ≠ 5 → up1 (up1 (up1 D (56 + D 5) x) (60 + D 5) y) 5 (D 5 + 1) k = D k := fun k h1 h2 h3 => by rw [up1_n h3, up1_n h2, up1_n h1]
  have gA : up1 (up1 (up1 D (56 + D 5) x) (60 + D 5) y) 5 (D 5 + 1) (56 + D 5) = x := by rw [up1_n (by omega), up1_n (by omega), up1_s]
  have gB : up1 (up1 (up1 D (56 + D 5) x) (60 + D 5) y) 5 (D 5 + 1) (60 + D 5) = y := by rw [up1_n (by omega), up1_s]
  have gC : up1 (up1 (up1 D (56 + D 5) x) (60 + D 5) y) 5 (D 5 + 1) 5 = D 5 + 1 := up1_s _ _ _
  generalize up1 (up1 (up1 D (56 + D 5) x) (60 + D 5) y) 5 (D 5 + 1) = E at *
  have gs : ∀ k, k < 13 → k ≠ 5 → E k = D k := fun k h1 h2 => g k (by omega) (by omega) h2
  have gk : ∀ c, c < 11 → E (35 + c) = D (35 + c) := fun c hc => g _ (by omega) (by omega) (by omega)
  have nm : ∀ j, j ≠ 15 + D 5 → up1 nc (15 + D 5) (cod b N a) j = nc j := fun j hj => up1_n hj
  refine ⟨by omega, by omega, by rw [gs 0 (by decide) (by decide)]; exact o0, by rw [gs 1 (by decide) (by decide)]; exact o1, by rw [gs 2 (by decide) (by decide)]; exact o2, by rw [gs 0 (by decide) (by decide), gs 2 (by decide) (by decide)]; exact o3, by rw [gs 3 (by decide) (by decide)]; exact o4, by rw [gs 4 (by decide) (by decide)]; exact o5, by rw [gC]; omega, by rw [gs 6 (by decide) (by decide)]; exact o7, by rw [gs 7 (by decide) (by decide)]; exact o8, by rw [gs 8 (by decide) (by decide)]; exact o9, by rw [gs 9 (by decide) (by decide), gs 3 (by decide) (by decide)]; exact o10, by rw [gs 9 (by decide) (by decide), gs 8 (by decide) (by decide)]; exact o11, fun k k1 k2 => by rw [gs k (by omega) (by omega)]; exact o12 k k1 k2, by rw [gs 7 (by decide) (by decide), gs 10 (by decide) (by decide), gs 11 (by decide) (by decide), gs 12 (by decide) (by decide)]; exact o13, fun k k1 k2 => ?_, fun k k1 k2 => ?_, by rw [nTr_cg (gs 3 (by decide) (by decide)) (fun c hc => gk c (by omega))]; exact o16, fun c e1 e2 => by rw [gk c e2]; rw [gs 3 (by decide) (by decide)] at e1; exact o17 c e1 e2, fun j hj => by rw [nm j (by omega), gs 3 (by decide) (by decide)]; exact o18 j hj, fun j hj => ?_, fun j hj => ?_, fun j hj => ?_, okN_up o22 c1 d1⟩
  · by_cases e : k = 56 + D 5
    · rw [e, gA]; omega
    · by_cases e2 : k = 60 + D 5
      · rw [e2, gB]; omega
      · rw [g k e e2 (by omega)]; exact o14 k k1 k2
  · by_cases e : k = 56 + D 5
    · rw [e, gA]; omega
    · by_cases e2 : k = 60 + D 5
      · rw [e2, gB]; omega
      · rw [g k e e2 (by omega)]; exact o15 k k1 k2
  · rw [nm _ (by omega), gs 4 (by decide) (by decide)]; exact o19 j hj
  · rw [gC]
    by_cases e : j = D 5
    · rw [e, up1_s]; exact ⟨fun _ => by omega, fun _ => c1⟩
    · rw [nm _ (by omega), o20 j hj]; omega
  · rw [nm _ (by omega), gs 6 (by decide) (by decide)]; exact o21 j hj
theorem persF_ok (ha : a ≤ N) (hp : D 6 < 4) (o : okD D nc) (h : persF b N a D nc = .ok (a', D', nc')) : a < a' ∧ a' ≤ N ∧ okD D' nc' := by
  unfold persF at h
  obtain ⟨a1, b1, c1, d1, h⟩ := nmF_ok ha h
  obtain ⟨f2, g2, h⟩ := wdF_ok b1 h
  obtain ⟨f3, g3, h3, i3, h⟩ := nuF_ok g2 h
  obtain ⟨f4, g4, h⟩ := wdF_ok g3 h
  obtain ⟨f5, g5, h5, i5, h⟩ := nuF_ok g4 h
  generalize tv b N (nx b N (nx b N a)) = x at *
  generalize tv b N (nx b N (nx b N (nx b N (nx b N a)))) = y at *
  injection h with h
  injection h with e1 e2
  injection e2 with e2 e3
  subst e1; subst e2; subst e3
  obtain ⟨o0, o1, o2, o3, o4, o5, o6, o7, o8, o9, o10, o11, o12, o13, o14, o15, o16, o17, o18, o19, o20, o21, o22⟩ := o
  have g : ∀ k, k ≠ 64 + D 6 → k ≠ 68 + D 6 → k ≠ 6 → up1 (up1 (up1 D (64 + D 6) x) (68 + D 6) y) 6 (D 6 + 1) k = D k := fun k h1 h2 h3 => by rw [up1_n h3, up1_n h2, up1_n h1]
  have gA : up1 (up1 (up1 D (64 + D 6) x) (68 + D 6) y) 6 (D 6 + 1) (64 + D 6) = x := by rw [up1_n (by omega), up1_n (by omega), up1_s]
  have gB : up1 (up1 (up1 D (64 + D 6) x) (68 + D 6) y) 6 (D 6 + 1) (68 + D 6) = y := by rw [up1_n (by omega), up1_s]
  have gC : up1 (up1 (up1 D (64 + D 6) x) (68 + D 6) y) 6 (D 6 + 1) 6 = D 6 + 1 := up1_s _ _ _
  generalize up1 (up1 (up1 D (64 + D 6) x) (68 + D 6) y) 6 (D 6 + 1) = E at *
  have gs : ∀ k, k < 13 → k ≠ 6 → E k = D k := fun k h1 h2 => g k (by omega) (by omega) h2
  have gk : ∀ c, c < 11 → E (35 + c) = D (35 + c) := fun c hc => g _ (by omega) (by omega) (by omega)
  have nm : ∀ j, j ≠ 19 + D 6 → up1 nc (19 + D 6) (cod b N a) j = nc j := fun j hj => up1_n hj
  refine ⟨by omega, by omega, by rw [gs 0 (by decide) (by decide)]; exact o0, by rw [gs 1 (by decide) (by decide)]; exact o1, by rw [gs 2 (by decide) (by decide)]; exact o2, by rw [gs 0 (by decide) (by decide), gs 2 (by decide) (by decide)]; exact o3, by rw [gs 3 (by decide) (by decide)]; exact o4, by rw [gs 4 (by decide) (by decide)]; exact o5, by rw [gs 5 (by decide) (by decide)]; exact o6, by rw [gC]; omega, by rw [gs 7 (by decide) (by decide)]; exact o8, by rw [gs 8 (by decide) (by decide)]; exact o9, by rw [gs 9 (by decide) (by decide), gs 3 (by decide) (by decide)]; exact o10, by rw [gs 9 (by decide) (by decide), gs 8 (by decide) (by decide)]; exact o11, fun k k1 k2 => by rw [gs k (by omega) (by omega)]; exact o12 k k1 k2, by rw [gs 7 (by decide) (by decide), gs 10 (by decide) (by decide), gs 11 (by decide) (by decide), gs 12 (by decide) (by decide)]; exact o13, fun k k1 k2 => ?_, fun k k1 k2 => ?_, by rw [nTr_cg (gs 3 (by decide) (by decide)) (fun c hc => gk c (by omega))]; exact o16, fun c e1 e2 => by rw [gk c e2]; rw [gs 3 (by decide) (by decide)] at e1; exact o17 c e1 e2, fun j hj => by rw [nm j (by omega), gs 3 (by decide) (by decide)]; exact o18 j hj, fun j hj => ?_, fun j hj => ?_, fun j hj => ?_, okN_up o22 c1 d1⟩
  · by_cases e : k = 64 + D 6
    · rw [e, gA]; omega
    · by_cases e2 : k = 68 + D 6
      · rw [e2, gB]; omega
      · rw [g k e e2 (by omega)]; exact o14 k k1 k2
  · by_cases e : k = 64 + D 6
    · rw [e, gA]; omega
    · by_cases e2 : k = 68 + D 6
      · rw [e2, gB]; omega
      · rw [g k e e2 (by omega)]; exact o15 k k1 k2
  · rw [nm _ (by omega), gs 4 (by decide) (by decide)]; exact o19 j hj
  · rw [nm _ (by omega), gs 5 (by decide) (by decide)]; exact o20 j hj
  · rw [gC]
    by_cases e : j = D 6
    · rw [e, up1_s]; exact ⟨fun _ => by omega, fun _ => c1⟩
    · rw [nm _ (by omega), o21 j hj]; omega
theorem candF_ok (ha : a ≤ N) (hp : D 3 < 10) (o : okD D nc) (h : candF b N a D nc = .ok (a', D', nc')) : a < a' ∧ a' ≤ N ∧ okD D' nc' := by
  unfold candF at h
  obtain ⟨a1, b1, c1, d1, h⟩ := nmF_ok ha h
  obtain ⟨x, y, a2, e2, e3, e4, e5, h⟩ := xyF_ok b1 h
  by_cases k4 : kd4 b N a2 = 4
  · rw [if_pos k4] at h; cases h
  rw [if_neg k4] at h
  by_cases k3 : kd4 b N a2 = 3 ∧ 3 ≤ nTr D
  · rw [if_pos k3] at h; cases h
  rw [if_neg k3] at h
  have hkl := kd4_le (b := b) (N := N) (a := a2)
  have had := adv (h := by rw [kd4_w k4]; decide) e3
  injection h with h
  injection h with q1 q2
  injection q2 with q2 q3
  subst q1; subst q2; subst q3
  generalize kd4 b N a2 = kd at *
  obtain ⟨o0, o1, o2, o3, o4, o5, o6, o7, o8, o9, o10, o11, o12, o13, o14, o15, o16, o17, o18, o19, o20, o21, o22⟩ := o
  have g : ∀ k, k ≠ 13 + D 3 → k ≠ 24 + D 3 → k ≠ 35 + D 3 → k ≠ 3 → up1 (up1 (up1 (up1 D (13 + D 3) x) (24 + D 3) y) (35 + D 3) kd) 3 (D 3 + 1) k = D k := fun k h1 h2 h3 h4 => by rw [up1_n h4, up1_n h3, up1_n h2, up1_n h1]
  have gA : up1 (up1 (up1 (up1 D (13 + D 3) x) (24 + D 3) y) (35 + D 3) kd) 3 (D 3 + 1) (13 + D 3) = x := by rw [up1_n (by omega), up1_n (by omega), up1_n (by omega), up1_s]
  have gB : up1 (up1 (up1 (up1 D (13 + D 3) x) (24 + D 3) y) (35 + D 3) kd) 3 (D 3 + 1) (24 + D 3) = y := by rw [up1_n (by omega), up1_n (by omega), up1_s]
  have gK : up1 (up1 (up1 (up1 D (13 + D 3) x) (24 + D 3) y) (35 + D 3) kd) 3 (D 3 + 1) (35 + D 3) = kd := by rw [up1_n (by omega), up1_s]
  have gC : up1 (up1 (up1 (up1 D (13 + D 3) x) (24 + D 3) y) (35 + D 3) kd) 3 (D 3 + 1) 3 = D 3 + 1 := up1_s _ _ _
  generalize up1 (up1 (up1 (up1 D (13 + D 3) x) (24 + D 3) y) (35 + D 3) kd) 3 (D 3 + 1) = E at *
  have gs : ∀ k, k < 13 → k ≠ 3 → E k = D k := fun k h1 h2 => g k (by omega) (by omega) (by omega) h2
  have nm : ∀ j, j ≠ D 3 → up1 nc (D 3) (cod b N a) j = nc j := fun j hj => up1_n hj
  refine ⟨by omega, by omega, by rw [gs 0 (by decide) (by decide)]; exact o0, by rw [gs 1 (by decide) (by decide)]; exact o1, by rw [gs 2 (by decide) (by decide)]; exact o2, by rw [gs 0 (by decide) (by decide), gs 2 (by decide) (by decide)]; exact o3, by rw [gC]; omega, by rw [gs 4 (by decide) (by decide)]; exact o5, by rw [gs 5 (by decide) (by decide)]; exact o6, by rw [gs 6 (by decide) (by decide)]; exact o7, by rw [gs 7 (by decide) (by decide)]; exact o8, by rw [gs 8 (by decide) (by decide)]; exact o9, ?_, by rw [gs 9 (by decide) (by decide), gs 8 (by decide) (by decide)]; exact o11, fun k k1 k2 => by rw [gs k (by omega) (by omega)]; exact o12 k k1 k2, by rw [gs 7 (by decide) (by decide), gs 10 (by decide) (by decide), gs 11 (by decide) (by decide), gs 12 (by decide) (by decide)]; exact o13, fun k k1 k2 => ?_, fun k k1 k2 => by rw [g k (by omega) (by omega) (by omega) (by omega)]; exact o15 k k1 k2, ?_, fun c e1 e2 => by rw [gC] at e1; rw [g _ (by omega) (by omega) (by omega) (by omega)]; exact o17 c (by omega) e2, fun j hj => ?_, fun j hj => by rw [nm _ (by omega), gs 4 (by decide) (by decide)]; exact o19 j hj, fun j hj => by rw [nm _ (by omega), gs 5 (by decide) (by decide)]; exact o20 j hj, fun j hj => by rw [nm _ (by omega), gs 6 (by decide) (by decide)]; exact o21 j hj, okN_up o22 c1 d1⟩
  · rw [gs 9 (by decide) (by decide), gC, Nat.pow_succ]; omega
  · by_cases e : k = 13 + D 3
    · rw [e, gA]; omega
    · by_cases e2 : k = 24 + D 3
      · rw [e2, gB]; omega
      · by_cases e3 : k = 35 + D 3
        · rw [e3, gK]; omega
        · rw [g k e e2 e3 (by omega)]; exact o14 k k1 k2
  · rw [nTr_up gC (fun c hc => g _ (by omega) (by omega) (by omega) (by omega)) gK]
    by_cases e : kd = 3
    · rw [if_pos e]
      have : ¬ 3 ≤ nTr D := fun z => k3 ⟨e, z⟩
      omega
    · rw [if_neg e]; exact o16
  · rw [gC]
    by_cases e : j = D 3
    · rw [e, up1_s]; exact ⟨fun _ => by omega, fun _ => c1⟩
    · rw [nm _ (by omega), o18 j hj]; omega
/-- left: where only 8 and 9 are new -/
theorem okD_89 {v w : Nat} (o : okD D nc) (hv : v = 1) (hw : w < 2 ^ D 3) : okD (up1 (up1 D 8 v) 9 w) nc := by
  obtain ⟨o0, o1, o2, o3, o4, o5, o6, o7, o8, o9, o10, o11, o12, o13, o14, o15, o16, o17, o18, o19, o20, o21, o22⟩ := o
  have g : ∀ k, k ≠ 8 → k ≠ 9 → up1 (up1 D 8 v) 9 w k = D k := fun k h1 h2 => by rw [up1_n h2, up1_n h1]
  have g8 : up1 (up1 D 8 v) 9 w 8 = 1 := by rw [up1_n (by decide), up1_s, hv]
  have g9 : up1 (up1 D 8 v) 9 w 9 = w := up1_s _ _ _
  generalize up1 (up1 D 8 v) 9 w = E at *
  refine ⟨by rw [g 0 (by decide) (by decide)]; exact o0, by rw [g 1 (by decide) (by decide)]; exact o1, by rw [g 2 (by decide) (by decide)]; exact o2, by rw [g 0 (by decide) (by decide), g 2 (by decide) (by decide)]; exact o3, by rw [g 3 (by decide) (by decide)]; exact o4, by rw [g 4 (by decide) (by decide)]; exact o5, by rw [g 5 (by decide) (by decide)]; exact o6, by rw [g 6 (by decide) (by decide)]; exact o7, by rw [g 7 (by decide) (by decide)]; exact o8, by rw [g8]; exact Nat.le_refl _, by rw [g9, g 3 (by decide) (by decide)]; exact hw, fun z => absurd (g8.symm.trans z) (by decide), fun k k1 k2 => by rw [g k (by omega) (by omega)]; exact o12 k k1 k2, by rw [g 7 (by decide) (by decide), g 10 (by decide) (by decide), g 11 (by decide) (by decide), g 12 (by decide) (by decide)]; exact o13, fun k k1 k2 => by rw [g k (by omega) (by omega)]; exact o14 k k1 k2, fun k k1 k2 => by rw [g k (by omega) (by omega)]; exact o15 k k1 k2, by rw [nTr_cg (g 3 (by decide) (by decide)) (fun c hc => g _ (by omega) (by omega))]; exact o16, fun c e1 e2 => by rw [g _ (by omega) (by omega)]; rw [g 3 (by decide) (by decide)] at e1; exact o17 c e1 e2, by rw [g 3 (by decide) (by decide)]; exact o18, by rw [g 4 (by decide) (by decide)]; exact o19, by rw [g 5 (by decide) (by decide)]; exact o20, by rw [g 6 (by decide) (by decide)]; exact o21, o22⟩
theorem up1_id {D : Nat → Nat} {k : Nat} : up1 D k (D k) = D := by
  funext j
  unfold up1
  split
  · rename_i e; rw [e]
  · rfl
theorem or_lt2 {x m n : Nat} (hx : x < 2 ^ n) (hm : m < n) : x ||| 2 ^ m < 2 ^ n := Nat.or_lt_two_pow hx (Nat.pow_lt_pow_right (by decide) hm)
theorem lef1_eq {m : Nat} {k : Nat → (Nat → Nat) → zE} (hN : okN nc) (hi : isNm b N a) (hm : m < 10) (e : nc m = cod b N a) : lef1 b N a D nc k = if (D 9).testBit m = true then .error (3, a) else k (nx b N a) (up1 D 9 (D 9 ||| 2 ^ m)) := by
  have h : ∃ j, j < 10 ∧ nc j = cod b N a := ⟨m, hm, e⟩
  have hc := h.choose_spec
  have hcp := cod_pos hi.1
  have em : h.choose = m := hN _ _ (by omega) (by omega) (by rw [hc.2, e]) (by rw [hc.2]; omega)
  rw [lef1, if_pos hi, dif_pos h, em]
theorem lef1_no {k : Nat → (Nat → Nat) → zE} (hi : isNm b N a) (e : ∀ j, j < 10 → nc j ≠ cod b N a) : lef1 b N a D nc k = .error (2, a) := by
  rw [lef1, if_pos hi, dif_neg (fun ⟨j, hj, z⟩ => e j hj z)]
theorem lef1_nn {k : Nat → (Nat → Nat) → zE} (hi : ¬ isNm b N a) : lef1 b N a D nc k = .error (1, a) := by
  rw [lef1, if_neg hi]
theorem lefL_ok : ∀ f a D, a ≤ N → okD D nc → D 8 = 1 → lefL b N nc f a D = .ok (a', D', nc') → a < a' ∧ a' ≤ N ∧ okD D' nc'
  | 0, a, D, _, _, _, h => by rw [lefL] at h; cases h
  | f + 1, a, D, ha, o, h8, h => by
    rw [lefL] at h
    by_cases hi : isNm b N a
    · by_cases hj : ∃ j, j < 10 ∧ nc j = cod b N a
      · obtain ⟨m, hm, em⟩ := hj
        have hcp := cod_pos hi.1
        rw [lef1_eq o.2.2.2.2.2.2.2.2.2.2.2.2.2.2.2.2.2.2.2.2.2.2 hi hm em] at h
        have had := adv (h := by rw [hi.1]; decide) ha
        by_cases hb : (D 9).testBit m = true
        · rw [if_pos hb] at h; cases h
        · rw [if_neg hb] at h
          have hm3 : m < D 3 := (o.2.2.2.2.2.2.2.2.2.2.2.2.2.2.2.2.2.2.1 m hm).mp (by omega)
          have o' : okD (up1 D 9 (D 9 ||| 2 ^ m)) nc := by
            have := okD_89 (v := 1) o rfl (or_lt2 o.2.2.2.2.2.2.2.2.2.2.1 hm3)
            rw [← h8, up1_id] at this
            exact this
          by_cases hk : tkK b N (nx b N a) = 44
          · rw [if_pos hk] at h
            have had2 := adv (h := by rw [hk]; decide) had.2
            obtain ⟨q1, q2, q3⟩ := lefL_ok f _ _ had2.2 o' (by rw [up1_n (by decide)]; exact h8) h
            exact ⟨by omega, q2, q3⟩
          · rw [if_neg hk] at h
            injection h with h
            injection h with q1 q2
            injection q2 with q2 q3
            subst q1; subst q2; subst q3
            exact ⟨had.1, had.2, o'⟩
      · rw [lef1_no hi (fun j hj' e => hj ⟨j, hj', e⟩)] at h; cases h
    · rw [lef1_nn hi] at h; cases h
theorem okD_8 (o : okD D nc) (h8 : D 8 = 0) : okD (up1 D 8 1) nc := by
  have h9 : D 9 = 0 := o.2.2.2.2.2.2.2.2.2.2.2.1 h8
  have := okD_89 (v := 1) (w := D 9) o rfl (by rw [h9]; exact Nat.two_pow_pos _)
  have e : up1 (up1 D 8 1) 9 (D 9) = up1 D 8 1 := by
    have := up1_id (D := up1 D 8 1) (k := 9)
    rw [up1_n (j := 9) (by decide)] at this
    exact this
  rw [e] at this
  exact this
theorem leftF_ok (ha : a ≤ N) (h8 : D 8 = 0) (o : okD D nc) (h : leftF b N a D nc = .ok (a', D', nc')) : a < a' ∧ a' ≤ N ∧ okD D' nc' := by
  by_cases z : wd b N 9 a
  · rw [leftF, if_pos z] at h
    have had := adv (h := by rw [z.1]; decide) ha
    injection h with h
    injection h with q1 q2
    injection q2 with q2 q3
    subst q1; subst q2; subst q3
    exact ⟨had.1, had.2, okD_8 o h8⟩
  · rw [leftF, if_neg z] at h
    exact lefL_ok 11 a _ ha (okD_8 o h8) (up1_s _ _ _) h
theorem lineF_ok (ha : a ≤ N) (o : okD D nc) (h : lineF b N a D nc = .ok (a', D', nc')) : a < a' ∧ a' ≤ N ∧ okD D' nc' := by
  have st : ∀ i, wd b N i a → a < nx b N a ∧ nx b N a ≤ N := fun i z => adv (h := by rw [z.1]; decide) ha
  unfold lineF at h
  split at h
  · rename_i z
    obtain ⟨s1, s2⟩ := st _ z
    split at h
    · obtain ⟨q1, q2, q3⟩ := cakeF_ok s2 o h
      exact ⟨by omega, q2, q3⟩
    · cases h
  split at h
  · rename_i z
    obtain ⟨s1, s2⟩ := st _ z
    split at h
    · rename_i y
      obtain ⟨q1, q2, q3⟩ := candF_ok s2 y o h
      exact ⟨by omega, q2, q3⟩
    · cases h
  split at h
  · rename_i z
    obtain ⟨s1, s2⟩ := st _ z
    split at h
    · rename_i y
      obtain ⟨q1, q2, q3⟩ := placF_ok s2 y o h
      exact ⟨by omega, q2, q3⟩
    · cases h
  split at h
  · rename_i z
    obtain ⟨s1, s2⟩ := st _ z
    split at h
    · rename_i y
      obtain ⟨q1, q2, q3⟩ := spotF_ok s2 y o h
      exact ⟨by omega, q2, q3⟩
    · cases h
  split at h
  · rename_i z
    obtain ⟨s1, s2⟩ := st _ z
    split at h
    · rename_i y
      obtain ⟨q1, q2, q3⟩ := persF_ok s2 y o h
      exact ⟨by omega, q2, q3⟩
    · cases h
  split at h
  · rename_i z
    obtain ⟨s1, s2⟩ := st _ z
    split at h
    · obtain ⟨q1, q2, q3⟩ := shakF_ok s2 o h
      exact ⟨by omega, q2, q3⟩
    · cases h
  split at h
  · rename_i z
    obtain ⟨s1, s2⟩ := st _ z
    split at h
    · rename_i y
      obtain ⟨q1, q2, q3⟩ := leftF_ok s2 y o h
      exact ⟨by omega, q2, q3⟩
    · cases h
  · cases h
theorem okD_0 : okD (fun _ => 0) (fun _ => 0) := by
  refine ⟨.inl rfl, by decide, by decide, fun z => absurd z (by decide), by decide, by decide, by decide, by decide, by decide, by decide, by decide, fun _ => rfl, fun _ _ _ => Nat.zero_le _, fun z => absurd z (by decide), fun _ _ _ => Nat.zero_le _, fun _ _ _ => Nat.zero_le _, by decide, fun _ _ _ => rfl, fun j _ => ⟨fun z => absurd rfl z, fun z => absurd z (Nat.not_lt_zero j)⟩, fun j _ => ⟨fun z => absurd rfl z, fun z => absurd z (Nat.not_lt_zero j)⟩, fun j _ => ⟨fun z => absurd rfl z, fun z => absurd z (Nat.not_lt_zero j)⟩, fun j _ => ⟨fun z => absurd rfl z, fun z => absurd z (Nat.not_lt_zero j)⟩, fun i j _ _ _ z => absurd rfl z⟩
end RG
