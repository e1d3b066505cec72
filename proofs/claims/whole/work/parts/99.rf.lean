/-! reading: what a line that is right keeps -/
def okN (nc : Nat → Nat) : Prop := ∀ i j, i < 23 → j < 23 → nc i = nc j → nc i ≠ 0 → i = j
def okD (D nc : Nat → Nat) : Prop :=
  (D 0 = 0 ∨ D 0 = 1) ∧ D 1 ≤ 20 ∧ D 2 ≤ 9 ∧ (D 0 = 1 → 1 ≤ D 2) ∧ D 3 ≤ 10 ∧ D 4 ≤ 5 ∧ D 5 ≤ 4 ∧ D 6 ≤ 4 ∧ D 7 ≤ 1 ∧ D 8 ≤ 1 ∧ D 9 < 2 ^ D 3 ∧ (D 8 = 0 → D 9 = 0) ∧ (∀ k, 10 ≤ k → k < 13 → D k ≤ 9) ∧ (D 7 = 1 → 1 ≤ D 10 + D 11 + D 12) ∧ (∀ k, 13 ≤ k → k < 64 → D k ≤ 20) ∧ (∀ k, 64 ≤ k → k < 72 → D k ≤ 30) ∧ nTr D ≤ 3 ∧ (∀ c, D 3 ≤ c → c < 11 → D (35 + c) = 0) ∧
  (∀ j, j < 10 → (nc j ≠ 0 ↔ j < D 3)) ∧ (∀ j, j < 5 → (nc (10 + j) ≠ 0 ↔ j < D 4)) ∧ (∀ j, j < 4 → (nc (15 + j) ≠ 0 ↔ j < D 5)) ∧ (∀ j, j < 4 → (nc (19 + j) ≠ 0 ↔ j < D 6)) ∧ okN nc
theorem up1_s (D : Nat → Nat) (k v : Nat) : up1 D k v k = v := by unfold up1; rw [if_pos rfl]
theorem up1_n {D : Nat → Nat} {k v j : Nat} (h : j ≠ k) : up1 D k v j = D j := by unfold up1; rw [if_neg h]
section RF
variable {b : Nat → Nat} {N a : Nat} {r : Nat × (Nat → Nat) × (Nat → Nat)}
theorem adv {h : tkK b N a ≠ 0} (ha : a ≤ N) : a < nx b N a ∧ nx b N a ≤ N := by
  have hN : a < N := by
    rcases Nat.lt_or_ge a N with z | z
    · exact z
    · exact absurd (by unfold tkK; rw [if_pos z]) h
  have h1 := tkE_b (b := b) ha
  have h2 := nx_b (b := b) ha
  exact ⟨by have := h1.2.2 hN; omega, h2.2⟩
theorem wdF_ok {i : Nat} {k : Nat → zE} (ha : a ≤ N) (h : wdF b N i a k = .ok r) : a < nx b N a ∧ nx b N a ≤ N ∧ k (nx b N a) = .ok r := by
  by_cases z : wd b N i a
  · rw [wdF, if_pos z] at h
    have := adv (h := by rw [z.1]; decide) ha
    exact ⟨this.1, this.2, h⟩
  · rw [wdF, if_neg z] at h; cases h
theorem nuF_ok {lo hi : Nat} {k : Nat → Nat → zE} (ha : a ≤ N) (h : nuF b N lo hi a k = .ok r) : a < nx b N a ∧ nx b N a ≤ N ∧ lo ≤ tv b N a ∧ tv b N a ≤ hi ∧ k (tv b N a) (nx b N a) = .ok r := by
  by_cases z : tkK b N a = 3
  · rw [nuF, if_pos z] at h
    have := adv (h := by rw [z]; decide) ha
    by_cases y : lo ≤ tv b N a ∧ tv b N a ≤ hi
    · rw [if_pos y] at h; exact ⟨this.1, this.2, y.1, y.2, h⟩
    · rw [if_neg y] at h; cases h
  · rw [nuF, if_neg z] at h; cases h
theorem sgF_ok {c : Nat} {k : Nat → zE} (hc : c ≠ 0) (ha : a ≤ N) (h : sgF b N c a k = .ok r) : a < nx b N a ∧ nx b N a ≤ N ∧ k (nx b N a) = .ok r := by
  by_cases z : tkK b N a = c
  · rw [sgF, if_pos z] at h
    have := adv (h := by rw [z]; exact hc) ha
    exact ⟨this.1, this.2, h⟩
  · rw [sgF, if_neg z] at h; cases h
theorem nmF_ok {n : Nat} {nc : Nat → Nat} {k : Nat → (Nat → Nat) → zE} (ha : a ≤ N) (h : nmF b N n a nc k = .ok r) : a < nx b N a ∧ nx b N a ≤ N ∧ cod b N a ≠ 0 ∧ (∀ j, j < 23 → nc j ≠ cod b N a) ∧ k (nx b N a) (up1 nc n (cod b N a)) = .ok r := by
  by_cases z : isNm b N a
  · rw [nmF, if_pos z] at h
    have h1 := adv (h := by rw [z.1]; decide) ha
    have h2 := cod_pos z.1
    by_cases y : ∃ j, j < 23 ∧ nc j = cod b N a
    · rw [if_pos y] at h; cases h
    · rw [if_neg y] at h; exact ⟨h1.1, h1.2, by omega, fun j hj e => y ⟨j, hj, e⟩, h⟩
  · rw [nmF, if_neg z] at h; cases h
theorem xyF_ok {k : Nat → Nat → Nat → zE} (ha : a ≤ N) (h : xyF b N a k = .ok r) : ∃ x y a', a < a' ∧ a' ≤ N ∧ x ≤ 20 ∧ y ≤ 20 ∧ k x y a' = .ok r := by
  unfold xyF at h
  obtain ⟨a1, b1, h⟩ := wdF_ok ha h
  obtain ⟨a2, b2, -, c2, h⟩ := nuF_ok b1 h
  obtain ⟨a3, b3, h⟩ := sgF_ok (by decide) b2 h
  obtain ⟨a4, b4, -, c4, h⟩ := nuF_ok b3 h
  exact ⟨_, _, _, by omega, b4, c2, c4, h⟩
theorem okN_up {nc : Nat → Nat} {n c : Nat} (h : okN nc) (hc : c ≠ 0) (hn : ∀ j, j < 23 → nc j ≠ c) : okN (up1 nc n c) := by
  intro i j hi hj e ne
  by_cases ei : i = n
  · by_cases ej : j = n
    · omega
    · rw [ei, up1_s, up1_n ej] at e; exact absurd e.symm (hn j hj)
  · by_cases ej : j = n
    · rw [ej, up1_s, up1_n ei] at e; exact absurd e (hn i hi)
    · rw [up1_n ei, up1_n ej] at e; rw [up1_n ei] at ne; exact h i j hi hj e ne
theorem kd4_le : kd4 b N a ≤ 4 := by
  unfold kd4
  split
  · decide
  · split
    · decide
    · split
      · decide
      · split <;> decide
theorem kd4_w (h : kd4 b N a ≠ 4) : tkK b N a = 2 := by
  unfold kd4 at h
  split at h
  · rename_i z; exact z.1
  · split at h
    · rename_i z; exact z.1
    · split at h
      · rename_i z; exact z.1
      · split at h
        · rename_i z; exact z.1
        · exact absurd rfl h
theorem bset_cg {P P' : Nat → Bool} : ∀ n, (∀ c, c < n → P c = P' c) → bset P n = bset P' n
  | 0, _ => rfl
  | n + 1, h => by rw [bset, bset, bset_cg n (fun c hc => h c (by omega)), h n (by omega)]
theorem popc_cg {s t : Nat} : ∀ n, (∀ c, c < n → s.testBit c = t.testBit c) → popc s n = popc t n
  | 0, _ => rfl
  | n + 1, h => by rw [popc_succ, popc_succ, popc_cg n (fun c hc => h c (by omega)), h n (by omega)]
/-- tricks stay, where kinds and how many stay -/
theorem nTr_cg {D D' : Nat → Nat} (h3 : D' 3 = D 3) (h : ∀ c, c < D 3 → D' (35 + c) = D (35 + c)) : nTr D' = nTr D := by
  unfold nTr ofK
  rw [h3, bset_cg (P' := fun c => D (35 + c) == 3) (D 3) (fun c hc => by rw [h c hc])]
theorem nTr_up {D : Nat → Nat} {D' : Nat → Nat} {v : Nat} (h3 : D' 3 = D 3 + 1) (h : ∀ c, c < D 3 → D' (35 + c) = D (35 + c)) (hv : D' (35 + D 3) = v) : nTr D' = nTr D + (if v = 3 then 1 else 0) := by
  unfold nTr
  rw [h3, popc_succ]
  have e1 : popc (ofK D' 3) (D 3) = popc (ofK D 3) (D 3) := popc_cg _ (fun c hc => by rw [ofK_tb (by omega), ofK_tb hc, h c hc])
  rw [e1, ofK_tb (by omega), hv]
  by_cases e : v = 3
  · subst e; rfl
  · rw [if_neg e, show (v == 3) = false by simpa using e]; rfl
end RF
section RFl
variable {b : Nat → Nat} {N a a' : Nat} {D nc D' nc' : Nat → Nat}
theorem cakeF_ok (ha : a ≤ N) (o : okD D nc) (h : cakeF b N a D nc = .ok (a', D', nc')) : a < a' ∧ a' ≤ N ∧ okD D' nc' := by
  unfold cakeF at h
  obtain ⟨a1, b1, h⟩ := wdF_ok ha h
  obtain ⟨a2, b2, c2, d2, h⟩ := nuF_ok b1 h
  obtain ⟨a3, b3, h⟩ := wdF_ok b2 h
  obtain ⟨a4, b4, c4, d4, h⟩ := nuF_ok b3 h
  injection h with h
  injection h with e1 e2
  injection e2 with e2 e3
  subst e1; subst e2; subst e3
  generalize hv : tv b N (nx b N a) = v at *
  generalize hw : tv b N (nx b N (nx b N (nx b N a))) = w at *
  obtain ⟨o0, o1, o2, o3, o4, o5, o6, o7, o8, o9, o10, o11, o12, o13, o14, o15, o16, o17, o18, o19, o20, o21, o22⟩ := o
  have g : ∀ k, 3 ≤ k → up1 (up1 (up1 D 1 v) 2 w) 0 1 k = D k := fun k hk => by rw [up1_n (by omega), up1_n (by omega), up1_n (by omega)]
  refine ⟨by omega, b4, .inr (up1_s _ _ _), by rw [up1_n (by decide), up1_n (by decide), up1_s]; omega, by rw [up1_n (by decide), up1_s]; omega, fun _ => by rw [up1_n (by decide), up1_s]; omega, by rw [g 3 (by decide)]; exact o4, by rw [g 4 (by decide)]; exact o5, by rw [g 5 (by decide)]; exact o6, by rw [g 6 (by decide)]; exact o7, by rw [g 7 (by decide)]; exact o8, by rw [g 8 (by decide)]; exact o9, by rw [g 9 (by decide), g 3 (by decide)]; exact o10, by rw [g 9 (by decide), g 8 (by decide)]; exact o11, fun k k1 k2 => by rw [g k (by omega)]; exact o12 k k1 k2, by rw [g 7 (by decide), g 10 (by decide), g 11 (by decide), g 12 (by decide)]; exact o13, fun k k1 k2 => by rw [g k (by omega)]; exact o14 k k1 k2, fun k k1 k2 => by rw [g k (by omega)]; exact o15 k k1 k2, by rw [nTr_cg (g 3 (by decide)) (fun c _ => g _ (by omega))]; exact o16, fun c c1 c2 => by rw [g _ (by omega)]; rw [g 3 (by decide)] at c1; exact o17 c c1 c2, by rw [g 3 (by decide)]; exact o18, by rw [g 4 (by decide)]; exact o19, by rw [g 5 (by decide)]; exact o20, by rw [g 6 (by decide)]; exact o21, o22⟩
theorem shakF_ok (ha : a ≤ N) (o : okD D nc) (h : shakF b N a D nc = .ok (a', D', nc')) : a < a' ∧ a' ≤ N ∧ okD D' nc' := by
  unfold shakF at h
  obtain ⟨a1, b1, c1, d1, h⟩ := nuF_ok ha h
  obtain ⟨a2, b2, h⟩ := sgF_ok (by decide) b1 h
  obtain ⟨a3, b3, c3, d3, h⟩ := nuF_ok b2 h
  obtain ⟨a4, b4, h⟩ := sgF_ok (by decide) b3 h
  obtain ⟨a5, b5, c5, d5, h⟩ := nuF_ok b4 h
  injection h with h
  injection h with e1 e2
  injection e2 with e2 e3
  subst e1; subst e2; subst e3
  generalize hx : tv b N a = x at *
  generalize hy : tv b N (nx b N (nx b N a)) = y at *
  generalize hz : tv b N (nx b N (nx b N (nx b N (nx b N a)))) = z at *
  obtain ⟨o0, o1, o2, o3, o4, o5, o6, o7, o8, o9, o10, o11, o12, o13, o14, o15, o16, o17, o18, o19, o20, o21, o22⟩ := o
  have g : ∀ k, k ≠ 10 → k ≠ 11 → k ≠ 12 → k ≠ 7 → up1 (up1 (up1 (up1 D 10 x) 11 y) 12 z) 7 1 k = D k := fun k h1 h2 h3 h4 => by rw [up1_n h4, up1_n h3, up1_n h2, up1_n h1]
  have g10 : up1 (up1 (up1 (up1 D 10 x) 11 y) 12 z) 7 1 10 = x := by rw [up1_n (by decide), up1_n (by decide), up1_n (by decide), up1_s]
  have g11 : up1 (up1 (up1 (up1 D 10 x) 11 y) 12 z) 7 1 11 = y := by rw [up1_n (by decide), up1_n (by decide), up1_s]
  have g12 : up1 (up1 (up1 (up1 D 10 x) 11 y) 12 z) 7 1 12 = z := by rw [up1_n (by decide), up1_s]
  have s : 1 ≤ x + y + z := by
    split at c5 <;> omega
  refine ⟨by omega, b5, by rw [g 0 (by decide) (by decide) (by decide) (by decide)]; exact o0, by rw [g 1 (by decide) (by decide) (by decide) (by decide)]; exact o1, by rw [g 2 (by decide) (by decide) (by decide) (by decide)]; exact o2, by rw [g 0 (by decide) (by decide) (by decide) (by decide), g 2 (by decide) (by decide) (by decide) (by decide)]; exact o3, by rw [g 3 (by decide) (by decide) (by decide) (by decide)]; exact o4, by rw [g 4 (by decide) (by decide) (by decide) (by decide)]; exact o5, by rw [g 5 (by decide) (by decide) (by decide) (by decide)]; exact o6, by rw [g 6 (by decide) (by decide) (by decide) (by decide)]; exact o7, by rw [up1_s]; exact Nat.le_refl _, by rw [g 8 (by decide) (by decide) (by decide) (by decide)]; exact o9, by rw [g 9 (by decide) (by decide) (by decide) (by decide), g 3 (by decide) (by decide) (by decide) (by decide)]; exact o10, by rw [g 9 (by decide) (by decide) (by decide) (by decide), g 8 (by decide) (by decide) (by decide) (by decide)]; exact o11, fun k k1 k2 => ?_, fun _ => by rw [g10, g11, g12]; exact s, fun k k1 k2 => by rw [g k (by omega) (by omega) (by omega) (by omega)]; exact o14 k k1 k2, fun k k1 k2 => by rw [g k (by omega) (by omega) (by omega) (by omega)]; exact o15 k k1 k2, by rw [nTr_cg (g 3 (by decide) (by decide) (by decide) (by decide)) (fun c _ => g _ (by omega) (by omega) (by omega) (by omega))]; exact o16, fun c c1 c2 => by rw [g _ (by omega) (by omega) (by omega) (by omega)]; rw [g 3 (by decide) (by decide) (by decide) (by decide)] at c1; exact o17 c c1 c2, by rw [g 3 (by decide) (by decide) (by decide) (by decide)]; exact o18, by rw [g 4 (by decide) (by decide) (by decide) (by decide)]; exact o19, by rw [g 5 (by decide) (by decide) (by decide) (by decide)]; exact o20, by rw [g 6 (by decide) (by decide) (by decide) (by decide)]; exact o21, o22⟩
  have : k = 10 ∨ k = 11 ∨ k = 12 := by omega
  rcases this with rfl | rfl | rfl
  · rw [g10]; exact d1
  · rw [g11]; exact d3
  · rw [g12]; exact d5
end RFl
