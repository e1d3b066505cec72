/-! the model's walk: the cells -/
/-- what the search of one person says -/
def wC (K : Nat → Nat) (h s cnt : Nat) (al qq dp : Nat → Nat) (tl L : Nat) : Prop :=
  okR K ∧ 1 ≤ tl ∧ tl ≤ 16384 ∧ qq 0 = s ∧ dp 0 = 0 ∧ (∀ i j, i < tl → j < tl → qq i = qq j → i = j) ∧ (∀ i, i < tl → vm K False (qq i)) ∧ (∀ i, i < tl → dp i ≤ i) ∧ (∀ i j, i ≤ j → j < tl → dp i ≤ dp j) ∧ (∀ i, i < tl → dp i < L → ∀ k, k < cnt → ∃ j, j < tl ∧ qq j = zst K (qq i) (al k) ∧ dp j ≤ dp i + 1) ∧ (∀ k, k < cnt → al k < nB K ∧ al k / 16 / K 4 = h) ∧ (∀ b, b < nB K → b / 16 / K 4 = h → ∃ k, k < cnt ∧ al k = b) ∧ (∀ n m, rch (kby K h) s n m → n ≤ L → ∃ j, j < tl ∧ qq j = m ∧ dp j ≤ n) ∧ (∀ j, j < tl → rch (kby K h) s (dp j) (qq j)) ∧ ∀ j n, j < tl → rch (kby K h) s n (qq j) → dp j ≤ n
def wD (i0 a0 k0 i a k : Nat) : Prop := i < i0 ∨ (i = i0 ∧ (a < a0 ∨ (a = a0 ∧ k < k0)))
def wI (K : Nat → Nat) (h s pl cnt : Nat) (al qq dp : Nat → Nat) (tl L : Nat) (I : mmI) (i0 a0 k0 : Nat) : Prop :=
  (∀ j a, j < tl → a < K 4 → I 61 (5 * std (qq j) + a) = -1 ∨ ∃ w, I 61 (5 * std (qq j) + a) = nI w ∧ wk K h s pl (dp j) (qq j) a w) ∧ I 61 (5 * std (qq 0) + pl) = nI 0 ∧
  ∀ i a k w j, wD i0 a0 k0 i a k → i < tl → dp i < L → a < K 4 → k < cnt → I 61 (5 * std (qq i) + a) = nI w → w < 2 ^ 31 → j < tl → qq j = zst K (qq i) (al k) → dp j = dp i + 1 → ∃ w', I 61 (5 * std (qq j) + al k / 16 % K 4) = nI w' ∧ w' ≤ w + fa K a (al k / 16 % K 4)
section WM
variable {K : Nat → Nat} {h s pl cnt : Nat} {al qq dp : Nat → Nat} {tl L : Nat} {I : mmI} {i0 a0 k0 : Nat}
theorem wI_wk {i1 a1 k1 : Nat} (g : wI K h s pl cnt al qq dp tl L I i0 a0 k0) (hw : ∀ i a k, wD i1 a1 k1 i a k → i < tl → dp i < L → a < K 4 → k < cnt → wD i0 a0 k0 i a k ∨ I 61 (5 * std (qq i) + a) = -1) : wI K h s pl cnt al qq dp tl L I i1 a1 k1 := by
  refine ⟨g.1, g.2.1, fun i a k w j d1 d2 d3 d4 d5 d6 d7 d8 d9 d10 => ?_⟩
  rcases hw i a k d1 d2 d3 d4 d5 with z | z
  · exact g.2.2 i a k w j z d2 d3 d4 d5 d6 d7 d8 d9 d10
  · rw [d6, z_m1 d7] at z; exact z.elim
/-- cells up to the current one are exact -/
theorem wI_ex (c : wC K h s cnt al qq dp tl L) (hpl : pl < K 4) (g : wI K h s pl cnt al qq dp tl L I i0 a0 k0) (htL : 40 * L < 2 ^ 31) : ∀ n j, j ≤ i0 → j < tl → dp j = n → n ≤ L → ∀ a w, wk K h s pl (dp j) (qq j) a w → ∃ w', w' ≤ w ∧ I 61 (5 * std (qq j) + a) = nI w' := by
  obtain ⟨ok, c1, c2, c3, c4, c5, c6, c7, c8, c9, c10, c11, c12, c13, c14⟩ := c
  intro n
  induction n with
  | zero =>
    intro j hj hjt hd hn a w hw
    rw [hd] at hw
    obtain ⟨e1, e2, e3⟩ := hw
    have ej : j = 0 := c5 j 0 hjt (by omega) (by rw [e1, c3])
    subst ej
    exact ⟨0, by omega, by rw [e2]; exact g.2.1⟩
  | succ n ih =>
    intro j hj hjt hd hn a w hw
    rw [hd] at hw
    obtain ⟨m1, a1, w1, b, h1, h2, h3, h4, h5, h6⟩ := hw
    obtain ⟨i, hi, e1, e2⟩ := c12 n m1 (wk_rch n m1 a1 w1 h1) (by omega)
    have e3 := c14 j (dp i + 1) hjt ⟨qq i, c13 i hi, b, h2, h3, by rw [e1]; exact h4⟩
    have e4 : dp i = n := by omega
    have hij : i < j := by
      rcases Nat.lt_or_ge i j with z | z
      · exact z
      · have := c8 j i z hi; omega
    obtain ⟨w2, g1, g2⟩ := ih i (by omega) hi e4 (by omega) a1 w1 (by rw [e4, e1]; exact h1)
    have ha1 := wk_le ok hpl n m1 a1 w1 h1
    obtain ⟨k, hk, rfl⟩ := c11 b h2 h3
    obtain ⟨w', q1, q2⟩ := g.2.2 i a1 k w2 j (.inl (by omega)) hi (by omega) ha1.1 hk g2 (by omega) hjt (by rw [h4, e1]) (by omega)
    rw [← h5] at q1 q2
    exact ⟨w', by omega, q1⟩
/-- taking one step -/
theorem wI_up (c : wC K h s cnt al qq dp tl L) (hpl : pl < K 4) (g : wI K h s pl cnt al qq dp tl L I i0 a0 k0) (hi : i0 < tl) (hdL : dp i0 < L) (ha : a0 < K 4) (hk : k0 < cnt) {w j : Nat} (hw : I 61 (5 * std (qq i0) + a0) = nI w) (hwk : wk K h s pl (dp i0) (qq i0) a0 w) (hw31 : w < 2 ^ 30) (hj : j < tl) (ej : qq j = zst K (qq i0) (al k0)) (ed : dp j = dp i0 + 1) (old : I 61 (5 * std (qq j) + al k0 / 16 % K 4) = -1 ∨ ∃ w', I 61 (5 * std (qq j) + al k0 / 16 % K 4) = nI w' ∧ w' < 2 ^ 31 ∧ w + fa K a0 (al k0 / 16 % K 4) < w') : wI K h s pl cnt al qq dp tl L (mm_up I 61 (5 * std (qq j) + al k0 / 16 % K 4) (nI (w + fa K a0 (al k0 / 16 % K 4)))) i0 a0 (k0 + 1) := by
  obtain ⟨ok, c1, c2, c3, c4, c5, c6, c7, c8, c9, c10, c11, c12, c13, c14⟩ := c
  have h4 := ok.p
  have hp : al k0 / 16 % K 4 < K 4 := Nat.mod_lt _ (by omega)
  have hf := fa_lt ok ha hp
  have ix : ∀ i a, i < tl → a < K 4 → 5 * std (qq i) + a = 5 * std (qq j) + al k0 / 16 % K 4 → i = j ∧ a = al k0 / 16 % K 4 := fun i a h1 h2 e => by
    have e1 : std (qq i) = std (qq j) := by omega
    exact ⟨c5 i j h1 hj (std_inj ((c6 i h1).lt ok) ((c6 j hj).lt ok) e1), by omega⟩
  refine ⟨fun i a h1 h2 => ?_, ?_, fun i a k w2 j2 d1 d2 d3 d4 d5 d6 d7 d8 d9 d10 => ?_⟩
  · by_cases e : 5 * std (qq i) + a = 5 * std (qq j) + al k0 / 16 % K 4
    · obtain ⟨e1, e2⟩ := ix i a h1 h2 e
      subst e1; subst e2
      refine .inr ⟨_, up_s _ _ _ _, ?_⟩
      rw [ed]
      exact ⟨qq i0, a0, w, al k0, hwk, (c10 k0 hk).1, (c10 k0 hk).2, ej, rfl, rfl⟩
    · rw [up_k e]; exact g.1 i a h1 h2
  · rw [up_k (fun e => ?_)]
    · exact g.2.1
    · have := (ix 0 pl (by omega) hpl e).1
      subst this; omega
  · have src : ¬ 5 * std (qq i) + a = 5 * std (qq j) + al k0 / 16 % K 4 := fun e => by
      have e1 := (ix i a d2 d4 e).1
      have : i ≤ i0 := by rcases d1 with z | ⟨z, -⟩ <;> omega
      have := c8 i i0 this hi
      rw [e1] at this; omega
    rw [up_k src] at d6
    have hp2 : al k / 16 % K 4 < K 4 := Nat.mod_lt _ (by omega)
    by_cases e : 5 * std (qq j2) + al k / 16 % K 4 = 5 * std (qq j) + al k0 / 16 % K 4
    · obtain ⟨e1, e2⟩ := ix j2 _ d8 hp2 e
      refine ⟨_, by rw [e]; exact up_s _ _ _ _, ?_⟩
      by_cases en : wD i0 a0 k0 i a k
      · obtain ⟨w', q1, q2⟩ := g.2.2 i a k w2 j2 en d2 d3 d4 d5 d6 d7 d8 d9 d10
        rw [e] at q1
        have hfk := fa_lt ok d4 hp2
        rcases old with z | ⟨w3, z1, z2, z3⟩
        · rw [z, eq_comm] at q1
          by_cases b31 : w' < 2 ^ 31
          · rw [z_m1 b31] at q1; exact q1.elim
          · omega
        · rw [z1] at q1
          by_cases b31 : w' < 2 ^ 31
          · rw [z_eq z2 b31] at q1; omega
          · omega
      · have e3 : i = i0 ∧ a = a0 ∧ k = k0 := by
          unfold wD at d1 en
          omega
        obtain ⟨x1, x2, x3⟩ := e3
        subst x1; subst x2; subst x3
        rw [hw, z_eq (by omega) d7] at d6
        omega
    · rw [up_k e]
      by_cases en : wD i0 a0 k0 i a k
      · exact g.2.2 i a k w2 j2 en d2 d3 d4 d5 d6 d7 d8 d9 d10
      · have e3 : i = i0 ∧ a = a0 ∧ k = k0 := by
          unfold wD at d1 en
          omega
        obtain ⟨x1, x2, x3⟩ := e3
        subst x1; subst x2; subst x3
        have : j2 = j := c5 j2 j d8 hj (by rw [d9, ej])
        exact absurd (by rw [this]) e
end WM
