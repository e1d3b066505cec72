/-! nearest first: what a queue of that kind holds -/
def rch (sc : Nat → Nat → Prop) (s : Nat) : Nat → Nat → Prop
  | 0, m => m = s
  | n + 1, m => ∃ m', rch sc s n m' ∧ sc m' m
theorem rch_V {sc : Nat → Nat → Prop} {s : Nat} {V : Nat → Prop} (h0 : V s) (hs : ∀ m m', V m → sc m m' → V m') : ∀ n m, rch sc s n m → V m
  | 0, m, h => by rw [show m = s from h]; exact h0
  | n + 1, m, ⟨m', h1, h2⟩ => hs m' m (rch_V h0 hs n m' h1) h2
theorem rch_congr {sc sc' : Nat → Nat → Prop} {s : Nat} {V : Nat → Prop} (h0 : V s) (hs : ∀ m m', V m → sc m m' → V m') (he : ∀ m m', V m → (sc m m' ↔ sc' m m')) : ∀ n m, rch sc s n m ↔ rch sc' s n m
  | 0, m => Iff.rfl
  | n + 1, m => by
    constructor
    · rintro ⟨m', h1, h2⟩
      exact ⟨m', (rch_congr h0 hs he n m').mp h1, (he m' m (rch_V h0 hs n m' h1)).mp h2⟩
    · rintro ⟨m', h1, h2⟩
      have h1 := (rch_congr h0 hs he n m').mpr h1
      exact ⟨m', h1, (he m' m (rch_V h0 hs n m' h1)).mpr h2⟩
theorem pig : ∀ (N n : Nat) (f : Nat → Nat), (∀ i, i < n → f i < N) → (∀ i j, i < n → j < n → f i = f j → i = j) → n ≤ N
  | 0, n, f, h, _ => by
    rcases Nat.eq_zero_or_pos n with e | e
    · omega
    · have := h 0 e; omega
  | N + 1, n, f, h, hi => by
    by_cases hx : ∃ i, i < n ∧ f i = N
    · obtain ⟨i0, h1, h2⟩ := hx
      have := pig N (n - 1) (fun i => if i = i0 then f (n - 1) else f i) (fun i hin => ?_) (fun i j hin hjn e => ?_)
      · omega
      · split
        · have h3 := h (n - 1) (by omega)
          have h4 : f (n - 1) ≠ N := fun e => by have := hi (n - 1) i0 (by omega) h1 (by omega); omega
          omega
        · rename_i hne
          have h3 := h i (by omega)
          have h4 : f i ≠ N := fun e => hne (hi i i0 (by omega) h1 (by omega))
          omega
      · split at e <;> split at e
        · omega
        · have := hi (n - 1) j (by omega) (by omega) e; omega
        · have := hi i (n - 1) (by omega) (by omega) e; omega
        · exact hi i j (by omega) (by omega) e
    · have := pig N n f (fun i hin => ?_) hi
      · omega
      · have h3 := h i hin
        have h4 : f i ≠ N := fun e => hx ⟨i, hin, e⟩
        omega
def bf (cnt : Nat) (st : Nat → Nat → Nat) (sc : Nat → Nat → Prop) (s : Nat) (q dp : Nat → Nat) (tl hd f : Nat) : Prop :=
  q 0 = s ∧ dp 0 = 0 ∧ 1 ≤ tl ∧ hd ≤ tl ∧ (∀ i j, i < tl → j < tl → q i = q j → i = j) ∧ (∀ i, i < tl → rch sc s (dp i) (q i)) ∧ (∀ i j, i ≤ j → j < tl → dp i ≤ dp j) ∧ (∀ i, i < hd → ∀ k, k < cnt → ∃ j, j < tl ∧ q j = st k (q i) ∧ dp j ≤ dp i + 1) ∧ (hd < tl → (∀ k, k < f → ∃ j, j < tl ∧ q j = st k (q hd)) ∧ ∀ j, j < tl → dp j ≤ dp hd + 1)
section BF
variable {cnt : Nat} {st : Nat → Nat → Nat} {sc : Nat → Nat → Prop} {s : Nat} {q dp : Nat → Nat} {tl hd f : Nat}
theorem bf.start (hq : q 0 = s) (hd0 : dp 0 = 0) : bf cnt st sc s q dp 1 0 0 := by
  refine ⟨hq, hd0, Nat.le_refl _, by omega, fun i j hi hj _ => by omega, fun i hi => ?_, fun i j hi hj => ?_, fun i hi => absurd hi (by omega), fun _ => ⟨fun k hk => absurd hk (by omega), fun j hj => ?_⟩⟩
  · have : i = 0 := by omega
    subst this; rw [hd0]; exact hq
  · have : i = j := by omega
    subst this; exact Nat.le_refl _
  · have : j = 0 := by omega
    subst this; omega
theorem bf.near (hsc : ∀ m m', sc m m' ↔ ∃ k, k < cnt ∧ m' = st k m) (h : bf cnt st sc s q dp tl hd f) : ∀ n m, rch sc s n m → (hd < tl → n ≤ dp hd) → ∃ j, j < tl ∧ q j = m ∧ dp j ≤ n := by
  obtain ⟨h1, h2, h3, h4, h5, h6, h7, h8, h9⟩ := h
  intro n
  induction n with
  | zero => intro m hm _; exact ⟨0, by omega, by rw [show m = s from hm]; exact h1, by omega⟩
  | succ n ih =>
    rintro m ⟨m', hr, hs⟩ hn
    obtain ⟨i, hi, e1, e2⟩ := ih m' hr (fun z => by have := hn z; omega)
    obtain ⟨k, hk, rfl⟩ := (hsc m' m).mp hs
    have hih : i < hd := by
      rcases Nat.lt_or_ge i hd with z | z
      · exact z
      · have := h7 hd i z hi
        have := hn (by omega)
        omega
    obtain ⟨j, hj, e3, e4⟩ := h8 i hih k hk
    exact ⟨j, hj, by rw [e3, e1], by omega⟩
theorem bf.least (hsc : ∀ m m', sc m m' ↔ ∃ k, k < cnt ∧ m' = st k m) (h : bf cnt st sc s q dp tl hd f) {j n : Nat} (hj : j < tl) (hr : rch sc s n (q j)) : dp j ≤ n := by
  have h' := h
  obtain ⟨h1, h2, h3, h4, h5, h6, h7, h8, h9⟩ := h
  by_cases hn : hd < tl → n ≤ dp hd
  · obtain ⟨i, hi, e1, e2⟩ := h'.near hsc n (q j) hr hn
    rw [← h5 i j hi hj e1]; exact e2
  · have hd1 : hd < tl := Classical.byContradiction fun z => hn (fun z2 => absurd z2 z)
    have : ¬ n ≤ dp hd := fun z => hn (fun _ => z)
    have := (h9 hd1).2 j hj
    omega
theorem bf.new (hsc : ∀ m m', sc m m' ↔ ∃ k, k < cnt ∧ m' = st k m) (h : bf cnt st sc s q dp tl hd f) (hh : hd < tl) (hf : f < cnt) {q' dp' : Nat → Nat} (hq : ∀ i, i < tl → q' i = q i) (hqn : q' tl = st f (q hd)) (hdp : ∀ i, i < tl → dp' i = dp i) (hdn : dp' tl = dp hd + 1) (hnew : ∀ i, i < tl → q i ≠ st f (q hd)) : bf cnt st sc s q' dp' (tl + 1) hd (f + 1) := by
  obtain ⟨h1, h2, h3, h4, h5, h6, h7, h8, h9⟩ := h
  obtain ⟨g1, g2⟩ := h9 hh
  have eq : ∀ i, i < tl + 1 → i < tl ∧ q' i = q i ∧ dp' i = dp i ∨ i = tl ∧ q' i = st f (q hd) ∧ dp' i = dp hd + 1 := by
    intro i hi
    by_cases e : i = tl
    · subst e; exact .inr ⟨rfl, hqn, hdn⟩
    · have : i < tl := by omega
      exact .inl ⟨this, hq i this, hdp i this⟩
  refine ⟨by rw [hq 0 (by omega)]; exact h1, by rw [hdp 0 (by omega)]; exact h2, by omega, by omega, fun i j hi hj e => ?_, fun i hi => ?_, fun i j hij hj => ?_, fun i hi k hk => ?_, fun _ => ⟨fun k hk => ?_, fun j hj => ?_⟩⟩
  · rcases eq i hi with ⟨a1, a2, -⟩ | ⟨a1, a2, -⟩ <;> rcases eq j hj with ⟨b1, b2, -⟩ | ⟨b1, b2, -⟩ <;> rw [a2, b2] at e
    · exact h5 i j a1 b1 e
    · exact absurd e (hnew i a1)
    · exact absurd e.symm (hnew j b1)
    · omega
  · rcases eq i hi with ⟨a1, a2, a3⟩ | ⟨a1, a2, a3⟩ <;> rw [a2, a3]
    · exact h6 i a1
    · exact ⟨q hd, h6 hd hh, (hsc _ _).mpr ⟨f, hf, rfl⟩⟩
  · rcases eq i (by omega) with ⟨a1, -, a3⟩ | ⟨a1, -, a3⟩ <;> rcases eq j hj with ⟨b1, -, b3⟩ | ⟨b1, -, b3⟩ <;> rw [a3, b3]
    · exact h7 i j hij b1
    · exact g2 i a1
    · omega
    · exact Nat.le_refl _
  · obtain ⟨j, hj, e1, e2⟩ := h8 i hi k hk
    exact ⟨j, by omega, by rw [hq j hj, hq i (by omega)]; exact e1, by rw [hdp j hj, hdp i (by omega)]; exact e2⟩
  · rw [hq hd hh]
    by_cases e : k = f
    · subst e; exact ⟨tl, by omega, hqn⟩
    · obtain ⟨j, hj, e1⟩ := g1 k (by omega)
      exact ⟨j, by omega, by rw [hq j hj]; exact e1⟩
  · rw [hdp hd hh]
    rcases eq j hj with ⟨b1, -, b3⟩ | ⟨b1, -, b3⟩ <;> rw [b3]
    · exact g2 j b1
    · exact Nat.le_refl _
theorem bf.old (h : bf cnt st sc s q dp tl hd f) (hh : hd < tl) {j : Nat} (hj : j < tl) (hq : q j = st f (q hd)) : bf cnt st sc s q dp tl hd (f + 1) := by
  obtain ⟨h1, h2, h3, h4, h5, h6, h7, h8, h9⟩ := h
  obtain ⟨g1, g2⟩ := h9 hh
  refine ⟨h1, h2, h3, h4, h5, h6, h7, h8, fun _ => ⟨fun k hk => ?_, g2⟩⟩
  by_cases e : k = f
  · subst e; exact ⟨j, hj, hq⟩
  · exact g1 k (by omega)
theorem bf.next (h : bf cnt st sc s q dp tl hd f) (hh : hd < tl) (hf : cnt ≤ f) : bf cnt st sc s q dp tl (hd + 1) 0 := by
  obtain ⟨h1, h2, h3, h4, h5, h6, h7, h8, h9⟩ := h
  obtain ⟨g1, g2⟩ := h9 hh
  refine ⟨h1, h2, h3, by omega, h5, h6, h7, fun i hi k hk => ?_, fun z => ⟨fun k hk => absurd hk (by omega), fun j hj => ?_⟩⟩
  · by_cases e : i = hd
    · subst e
      obtain ⟨j, hj, e1⟩ := g1 k (by omega)
      exact ⟨j, hj, e1, g2 j hj⟩
    · exact h8 i (by omega) k hk
  · have := g2 j hj
    have := h7 hd (hd + 1) (by omega) z
    omega
theorem bf.V {V : Nat → Prop} (h0 : V s) (hV : ∀ m m', V m → sc m m' → V m') (h : bf cnt st sc s q dp tl hd f) {i : Nat} (hi : i < tl) : V (q i) := rch_V h0 hV _ _ (h.2.2.2.2.2.1 i hi)
end BF
/-- the least number with P, or -2 -/
def isD (P : Nat → Prop) (r : Int32) : Prop := (∃ n, r = nI n ∧ n < 2 ^ 31 ∧ P n ∧ ∀ k, k < n → ¬ P k) ∨ (r = -2 ∧ ∀ n, ¬ P n)
theorem isD.uq {P : Nat → Prop} {r r' : Int32} (h : isD P r) (h' : isD P r') : r = r' := by
  rcases h with ⟨n, e, -, h1, h2⟩ | ⟨e, h1⟩ <;> rcases h' with ⟨n', e', -, h1', h2'⟩ | ⟨e', h1'⟩
  · have : n = n' := by
      rcases Nat.lt_trichotomy n n' with z | z | z
      · exact absurd h1 (h2' n z)
      · exact z
      · exact absurd h1' (h2 n' z)
    rw [e, e', this]
  · exact absurd h1 (h1' n)
  · exact absurd h1' (h1 n')
  · rw [e, e']
theorem isD.congr {P P' : Nat → Prop} {r : Int32} (he : ∀ n, P n ↔ P' n) (h : isD P r) : isD P' r := by
  rcases h with ⟨n, e, h0, h1, h2⟩ | ⟨e, h1⟩
  · exact .inl ⟨n, e, h0, (he n).mp h1, fun k hk z => h2 k hk ((he k).mpr z)⟩
  · exact .inr ⟨e, fun n z => h1 n ((he n).mpr z)⟩
