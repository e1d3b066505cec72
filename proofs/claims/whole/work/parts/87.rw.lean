/-! rows: what the nearest-first queue says of those that lie on a shortest way -/
theorem rch_tr {sc : Nat → Nat → Prop} {s m : Nat} {a : Nat} (h : rch sc s a m) : ∀ b x, rch sc m b x → rch sc s (a + b) x
  | 0, x, e => by rw [show x = m from e]; exact h
  | b + 1, x, ⟨y, h1, h2⟩ => ⟨y, rch_tr h b y h1, h2⟩
theorem rch_un {sc : Nat → Nat → Prop} {s : Nat} : ∀ n x, rch sc s (n + 1) x → ∃ m, sc s m ∧ rch sc m n x
  | 0, x, ⟨y, h1, h2⟩ => ⟨x, by rw [← show y = s from h1]; exact h2, rfl⟩
  | n + 1, x, ⟨y, h1, h2⟩ => by
    obtain ⟨m, a, b⟩ := rch_un n y h1
    exact ⟨m, a, y, b, h2⟩
theorem goal0_s {sc : Nat → Nat → Prop} {s n : Nat} : goal0 sc s (n + 1) ↔ ∃ m, sc s m ∧ goal0 sc m n := by
  constructor
  · rintro ⟨x, h1, h2⟩
    obtain ⟨m, a, b⟩ := rch_un n x h1
    exact ⟨m, a, x, b, h2⟩
  · rintro ⟨m, a, x, b, h2⟩
    refine ⟨x, ?_, h2⟩
    rw [Nat.add_comm]
    exact rch_tr (a := 1) ⟨s, rfl, a⟩ n x b
theorem lst {P : Nat → Prop} : ∀ n, P n → ∃ b, b ≤ n ∧ P b ∧ ∀ b', b' < b → ¬ P b' := by
  intro n
  induction n using Nat.strongRecOn with
  | ind n ih =>
    intro h
    by_cases hx : ∃ b, b < n ∧ P b
    · obtain ⟨b, h1, h2⟩ := hx
      obtain ⟨c, c1, c2, c3⟩ := ih b h1 h2
      exact ⟨c, by omega, c2, c3⟩
    · exact ⟨n, Nat.le_refl _, h, fun b hb hp => hx ⟨b, hb, hp⟩⟩
theorem rowP_ex {K : Nat → Nat} : ∀ {n m : Nat}, goal0 (kall K) m n → ∃ w, rowP K n m w
  | 0, _, _ => ⟨fun _ => 0, trivial⟩
  | n + 1, m, h => by
    obtain ⟨m', ⟨b, hb, -, rfl⟩, h2⟩ := goal0_s.mp h
    obtain ⟨c, c1, c2, c3⟩ := lst (P := fun b => goal0 (kall K) (zst K m b) n) b h2
    obtain ⟨w, hw⟩ := rowP_ex c2
    exact ⟨fun i => match i with | 0 => c | i + 1 => w i, Nat.lt_of_le_of_lt c1 hb, c2, c3, hw⟩
/-- the moment after t breaths of w -/
def rs (K : Nat → Nat) (m : Nat) (w : Nat → Nat) : Nat → Nat
  | 0 => m
  | t + 1 => zst K (rs K m w t) (w t)
theorem rs_sh {K : Nat → Nat} {m : Nat} {w : Nat → Nat} : ∀ t, rs K m w (t + 1) = rs K (zst K m (w 0)) (fun i => w (i + 1)) t
  | 0 => rfl
  | t + 1 => by show zst K (rs K m w (t + 1)) (w (t + 1)) = _; rw [rs_sh t]; rfl
theorem rowP_at {K : Nat → Nat} : ∀ {n m : Nat} {w : Nat → Nat}, rowP K n m w → ∀ t, t < n → w t < nB K ∧ goal0 (kall K) (zst K (rs K m w t) (w t)) (n - t - 1) ∧ ∀ b, b < w t → ¬ goal0 (kall K) (zst K (rs K m w t) b) (n - t - 1)
  | 0, _, _, _, t, ht => absurd ht (Nat.not_lt_zero _)
  | n + 1, m, w, ⟨a1, a2, a3, a4⟩, t, ht => by
    cases t with
    | zero => exact ⟨a1, a2, a3⟩
    | succ t =>
      have := rowP_at a4 t (by omega)
      rw [rs_sh, show n + 1 - (t + 1) - 1 = n - t - 1 by omega]
      exact this
section RW
variable {cnt : Nat} {st : Nat → Nat → Nat} {sc : Nat → Nat → Prop} {s : Nat} {q dp : Nat → Nat} {tl hd f L : Nat}
/-- on a shortest way -/
def onW (sc : Nat → Nat → Prop) (q dp : Nat → Nat) (L i : Nat) : Prop := dp i ≤ L ∧ goal0 sc (q i) (L - dp i)
theorem bf_le (h : bf cnt st sc s q dp tl hd f) (hm : ∀ k, k < L → ¬ goal0 sc s k) {j n : Nat} (hj : j < tl) (hg : goal0 sc (q j) n) : L ≤ dp j + n := by
  obtain ⟨x, h1, h2⟩ := hg
  rcases Nat.lt_or_ge (dp j + n) L with z | z
  · exact absurd ⟨x, rch_tr (h.2.2.2.2.2.1 j hj) n x h1, h2⟩ (hm _ z)
  · exact z
/-- which steps lead on -/
theorem bf_st (h : bf cnt st sc s q dp tl hd f) (hm : ∀ k, k < L → ¬ goal0 sc s k) {i j k : Nat} (hj : j < tl) (e : q j = st k (q i)) (hi : dp i < L) (hd1 : dp j ≤ dp i + 1) : (dp j = dp i + 1 ∧ onW sc q dp L j) ↔ goal0 sc (st k (q i)) (L - dp i - 1) := by
  rw [← e]
  constructor
  · rintro ⟨e1, -, g⟩
    rw [e1] at g
    rw [show L - dp i - 1 = L - (dp i + 1) by omega]
    exact g
  · intro g
    have := bf_le h hm hj g
    have e1 : dp j = dp i + 1 := by omega
    refine ⟨e1, by omega, ?_⟩
    rw [e1, show L - (dp i + 1) = L - dp i - 1 by omega]
    exact g
theorem onW_s (hsc : ∀ m m', sc m m' ↔ ∃ k, k < cnt ∧ m' = st k m) {i : Nat} (hi : dp i < L) : onW sc q dp L i ↔ ∃ k, k < cnt ∧ goal0 sc (st k (q i)) (L - dp i - 1) := by
  unfold onW
  rw [show L - dp i = (L - dp i - 1) + 1 by omega, goal0_s, Nat.add_sub_cancel]
  constructor
  · rintro ⟨-, m, h1, h2⟩
    obtain ⟨k, hk, rfl⟩ := (hsc _ _).mp h1
    exact ⟨k, hk, h2⟩
  · rintro ⟨k, hk, h2⟩
    exact ⟨by omega, _, (hsc _ _).mpr ⟨k, hk, rfl⟩, h2⟩
/-- the first step that leads on is the row's -/
theorem row_k {K F : Nat → Nat} {Pb : Nat → Prop} {e : Prop} {B : Nat} {al : Nat → Nat} {G : Nat → Prop} {b0 : Nat} (hal : alw F Pb e B cnt al) (hP : ∀ b, b < B → Pb b) (hG : ∀ b b', b < B → b' < B → F b = F b' → (G b ↔ G b')) (hb : b0 < B) (h1 : G b0) (h2 : ∀ b, b < b0 → ¬ G b) {k : Nat} (hk : k < cnt) (g : G (al k)) (hn : ∀ k', k' < k → ¬ G (al k')) : al k = b0 := by
  obtain ⟨a0, a1, a2, a3⟩ := hal
  obtain ⟨k', hk', h3, h4, -⟩ := a3 b0 hb (hP b0 hb)
  have g' : G (al k') := (hG _ _ (a1 k' hk').1 hb h4).mpr h1
  have e1 : al k' = b0 := by
    rcases Nat.lt_or_ge (al k') b0 with z | z
    · exact absurd g' (h2 _ z)
    · omega
  rcases Nat.lt_trichotomy k k' with z | z | z
  · have := a2 k k' z hk'
    exact absurd g (h2 _ (by omega))
  · rw [z]; exact e1
  · exact absurd g' (hn k' z)
end RW
