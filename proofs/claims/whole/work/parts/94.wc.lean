/-! the class's walk: five cells at once; the search of one person -/
section WCc
variable {d n1 n2 : Nat} {b1 b2 p q : Bool} {ad : Nat → Nat} {J : mmJ} {Q : mmQ} {I0 : mmI}
theorem ct_97 {i : Nat} {x : Int32} (hi : i < 3456) (k : ∀ I, fr [(74, [])] I0 I → (∀ a, a < 5 → I 74 (i * 5 + a) = x) → (∀ z, z < i * 5 ∨ i * 5 + 5 ≤ z → I 74 z = I0 74 z) → Q none ((mm_fl true b1 b2, n1, n2, p, q, ad), I, J)) : mm_wc (d + 1) 97 [.ref 70, .int (nI i), .int x] ((mm_fl true b1 b2, n1, n2, p, q, ad), I0, J) Q := by
  have lp : ∀ n a, n + a = 5 → ∀ I, fr [(74, [])] I0 I → (∀ a', a' < a → I 74 (i * 5 + a') = x) → (∀ z, z < i * 5 ∨ i * 5 + 5 ≤ z → I 74 z = I0 74 z) → mm_w Q (mm_wc d) bk_97 2 [some (.ref 70), some (.int (nI i)), some (.int x), some (.int (nI a))] [] ((mm_fl true b1 b2, n1, n2, p, q, ad), I, J) := by
    intro n
    induction n with
    | zero =>
      intro a ha I hf h1 h2
      refine fx_97_2 ?_
      rw [z_le (by decide) (by omega)]
      exact ⟨fun _ => k I hf (fun a' ha' => h1 a' (by omega)) h2, fun e => absurd (by omega) e⟩
    | succ n ih =>
      intro a ha I hf h1 h2
      refine fx_97_2 ?_
      rw [z_le (by decide) (by omega), z_mul, z_add (i * 5), z_ix (by omega), z_add]
      refine ⟨fun e => absurd e (by omega), fun _ => ⟨z_in (by omega) (by decide), ih (a + 1) (by omega) _ (hf.up rfl) (fun a' ha' => ?_) (fun z hz => ?_)⟩⟩
      · by_cases e : a' = a
        · subst e; exact up_s _ _ _ _
        · rw [up_k (by omega)]; exact h1 a' (by omega)
      · rw [up_k (by omega)]; exact h2 z hz
  exact fx_97 (lp 5 0 rfl I0 fr.rf (fun a' ha' => absurd ha' (Nat.not_lt_zero _)) (fun _ _ => rfl))
end WCc
/-- what a search of person h that found says -/
def pW (K : Nat → Nat) (h s cnt : Nat) (al qq dp : Nat → Nat) (tl hd f L : Nat) : Prop :=
  bf cnt (fun k v => zst K v (al k)) (kby K h) s qq dp tl hd f ∧ (∀ i, i < tl → dp i ≤ i) ∧ tl ≤ 3456 ∧ (∀ i, i < tl → vm K False (qq i)) ∧ (∀ k, k < L → ¬ goal0 (kby K h) s k) ∧ dp (tl - 1) = L ∧ qq (tl - 1) / 8 = 0 ∧ (∀ i, i < tl - 1 → ¬ qq i / 8 = 0) ∧ hd < tl ∧ (L = 0 ∧ tl = 1 ∨ dp hd + 1 = L) ∧ (∀ m m', kby K h m m' ↔ ∃ k, k < cnt ∧ m' = zst K m (al k)) ∧ okR K
section WCd
variable {K : Nat → Nat} {h s cnt : Nat} {al qq dp : Nat → Nat} {tl hd f L : Nat}
/-- a step of the person: it leads to a later one of the next level that can still be in time, or not at all -/
theorem pW_ck (g : pW K h s cnt al qq dp tl hd f L) {i b : Nat} (hi : i < tl) (hdi : dp i < L) (hb : b < nB K) (hh : b / 16 / K 4 = h) : (∃ j, j < tl ∧ qq j = zst K (qq i) b ∧ i < j ∧ dp j = dp i + 1 ∧ onW (kby K h) qq dp L j) ↔ goal0 (kby K h) (zst K (qq i) b) (L - dp i - 1) := by
  obtain ⟨h1, h2, h3, h4, h5, h6, h7, h8, h9, h10, h11, ok⟩ := id g
  have mono := h1.2.2.2.2.2.2.1
  obtain ⟨k, hk, ek⟩ := (h11 (qq i) (zst K (qq i) b)).mp ⟨b, hb, hh, rfl⟩
  rw [ek]
  constructor
  · rintro ⟨j, hj, e1, e2, e3, -, e5⟩
    rw [e3] at e5
    rw [← e1, show L - dp i - 1 = L - (dp i + 1) by omega]
    exact e5
  · intro gg
    by_cases hih : i < hd
    · obtain ⟨j, hj, e1, e2⟩ := h1.2.2.2.2.2.2.2.1 i hih k hk
      have := (bf_st (k := k) h1 h5 hj e1 hdi e2).mpr gg
      refine ⟨j, hj, e1, ?_, this.1, this.2⟩
      rcases Nat.lt_or_ge i j with y | y
      · exact y
      · have := mono j i y hi
        omega
    · have d1 := mono hd i (by omega) hi
      have d2 : dp i + 1 = L := by omega
      rw [show L - dp i - 1 = 0 by omega] at gg
      obtain ⟨x, e1, e2⟩ := gg
      rw [show x = zst K (qq i) (al k) from e1] at e2
      have v1 : vm K False (zst K (qq i) (al k)) := cstp_vm ok (h4 i hi) (fun i hi => by rw [Nat.zero_testBit] at hi; cases hi)
      have z1 := vm_0 ok v1 e2
      have z2 := vm_0 ok (h4 (tl - 1) (by omega)) h7
      refine ⟨tl - 1, by omega, by rw [z1, z2], ?_, by omega, by omega, ?_⟩
      · rcases Nat.lt_or_ge i (tl - 1) with y | y
        · exact y
        · have : i = tl - 1 := by omega
          rw [this] at d2; omega
      · rw [h6, Nat.sub_self]; exact ⟨_, rfl, h7⟩
end WCd
