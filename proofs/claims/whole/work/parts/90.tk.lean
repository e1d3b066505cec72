/-! teams: what the people of a set can reach -/
theorem sd_or {S h : Nat} (ht : S.testBit h = true) : sd S (2 ^ h) ||| 2 ^ h = S := by
  apply Nat.eq_of_testBit_eq
  intro i
  rw [Nat.testBit_or, sd_tb, tb_2pow]
  by_cases e : h = i
  · subst e; simp [ht]
  · simp [e]
theorem or_sd {S h : Nat} (ht : S.testBit h = false) : sd (S ||| 2 ^ h) (2 ^ h) = S := by
  apply Nat.eq_of_testBit_eq
  intro i
  rw [sd_tb, Nat.testBit_or, tb_2pow]
  by_cases e : h = i
  · subst e; simp [ht]
  · simp [e]
theorem sd_ls {S h : Nat} (ht : S.testBit h = true) : sd S (2 ^ h) < S := by
  have h1 := sd_le S (2 ^ h)
  rcases Nat.lt_or_ge (sd S (2 ^ h)) S with z | z
  · exact z
  · have e : sd S (2 ^ h) = S := by omega
    have := sd_tb S (2 ^ h) h
    rw [e, ht, tb_2pow] at this
    simp at this
theorem or_lt {S h n : Nat} (hS : S < 2 ^ n) (hh : h < n) : S ||| 2 ^ h < 2 ^ n := Nat.or_lt_two_pow hS (Nat.pow_lt_pow_right (by decide) hh)
section TK
variable {K : Nat → Nat} {s S m : Nat}
theorem tch_0 : tch K s 0 m ↔ m = s := by
  constructor
  · rintro ⟨n, hn⟩
    cases n with
    | zero => exact hn.2
    | succ n => obtain ⟨h, -, -, -, ht, -⟩ := hn; rw [Nat.zero_testBit] at ht; cases ht
  · rintro rfl; exact ⟨0, rfl, rfl⟩
theorem tch_s (hS : S ≠ 0) : tch K s S m ↔ ∃ h m' b, h < K 6 ∧ S.testBit h = true ∧ tch K s (sd S (2 ^ h)) m' ∧ b < nB K ∧ b / 16 / K 4 = h ∧ m = zst K m' b := by
  constructor
  · rintro ⟨n, hn⟩
    cases n with
    | zero => exact absurd hn.1 hS
    | succ n =>
      obtain ⟨h, m', b, h1, h2, h3, h4, h5, h6⟩ := hn
      exact ⟨h, m', b, h1, h2, ⟨n, h3⟩, h4, h5, h6⟩
  · rintro ⟨h, m', b, h1, h2, ⟨n, h3⟩, h4, h5, h6⟩
    exact ⟨n + 1, h, m', b, h1, h2, h3, h4, h5, h6⟩
theorem tchn_V (ok : okR K) (hv : vm K False s) : ∀ n S m, tchn K s n S m → vm K False m
  | 0, _, _, h => by rw [h.2]; exact hv
  | n + 1, _, _, ⟨_, m', _, _, _, h3, _, _, h6⟩ => by
    rw [h6]
    exact cstp_vm ok (tchn_V ok hv n _ m' h3) (fun i hi => by rw [Nat.zero_testBit] at hi; cases hi)
theorem tch_V (ok : okR K) (hv : vm K False s) (h : tch K s S m) : vm K False m := by
  obtain ⟨n, hn⟩ := h
  exact tchn_V ok hv n S m hn
theorem tdone_iff (ok : okR K) (hv : vm K False s) : tdone K s S ↔ tch K s S 0 := by
  constructor
  · rintro ⟨m, h1, h2⟩
    rw [← vm_0 ok (tch_V ok hv h1) h2]; exact h1
  · intro h; exact ⟨0, h, rfl⟩
theorem bh_lo {b h k : Nat} (hk : 0 < k) (e : b / 16 / k = h) : 16 * k * h ≤ b ∧ b < 16 * k * (h + 1) := by
  rw [Nat.div_div_eq_div_mul] at e
  have h1 := Nat.div_add_mod b (16 * k)
  have h2 := Nat.mod_lt b (show 0 < 16 * k by omega)
  rw [e] at h1
  rw [Nat.mul_add (16 * k) h 1, Nat.mul_one]
  omega
theorem bh_hi {b h k : Nat} (hk : 0 < k) (h1 : 16 * k * h ≤ b) (h2 : b < 16 * k * (h + 1)) : b / 16 / k = h := by
  rw [Nat.div_div_eq_div_mul]
  apply Nat.div_eq_of_lt_le
  · rw [Nat.mul_comm]; exact h1
  · rw [Nat.mul_comm]; exact h2
end TK
