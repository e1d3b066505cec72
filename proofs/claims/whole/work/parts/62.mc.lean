/-! the model: behind a breath -/
theorem or_mul {a h k : Nat} (ha : a < 2 ^ k) : a ||| h * 2 ^ k = a + h * 2 ^ k := by
  have := Nat.shiftLeft_add_eq_or_of_lt ha h
  rw [Nat.shiftLeft_eq] at this
  rw [Nat.or_comm, ← this, Nat.add_comm]
def std (m : Nat) : Nat := m / 8 + m % 8 * 2048
def zstp (R : Nat → Nat) (th : Nat) (N : Nat → Nat) (f m : Nat) : Nat :=
  (bL (m / 8) f (bH (ofK R 3 &&& th) (m / 8) (dzs (ofK R 3) (R 3) (m % 8)) f) ||| bG (ofK R 2 &&& th) N (bL (m / 8) f (bH (ofK R 3 &&& th) (m / 8) (dzs (ofK R 3) (R 3) (m % 8)) f)) (R 3)) * 8 + cde (ofK R 3) (bH (ofK R 3 &&& th) (m / 8) (dzs (ofK R 3) (R 3) (m % 8)) f) (R 3)
theorem bH_le (T b z f : Nat) : bH T b z f ≤ b := Nat.le_trans (sd_le _ _) (Nat.le_trans Nat.and_le_left Nat.and_le_left)
theorem bL_lt {b f h n : Nat} (hb : b < 2 ^ n) (hh : h < 2 ^ n) : bL b f h < 2 ^ n := Nat.or_lt_two_pow (sd_lt hb) hh
theorem bG_lt {A : Nat} {N : Nat → Nat} {l n k : Nat} (h : n ≤ k) : bG A N l n < 2 ^ k := Nat.lt_of_lt_of_le (bset_lt _ _) (Nat.pow_le_pow_right (by decide) h)
theorem zbn_lt {R : Nat → Nat} (ok : okR R) {th : Nat} {N : Nat → Nat} {f b z : Nat} {k : Nat} (hb : b < 2 ^ k) (hk : R 3 ≤ k) : bL b f (bH (ofK R 3 &&& th) b z f) ||| bG (ofK R 2 &&& th) N (bL b f (bH (ofK R 3 &&& th) b z f)) (R 3) < 2 ^ k :=
  Nat.or_lt_two_pow (bL_lt hb (Nat.lt_of_le_of_lt (bH_le _ _ _ _) hb)) (bG_lt hk)
theorem zstp_d {R : Nat → Nat} (ok : okR R) {th : Nat} {N : Nat → Nat} {f m : Nat} : zstp R th N f m / 8 = bL (m / 8) f (bH (ofK R 3 &&& th) (m / 8) (dzs (ofK R 3) (R 3) (m % 8)) f) ||| bG (ofK R 2 &&& th) N (bL (m / 8) f (bH (ofK R 3 &&& th) (m / 8) (dzs (ofK R 3) (R 3) (m % 8)) f)) (R 3) ∧ zstp R th N f m % 8 = cde (ofK R 3) (bH (ofK R 3 &&& th) (m / 8) (dzs (ofK R 3) (R 3) (m % 8)) f) (R 3) := by
  have h : cde (ofK R 3) (bH (ofK R 3 &&& th) (m / 8) (dzs (ofK R 3) (R 3) (m % 8)) f) (R 3) < 2 ^ 3 := cde_lt ok.t
  unfold zstp
  omega
theorem zstp_lt {R : Nat → Nat} (ok : okR R) {th : Nat} {N : Nat → Nat} {f m k : Nat} (hm : m / 8 < 2 ^ k) (hk : R 3 ≤ k) : zstp R th N f m / 8 < 2 ^ k := by
  rw [(zstp_d ok).1]; exact zbn_lt ok hm hk
theorem std_lt {m : Nat} (h : m / 8 < 2 ^ 11) : std m < 16384 := by unfold std; omega
theorem std_inj {m m' : Nat} (h : m / 8 < 2 ^ 11) (h' : m' / 8 < 2 ^ 11) (e : std m = std m') : m = m' := by unfold std at e; omega
theorem std_b {m : Nat} (h : m / 8 < 2 ^ 11) : std m % 2 ^ 11 = m / 8 ∧ std m / 2 ^ 11 = m % 8 := by unfold std; omega
/-- what the model's breaths rest on -/
def mW (I : mmI) (R : Nat → Nat) (F N : Nat → Nat) (th : Nat) : Prop := mR I R ∧ (∀ c, c < 11 → I 54 c = nI (N c)) ∧ (∀ c, c < 11 → N c < 2 ^ 11) ∧ I 46 27 = nI th ∧ (∀ b, b < nB R → I 53 b = nI (F b)) ∧ (∀ b, b < nB R → F b < 2 ^ 11)
section MC
variable {d n1 n2 : Nat} {fl : Nat → Bool} {p q : Bool} {ad : Nat → Nat} {I : mmI} {J : mmJ} {Q : mmQ} {R F N : Nat → Nat} {th : Nat}
theorem ct_238 (hW : mW I R F N th) {m b : Nat} (hm : m / 8 < 2 ^ 11) (hb : b < nB R) (h : Q (some (.int (nI (std (zstp R th N (F b) m))))) ((fl, n1, n2, p, q, ad), I, J)) : mm_wc (d + 3) 238 [.ref 46, .int (nI (std m)), .int (nI b)] ((fl, n1, n2, p, q, ad), I, J) Q := by
  obtain ⟨hR, hN, hNl, hth, hF, hFl⟩ := hW
  have hs := std_lt hm
  have hnb := nB_le hR.1
  have h3 := hR.1.c
  refine fx_238 ?_
  refine ct_237 ⟨_, _, _, rfl, rfl, ?_⟩
  rw [(std_b hm).1]
  refine ct_236 hR (by omega) ⟨_, _, _, rfl, rfl, ?_⟩
  rw [(std_b hm).2, z_ix (by omega), hF b hb]
  refine ⟨z_in (by omega) (by decide), ?_⟩
  refine ct_212 hR hN hNl hth ⟨_, _, _, rfl, rfl, ?_⟩
  have h1 := zbn_lt hR.1 (th := th) (N := N) (f := F b) (z := dzs (ofK R 3) (R 3) (m % 8)) hm (by omega)
  have h2 := bH_le (ofK R 3 &&& th) (m / 8) (dzs (ofK R 3) (R 3) (m % 8)) (F b)
  rw [or_mul (k := 14) (by omega)]
  obtain ⟨e1, e2⟩ := zstp_d hR.1 (th := th) (N := N) (f := F b) (m := m)
  generalize bH (ofK R 3 &&& th) (m / 8) (dzs (ofK R 3) (R 3) (m % 8)) (F b) = hh at *
  generalize bL (m / 8) (F b) hh ||| bG (ofK R 2 &&& th) N (bL (m / 8) (F b) hh) (R 3) = ll at *
  refine ct_213 ⟨_, _, _, rfl, rfl, ?_⟩
  refine ct_214 (by omega) ⟨_, _, _, rfl, rfl, ?_⟩
  rw [show (ll + hh * 2 ^ 14) % 2 ^ 14 = ll by omega, show (ll + hh * 2 ^ 14) / 2 ^ 14 = hh by omega]
  refine ct_235 hR (by omega) ⟨_, _, _, rfl, rfl, ?_⟩
  rw [or_mul (by omega), ← e1, ← e2]
  exact h
end MC
