/-! the model: small methods, a breath -/
def ofK (R : Nat → Nat) (k : Nat) : Nat := bset (fun c => R (35 + c) == k) (R 3)
def dzs (T n code : Nat) : Nat := bset (fun c => T.testBit c && code.testBit (popc T c)) n
def cde (T s : Nat) : Nat → Nat
  | 0 => 0
  | c + 1 => if T.testBit c = true ∧ s.testBit c = true then cde T s c ||| 2 ^ popc T c else cde T s c
def bH (T burn daze fan : Nat) : Nat := sd ((burn &&& fan) &&& T) daze
def bL (burn fan held : Nat) : Nat := sd burn fan ||| held
def bG (A : Nat) (N : Nat → Nat) (left n : Nat) : Nat := bset (fun c => (sd A left).testBit c && (N c &&& left != 0)) n
def nB (R : Nat → Nat) : Nat := 16 * R 4 * R 6
def okR (R : Nat → Nat) : Prop := (1 ≤ R 3 ∧ R 3 ≤ 10) ∧ (1 ≤ R 4 ∧ R 4 ≤ 5) ∧ R 5 ≤ 4 ∧ (1 ≤ R 6 ∧ R 6 ≤ 4) ∧ R 1 ≤ 20 ∧ (1 ≤ R 2 ∧ R 2 ≤ 9) ∧ R 7 ≤ 1 ∧ R 8 ≤ 1 ∧ R 9 < 2 ^ R 3 ∧ (∀ k, 10 ≤ k → k < 13 → R k ≤ 9) ∧ (R 7 = 1 → 1 ≤ R 10 + R 11 + R 12) ∧ (∀ k, 13 ≤ k → k < 64 → R k ≤ 20) ∧ (∀ k, 64 ≤ k → k < 72 → R k ≤ 30) ∧ popc (ofK R 3) (R 3) ≤ 3
def mR (I : mmI) (R : Nat → Nat) : Prop := okR R ∧ ∀ k, k < 72 → I 49 k = nI (R k)
theorem nB_le {R : Nat → Nat} (h : okR R) : nB R ≤ 320 := by
  obtain ⟨-, h4, -, h6, -⟩ := h
  unfold nB
  have : R 4 * R 6 ≤ 5 * 4 := Nat.mul_le_mul h4.2 h6.2
  rw [Nat.mul_assoc]; omega
theorem okR.c {R : Nat → Nat} (h : okR R) : 1 ≤ R 3 ∧ R 3 ≤ 10 := h.1
theorem okR.p {R : Nat → Nat} (h : okR R) : 1 ≤ R 4 ∧ R 4 ≤ 5 := h.2.1
theorem okR.s {R : Nat → Nat} (h : okR R) : R 5 ≤ 4 := h.2.2.1
theorem okR.h {R : Nat → Nat} (h : okR R) : 1 ≤ R 6 ∧ R 6 ≤ 4 := h.2.2.2.1
theorem okR.xy {R : Nat → Nat} (h : okR R) {k : Nat} (h1 : 13 ≤ k) (h2 : k < 64) : R k ≤ 20 := h.2.2.2.2.2.2.2.2.2.2.2.1 k h1 h2
theorem okR.rs {R : Nat → Nat} (h : okR R) {k : Nat} (h1 : 64 ≤ k) (h2 : k < 72) : R k ≤ 30 := h.2.2.2.2.2.2.2.2.2.2.2.2.1 k h1 h2
theorem okR.t {R : Nat → Nat} (h : okR R) : popc (ofK R 3) (R 3) ≤ 3 := h.2.2.2.2.2.2.2.2.2.2.2.2.2
section MA
variable {d n1 n2 : Nat} {fl : Nat → Bool} {p q : Bool} {ad : Nat → Nat} {I : mmI} {J : mmJ} {Q : mmQ} {R : Nat → Nat}
theorem ct_169 {x y z : Int32} (h : Q (some (.int (bI (decide (¬ x < y ∧ ¬ z < x))))) ((fl, n1, n2, p, q, ad), I, J)) : mm_wc (d + 1) 169 [.int x, .int y, .int z] ((fl, n1, n2, p, q, ad), I, J) Q := by
  refine fx_169 ?_
  by_cases h1 : x < y
  · simpa [h1, bI] using h
  · by_cases h2 : z < x
    · simpa [h1, h2, bI] using h
    · simpa [h1, h2, bI] using h
/-- within 0 .. n - 1 -/
theorem ct_169n {x : Int32} {n : Nat} (hn : 1 ≤ n) (hb : n < 2 ^ 31) (h : Q (some (.int (bI (decide (∃ j, j < n ∧ x = nI j))))) ((fl, n1, n2, p, q, ad), I, J)) : mm_wc (d + 1) 169 [.int x, .int (nI 0), .int (nI n - nI 1)] ((fl, n1, n2, p, q, ad), I, J) Q := by
  refine ct_169 ?_
  rw [z_sub hn]
  have e : (¬ x < nI 0 ∧ ¬ nI (n - 1) < x) ↔ ∃ j, j < n ∧ x = nI j := by
    constructor
    · rintro ⟨h1, h2⟩
      rcases z_ca x with q | ⟨a, ha, rfl⟩
      · exact absurd q h1
      · rw [z_lt (by omega) ha] at h2
        exact ⟨a, by omega, rfl⟩
    · rintro ⟨j, hj, rfl⟩
      rw [z_lt (by omega) (by omega), z_lt (by omega) (by omega)]
      omega
  rw [show decide (¬ x < nI 0 ∧ ¬ nI (n - 1) < x) = decide (∃ j, j < n ∧ x = nI j) from decide_eq_decide.mpr e]
  exact h
theorem ct_170 {a k : Nat} (ha : a < 2 ^ 31) (hk : k < 32) (h : Q (some (.int (bI (a.testBit k)))) ((fl, n1, n2, p, q, ad), I, J)) : mm_wc (d + 1) 170 [.int (nI a), .int (nI k)] ((fl, n1, n2, p, q, ad), I, J) Q := by
  refine fx_170 ?_
  have e : a / 2 ^ k &&& 1 = (a.testBit k).toNat := by rw [Nat.and_one_is_mod, tb_div]
  rw [z_shr ha hk, z_and, e]
  cases hb : a.testBit k
  · rw [hb] at h
    exact ⟨fun _ => h, fun e => by rw [z_eq (by decide) (by decide)] at e; cases e⟩
  · rw [hb] at h
    exact ⟨fun e => absurd rfl e, fun _ => h⟩
theorem lp_171 {s : Nat} (hs : s < 2 ^ 31) (h : Q (some (.int (nI (zcnt s)))) ((fl, n1, n2, p, q, ad), I, J)) : ∀ n k, n + k = 14 → mm_w Q (mm_wc d) bk_171 4 [some (.int (nI s)), some (.int (nI (popc s k))), some (.int (nI k))] [] ((fl, n1, n2, p, q, ad), I, J) := by
  intro n
  induction n with
  | zero =>
    intro k hk
    have : k = 14 := by omega
    subst this
    refine fx_171_4 ⟨fun _ => h, fun e => absurd (by rw [z_le (by decide) (by decide)]; omega) e⟩
  | succ n ih =>
    intro k hk
    refine fx_171_4 ⟨fun e => ?_, fun e => ?_⟩
    · rw [z_le (by decide) (by omega)] at e; omega
    · rw [z_shr hs (by omega), z_and, Nat.and_one_is_mod, z_add, z_add]
      exact ih (k + 1) (by omega)
theorem ct_171 {s : Nat} (hs : s < 2 ^ 31) (h : Q (some (.int (nI (zcnt s)))) ((fl, n1, n2, p, q, ad), I, J)) : mm_wc (d + 1) 171 [.int (nI s)] ((fl, n1, n2, p, q, ad), I, J) Q := fx_171 (lp_171 hs h 14 0 rfl)
theorem ct_205 (hR : mR I R) (h : Q (some (.int (nI (2 ^ R 3 - 1)))) ((fl, n1, n2, p, q, ad), I, J)) : mm_wc (d + 1) 205 [.ref 46] ((fl, n1, n2, p, q, ad), I, J) Q := by
  refine fx_205 ?_
  have := hR.1.c
  rw [hR.2 3 (by decide), z_bit (by omega), z_sub (Nat.one_le_two_pow)]
  exact h
theorem ct_206 (hR : mR I R) (h : Q (some (.int (nI (nB R)))) ((fl, n1, n2, p, q, ad), I, J)) : mm_wc (d + 1) 206 [.ref 46] ((fl, n1, n2, p, q, ad), I, J) Q := by
  refine fx_206 ?_
  rw [hR.2 4 (by decide), hR.2 6 (by decide), z_mul, z_mul]
  exact h
theorem ct_207 (hR : mR I R) {b : Nat} (hb : b < 2 ^ 31) (h : Q (some (.int (nI (b / 16 / R 4)))) ((fl, n1, n2, p, q, ad), I, J)) : mm_wc (d + 1) 207 [.ref 46, .int (nI b)] ((fl, n1, n2, p, q, ad), I, J) Q := by
  refine fx_207 ?_
  have := hR.1.p
  rw [hR.2 4 (by decide), z_div hb (by decide) (by decide), z_div (by omega) (by omega) (by omega)]
  exact ⟨fun e => nI_ne0 (by omega) (by omega) e, h⟩
theorem ct_208 (hR : mR I R) {b : Nat} (hb : b < 2 ^ 31) (h : Q (some (.int (nI (b / 16 % R 4)))) ((fl, n1, n2, p, q, ad), I, J)) : mm_wc (d + 1) 208 [.ref 46, .int (nI b)] ((fl, n1, n2, p, q, ad), I, J) Q := by
  refine fx_208 ?_
  have := hR.1.p
  rw [hR.2 4 (by decide), z_div hb (by decide) (by decide), z_rem (by omega) (by omega) (by omega)]
  exact ⟨fun e => nI_ne0 (by omega) (by omega) e, h⟩
theorem lp_211 (hR : mR I R) {k : Nat} (hk : k < 2 ^ 31) (hk2 : ∀ c, c < R 3 → R (35 + c) < 2 ^ 31) (h : Q (some (.int (nI (ofK R k)))) ((fl, n1, n2, p, q, ad), I, J)) : ∀ n c, n + c = R 3 → mm_w Q (mm_wc d) bk_211 4 [some (.ref 46), some (.int (nI k)), some (.int (nI (bset (fun c => R (35 + c) == k) c))), some (.int (nI c))] [] ((fl, n1, n2, p, q, ad), I, J) := by
  have h3 := hR.1.c
  intro n
  induction n with
  | zero =>
    intro c hc
    have : c = R 3 := by omega
    subst this
    refine fx_211_4 ⟨fun _ => h, fun e => absurd ?_ e⟩
    rw [hR.2 3 (by decide)]
    rw [z_le (by omega) (by omega)]; exact Nat.le_refl _
  | succ n ih =>
    intro c hc
    have hcl : c < R 3 := by omega
    have ihc := ih (c + 1) (by omega)
    refine fx_211_4 ⟨fun e => ?_, fun e => ?_⟩
    · rw [hR.2 3 (by decide), z_le (by omega) (by omega)] at e; omega
    · rw [z_add, z_ix (by omega), hR.2 (35 + c) (by omega), z_eq (hk2 c hcl) hk, z_bit (by omega), z_or, z_or, z_add]
      refine ⟨z_in (by omega) (by decide), fun e => ?_, fun e => ?_⟩
      · simp only [bset, beq_iff_eq, e, if_false] at ihc
        rw [Nat.or_zero]; exact ihc
      · simp only [bset, beq_iff_eq, e, if_true] at ihc
        exact ihc
theorem ct_211 (hR : mR I R) {k : Nat} (hk : k < 2 ^ 31) (h : Q (some (.int (nI (ofK R k)))) ((fl, n1, n2, p, q, ad), I, J)) : mm_wc (d + 1) 211 [.ref 46, .int (nI k)] ((fl, n1, n2, p, q, ad), I, J) Q := by
  have h3 := hR.1.c
  exact fx_211 (lp_211 hR hk (fun c hc => by have := hR.1.xy (k := 35 + c) (by omega) (by omega); omega) h (R 3) 0 (by omega))
theorem ct_213 {a : Nat} (h : Q (some (.int (nI (a % 2 ^ 14)))) ((fl, n1, n2, p, q, ad), I, J)) : mm_wc (d + 1) 213 [.int (nI a)] ((fl, n1, n2, p, q, ad), I, J) Q := by
  refine fx_213 ?_
  rw [z_and, show 16383 = 2 ^ 14 - 1 from rfl, Nat.and_two_pow_sub_one_eq_mod]
  exact h
theorem ct_214 {a : Nat} (ha : a < 2 ^ 31) (h : Q (some (.int (nI (a / 2 ^ 14)))) ((fl, n1, n2, p, q, ad), I, J)) : mm_wc (d + 1) 214 [.int (nI a)] ((fl, n1, n2, p, q, ad), I, J) Q := by
  refine fx_214 ?_
  rw [z_shr ha (by decide)]
  exact h
theorem ct_237 {a : Nat} (h : Q (some (.int (nI (a % 2 ^ 11)))) ((fl, n1, n2, p, q, ad), I, J)) : mm_wc (d + 1) 237 [.int (nI a)] ((fl, n1, n2, p, q, ad), I, J) Q := by
  refine fx_237 ?_
  rw [z_and, show 2047 = 2 ^ 11 - 1 from rfl, Nat.and_two_pow_sub_one_eq_mod]
  exact h
end MA
