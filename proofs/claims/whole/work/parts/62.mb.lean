/-! the model: a breath, stands -/
theorem ofK_tb {R : Nat → Nat} {k c : Nat} (hc : c < R 3) : (ofK R k).testBit c = (R (35 + c) == k) := by
  unfold ofK; rw [bset_tb]; simp [hc]
theorem ofK_lt (R : Nat → Nat) (k : Nat) : ofK R k < 2 ^ R 3 := bset_lt _ _
theorem lt_p11 {a : Nat} {R : Nat → Nat} (h : okR R) (ha : a < 2 ^ R 3) : a < 2 ^ 10 := Nat.lt_of_lt_of_le ha (Nat.pow_le_pow_right (by decide) h.c.2)
theorem cde_tb (T s : Nat) (n t : Nat) : (cde T s n).testBit t = true ↔ ∃ c, c < n ∧ T.testBit c = true ∧ s.testBit c = true ∧ popc T c = t := by
  induction n with
  | zero => simp [cde]
  | succ n ih =>
    unfold cde
    split
    · rename_i h
      rw [Nat.testBit_or, tb_2pow, Bool.or_eq_true, ih, decide_eq_true_eq]
      constructor
      · rintro (⟨c, h1, h2⟩ | h1)
        · exact ⟨c, by omega, h2⟩
        · exact ⟨n, by omega, h.1, h.2, h1⟩
      · rintro ⟨c, h1, h2, h3, h4⟩
        by_cases e : c = n
        · subst e; exact .inr h4
        · exact .inl ⟨c, by omega, h2, h3, h4⟩
    · rename_i h
      rw [ih]
      constructor
      · rintro ⟨c, h1, h2⟩; exact ⟨c, by omega, h2⟩
      · rintro ⟨c, h1, h2, h3, h4⟩
        by_cases e : c = n
        · subst e; exact absurd ⟨h2, h3⟩ h
        · exact ⟨c, by omega, h2, h3, h4⟩
theorem cde_lt {T s n k : Nat} (h : popc T n ≤ k) : cde T s n < 2 ^ k := by
  apply Nat.lt_pow_two_of_testBit
  intro i hi
  cases hb : (cde T s n).testBit i
  · rfl
  · obtain ⟨c, h1, h2, h3, h4⟩ := (cde_tb T s n i).mp hb
    have := popc_lt h1 h2
    omega
theorem dzs_tb (T n code c : Nat) : (dzs T n code).testBit c = (decide (c < n) && (T.testBit c && code.testBit (popc T c))) := by
  unfold dzs; rw [bset_tb]
theorem dzs_lt (T n code : Nat) : dzs T n code < 2 ^ n := bset_lt _ _
theorem dzs_cde {T s n : Nat} (hs : ∀ c, s.testBit c = true → c < n ∧ T.testBit c = true) : dzs T n (cde T s n) = s := by
  apply Nat.eq_of_testBit_eq
  intro i
  rw [dzs_tb]
  cases hb : s.testBit i
  · by_cases hi : i < n
    · by_cases ht : T.testBit i = true
      · have : (cde T s n).testBit (popc T i) = false := by
          cases hc : (cde T s n).testBit (popc T i)
          · rfl
          · obtain ⟨c, h1, h2, h3, h4⟩ := (cde_tb T s n _).mp hc
            rw [popc_inj h2 ht h4, hb] at h3; cases h3
        simp [this]
      · simp [ht]
    · simp [hi]
  · obtain ⟨h1, h2⟩ := hs i hb
    have : (cde T s n).testBit (popc T i) = true := (cde_tb T s n _).mpr ⟨i, h1, h2, hb, rfl⟩
    simp [h1, h2, this]
section MB
variable {d n1 n2 : Nat} {fl : Nat → Bool} {p q : Bool} {ad : Nat → Nat} {I : mmI} {J : mmJ} {Q : mmQ} {R : Nat → Nat}
theorem lp_235 (hR : mR I R) {b s : Nat} (hs : s < 2 ^ 31) (h : Q (some (.int (nI (b ||| cde (ofK R 3) s (R 3) * 2 ^ 11)))) ((fl, n1, n2, p, q, ad), I, J)) : ∀ n c, n + c = R 3 → mm_w Q (mm_wc (d + 1)) bk_235 8 [some (.ref 46), some (.int (nI b)), some (.int (nI s)), some (.int (nI (cde (ofK R 3) s c))), some (.int (nI (popc (ofK R 3) c))), some (.int (nI c))] [] ((fl, n1, n2, p, q, ad), I, J) := by
  have h3 := hR.1.c
  intro n
  induction n with
  | zero =>
    intro c hc
    have : c = R 3 := by omega
    subst this
    refine fx_235_8 ⟨fun _ => ?_, fun e => absurd ?_ e⟩
    · rw [z_shl (by decide), z_or]; exact h
    · rw [hR.2 3 (by decide), z_le (by omega) (by omega)]; exact Nat.le_refl _
  | succ n ih =>
    intro c hc
    have hcl : c < R 3 := by omega
    have hk := hR.1.xy (k := 35 + c) (by omega) (by omega)
    have hp := popc_le (ofK R 3) c
    have ihc := ih (c + 1) (by omega)
    rw [popc_succ] at ihc
    have ht := ofK_tb (k := 3) hcl
    refine fx_235_8 ⟨fun e => ?_, fun e => ?_⟩
    · rw [hR.2 3 (by decide), z_le (by omega) (by omega)] at e; omega
    · rw [z_add, z_ix (by omega), hR.2 (35 + c) (by omega), z_eq (by omega) (by decide)]
      refine ⟨z_in (by omega) (by decide), fun e => ?_, fun e => ?_⟩
      · have ht : (ofK R 3).testBit c = true := by rw [ht, e]; rfl
        rw [ht] at ihc
        refine ct_170 hs (by omega) ⟨_, _, _, rfl, rfl, ?_⟩
        rw [bI_0, z_bit (by omega), z_or, z_or, z_add, z_add]
        refine ⟨fun e2 => ?_, fun e2 => ?_⟩
        · simp only [cde, ht, e2] at ihc
          rw [Nat.or_zero]
          exact ihc
        · have e2 : s.testBit c = true := by simpa using e2
          simp only [cde, ht, e2] at ihc
          exact ihc
      · have ht : (ofK R 3).testBit c = false := by rw [ht]; simpa using e
        simp only [cde, ht] at ihc
        rw [z_add]
        exact ihc
theorem ct_235 (hR : mR I R) {b s : Nat} (hs : s < 2 ^ 31) (h : Q (some (.int (nI (b ||| cde (ofK R 3) s (R 3) * 2 ^ 11)))) ((fl, n1, n2, p, q, ad), I, J)) : mm_wc (d + 2) 235 [.ref 46, .int (nI b), .int (nI s)] ((fl, n1, n2, p, q, ad), I, J) Q :=
  fx_235 (lp_235 hR hs h (R 3) 0 (by omega))
theorem lp_236 (hR : mR I R) {s : Nat} (hs : s < 2 ^ 31) (h : Q (some (.int (nI (dzs (ofK R 3) (R 3) (s / 2 ^ 11))))) ((fl, n1, n2, p, q, ad), I, J)) : ∀ n c, n + c = R 3 → mm_w Q (mm_wc (d + 1)) bk_236 7 [some (.ref 46), some (.int (nI s)), some (.int (nI (dzs (ofK R 3) c (s / 2 ^ 11)))), some (.int (nI (popc (ofK R 3) c))), some (.int (nI c))] [] ((fl, n1, n2, p, q, ad), I, J) := by
  have h3 := hR.1.c
  intro n
  induction n with
  | zero =>
    intro c hc
    have : c = R 3 := by omega
    subst this
    refine fx_236_7 ⟨fun _ => h, fun e => absurd ?_ e⟩
    rw [hR.2 3 (by decide), z_le (by omega) (by omega)]; exact Nat.le_refl _
  | succ n ih =>
    intro c hc
    have hcl : c < R 3 := by omega
    have hk := hR.1.xy (k := 35 + c) (by omega) (by omega)
    have hp := popc_le (ofK R 3) c
    have ihc := ih (c + 1) (by omega)
    rw [popc_succ] at ihc
    have ht := ofK_tb (k := 3) hcl
    refine fx_236_7 ⟨fun e => ?_, fun e => ?_⟩
    · rw [hR.2 3 (by decide), z_le (by omega) (by omega)] at e; omega
    · rw [z_add, z_ix (by omega), hR.2 (35 + c) (by omega), z_eq (by omega) (by decide)]
      refine ⟨z_in (by omega) (by decide), fun e => ?_, fun e => ?_⟩
      · have ht : (ofK R 3).testBit c = true := by rw [ht, e]; rfl
        rw [ht] at ihc
        rw [z_shr hs (by decide)]
        refine ct_170 (Nat.lt_of_le_of_lt (Nat.div_le_self _ _) hs) (by omega) ⟨_, _, _, rfl, rfl, ?_⟩
        rw [bI_0, z_bit (by omega), z_or, z_or, z_add, z_add]
        refine ⟨fun e2 => ?_, fun e2 => ?_⟩
        · simp only [dzs, bset, ht, e2] at ihc
          rw [Nat.or_zero]
          exact ihc
        · have e2 : (s / 2 ^ 11).testBit (popc (ofK R 3) c) = true := by simpa using e2
          simp only [dzs, bset, ht, e2] at ihc
          exact ihc
      · have ht : (ofK R 3).testBit c = false := by rw [ht]; simpa using e
        simp only [dzs, bset, ht] at ihc
        rw [z_add]
        exact ihc
theorem ct_236 (hR : mR I R) {s : Nat} (hs : s < 2 ^ 31) (h : Q (some (.int (nI (dzs (ofK R 3) (R 3) (s / 2 ^ 11))))) ((fl, n1, n2, p, q, ad), I, J)) : mm_wc (d + 2) 236 [.ref 46, .int (nI s)] ((fl, n1, n2, p, q, ad), I, J) Q :=
  fx_236 (lp_236 hR hs h (R 3) 0 (by omega))
theorem lp_212 (hR : mR I R) {N : Nat → Nat} (hN : ∀ c, c < 11 → I 54 c = nI (N c)) (hNl : ∀ c, c < 11 → N c < 2 ^ 11) {a l z : Nat} (ha : a < 2 ^ 31) (h : Q (some (.int (nI (l ||| bset (fun c => a.testBit c && (N c &&& l != 0)) (R 3) ||| z * 2 ^ 14)))) ((fl, n1, n2, p, q, ad), I, J)) : ∀ n c, n + c = R 3 → mm_w Q (mm_wc (d + 1)) bk_212 57 [some (.ref 46), none, none, none, none, some (.int (nI z)), some (.int (nI l)), some (.int (nI a)), some (.int (nI (bset (fun c => a.testBit c && (N c &&& l != 0)) c))), some (.int (nI c))] [] ((fl, n1, n2, p, q, ad), I, J) := by
  have h3 := hR.1.c
  intro n
  induction n with
  | zero =>
    intro c hc
    have : c = R 3 := by omega
    subst this
    refine fx_212_57 ⟨fun _ => ?_, fun e => absurd ?_ e⟩
    · rw [z_shl (by decide), z_or, z_or]; exact h
    · rw [hR.2 3 (by decide), z_le (by omega) (by omega)]; exact Nat.le_refl _
  | succ n ih =>
    intro c hc
    have hcl : c < R 3 := by omega
    have ihc := ih (c + 1) (by omega)
    refine fx_212_57 ⟨fun e => ?_, fun e => ?_⟩
    · rw [hR.2 3 (by decide), z_le (by omega) (by omega)] at e; omega
    · refine ct_170 ha (by omega) ⟨_, _, _, rfl, rfl, ?_⟩
      have hb : N c &&& l < 2 ^ 31 := by
        have := hNl c (by omega)
        have := @Nat.and_le_left (N c) l
        omega
      rw [bI_0, z_bit (by omega), z_or, z_or, z_add, z_ix (by omega), hN c (by omega), z_and, z_eq hb (by decide)]
      refine ⟨fun e2 => ?_, fun e2 => ⟨z_in (by omega) (by decide), fun e3 => ?_, fun e3 => ?_⟩⟩
      · rw [Nat.or_zero]
        simp only [bset, e2] at ihc
        exact ihc
      · rw [Nat.or_zero]
        simp only [bset, e3] at ihc
        simpa using ihc
      · have e2 : a.testBit c = true := by simpa using e2
        have e3 : (N c &&& l != 0) = true := by simpa using e3
        simp only [bset, e2, e3] at ihc
        exact ihc
theorem ct_212 (hR : mR I R) {N : Nat → Nat} (hN : ∀ c, c < 11 → I 54 c = nI (N c)) (hNl : ∀ c, c < 11 → N c < 2 ^ 11) {th b z f : Nat} (hth : I 46 27 = nI th)
    (h : Q (some (.int (nI (bL b f (bH (ofK R 3 &&& th) b z f) ||| bG (ofK R 2 &&& th) N (bL b f (bH (ofK R 3 &&& th) b z f)) (R 3) ||| bH (ofK R 3 &&& th) b z f * 2 ^ 14)))) ((fl, n1, n2, p, q, ad), I, J)) : mm_wc (d + 2) 212 [.ref 46, .int (nI b), .int (nI z), .int (nI f)] ((fl, n1, n2, p, q, ad), I, J) Q := by
  refine fx_212 ?_
  refine ct_211 hR (by decide) ⟨_, _, _, rfl, rfl, ?_⟩
  refine ct_211 hR (by decide) ⟨_, _, _, rfl, rfl, ?_⟩
  rw [hth]
  simp only [z_and, z_andn, z_or]
  have ha : sd (ofK R 2 &&& th) (bL b f (bH (ofK R 3 &&& th) b z f)) < 2 ^ 31 := by
    have h1 := sd_le (ofK R 2 &&& th) (bL b f (bH (ofK R 3 &&& th) b z f))
    have h2 := @Nat.and_le_left (ofK R 2) th
    have h3 := lt_p11 hR.1 (ofK_lt R 2)
    omega
  exact lp_212 (N := N) hR hN hNl ha h (R 3) 0 (by omega)
end MB
