/-! the class: rows filled; tricks; what is lit -/
section CB0
variable {d n1 n2 : Nat} {fl : Nat → Bool} {p q b0 b1 b2 : Bool} {ad : Nat → Nat} {J : mmJ} {Q : mmQ}
theorem ct_279_11 {I0 : mmI} {x : Int32} (k : ∀ I, fr [(11, [])] I0 I → (∀ j, j < 1024 → I 11 j = x) → Q none ((fl, n1, n2, p, q, ad), I, J)) : mm_wc (d + 1) 279 [.ref 11, .int x] ((fl, n1, n2, p, q, ad), I0, J) Q := by
  have lp : ∀ m j, m + j = 1024 → ∀ I, fr [(11, [])] I0 I → (∀ i, i < j → I 11 i = x) → mm_w Q (mm_wc d) bk_279 5 [some (.ref 11), some (.int x), some (.int (nI j)), some (.int (nI 1024))] [] ((fl, n1, n2, p, q, ad), I, J) := by
    intro m
    induction m with
    | zero =>
      intro j hj I hf h1
      have : j = 1024 := by omega
      subst this
      exact fx_279_11_5 ⟨fun _ => k I hf h1, fun e => absurd (by rw [z_le (by decide) (by decide)]; omega) e⟩
    | succ m ih =>
      intro j hj I hf h1
      refine fx_279_11_5 ?_
      rw [z_le (by decide) (by omega), z_ix (by omega), z_add]
      refine ⟨fun e => absurd e (by omega), fun _ => ⟨z_in (by omega) (by decide), ih (j + 1) (by omega) _ (hf.up rfl) (fun i hi => ?_)⟩⟩
      by_cases e : i = j
      · subst e; rw [up_s]
      · rw [up_k e]; exact h1 i (by omega)
  exact fx_279_11 (lp 1024 0 rfl I0 fr.rf (fun i hi => absurd hi (by omega)))
theorem ct_279_13 {I0 : mmI} {x : Int32} (k : ∀ I, fr [(13, [])] I0 I → (∀ j, j < 3 → I 13 j = x) → Q none ((fl, n1, n2, p, q, ad), I, J)) : mm_wc (d + 1) 279 [.ref 13, .int x] ((fl, n1, n2, p, q, ad), I0, J) Q := by
  have lp : ∀ m j, m + j = 3 → ∀ I, fr [(13, [])] I0 I → (∀ i, i < j → I 13 i = x) → mm_w Q (mm_wc d) bk_279 5 [some (.ref 13), some (.int x), some (.int (nI j)), some (.int (nI 3))] [] ((fl, n1, n2, p, q, ad), I, J) := by
    intro m
    induction m with
    | zero =>
      intro j hj I hf h1
      have : j = 3 := by omega
      subst this
      exact fx_279_13_5 ⟨fun _ => k I hf h1, fun e => absurd (by rw [z_le (by decide) (by decide)]; omega) e⟩
    | succ m ih =>
      intro j hj I hf h1
      refine fx_279_13_5 ?_
      rw [z_le (by decide) (by omega), z_ix (by omega), z_add]
      refine ⟨fun e => absurd e (by omega), fun _ => ⟨z_in (by omega) (by decide), ih (j + 1) (by omega) _ (hf.up rfl) (fun i hi => ?_)⟩⟩
      by_cases e : i = j
      · subst e; rw [up_s]
      · rw [up_k e]; exact h1 i (by omega)
  exact fx_279_13 (lp 3 0 rfl I0 fr.rf (fun i hi => absurd hi (by omega)))
theorem ct_279_71 {I0 : mmI} {x : Int32} (k : ∀ I, fr [(71, [])] I0 I → (∀ j, j < 16384 → I 71 j = x) → Q none (((mm_fl true b1 b2), n1, n2, p, q, ad), I, J)) : mm_wc (d + 1) 279 [.ref 71, .int x] (((mm_fl true b1 b2), n1, n2, p, q, ad), I0, J) Q := by
  have lp : ∀ m j, m + j = 16384 → ∀ I, fr [(71, [])] I0 I → (∀ i, i < j → I 71 i = x) → mm_w Q (mm_wc d) bk_279 5 [some (.ref 71), some (.int x), some (.int (nI j)), some (.int (nI 16384))] [] (((mm_fl true b1 b2), n1, n2, p, q, ad), I, J) := by
    intro m
    induction m with
    | zero =>
      intro j hj I hf h1
      have : j = 16384 := by omega
      subst this
      exact fx_279_71_5 ⟨fun _ => k I hf h1, fun e => absurd (by rw [z_le (by decide) (by decide)]; omega) e⟩
    | succ m ih =>
      intro j hj I hf h1
      refine fx_279_71_5 ?_
      rw [z_le (by decide) (by omega), z_ix (by omega), z_add]
      refine ⟨fun e => absurd e (by omega), fun _ => ⟨z_in (by omega) (by decide), ih (j + 1) (by omega) _ (hf.up rfl) (fun i hi => ?_)⟩⟩
      by_cases e : i = j
      · subst e; rw [up_s]
      · rw [up_k e]; exact h1 i (by omega)
  exact fx_279_71 (lp 16384 0 rfl I0 fr.rf (fun i hi => absurd hi (by omega)))
theorem ct_279_83 {I0 : mmI} {x : Int32} (k : ∀ I, fr [(83, [])] I0 I → (∀ j, j < 8192 → I 83 j = x) → Q none (((mm_fl b0 true b2), n1, n2, p, q, ad), I, J)) : mm_wc (d + 1) 279 [.ref 83, .int x] (((mm_fl b0 true b2), n1, n2, p, q, ad), I0, J) Q := by
  have lp : ∀ m j, m + j = 8192 → ∀ I, fr [(83, [])] I0 I → (∀ i, i < j → I 83 i = x) → mm_w Q (mm_wc d) bk_279 5 [some (.ref 83), some (.int x), some (.int (nI j)), some (.int (nI 8192))] [] (((mm_fl b0 true b2), n1, n2, p, q, ad), I, J) := by
    intro m
    induction m with
    | zero =>
      intro j hj I hf h1
      have : j = 8192 := by omega
      subst this
      exact fx_279_83_5 ⟨fun _ => k I hf h1, fun e => absurd (by rw [z_le (by decide) (by decide)]; omega) e⟩
    | succ m ih =>
      intro j hj I hf h1
      refine fx_279_83_5 ?_
      rw [z_le (by decide) (by omega), z_ix (by omega), z_add]
      refine ⟨fun e => absurd e (by omega), fun _ => ⟨z_in (by omega) (by decide), ih (j + 1) (by omega) _ (hf.up rfl) (fun i hi => ?_)⟩⟩
      by_cases e : i = j
      · subst e; rw [up_s]
      · rw [up_k e]; exact h1 i (by omega)
  exact fx_279_83 (lp 8192 0 rfl I0 fr.rf (fun i hi => absurd hi (by omega)))
theorem ct_279_84 {I0 : mmI} {x : Int32} (k : ∀ I, fr [(84, [])] I0 I → (∀ j, j < 8192 → I 84 j = x) → Q none (((mm_fl b0 true b2), n1, n2, p, q, ad), I, J)) : mm_wc (d + 1) 279 [.ref 84, .int x] (((mm_fl b0 true b2), n1, n2, p, q, ad), I0, J) Q := by
  have lp : ∀ m j, m + j = 8192 → ∀ I, fr [(84, [])] I0 I → (∀ i, i < j → I 84 i = x) → mm_w Q (mm_wc d) bk_279 5 [some (.ref 84), some (.int x), some (.int (nI j)), some (.int (nI 8192))] [] (((mm_fl b0 true b2), n1, n2, p, q, ad), I, J) := by
    intro m
    induction m with
    | zero =>
      intro j hj I hf h1
      have : j = 8192 := by omega
      subst this
      exact fx_279_84_5 ⟨fun _ => k I hf h1, fun e => absurd (by rw [z_le (by decide) (by decide)]; omega) e⟩
    | succ m ih =>
      intro j hj I hf h1
      refine fx_279_84_5 ?_
      rw [z_le (by decide) (by omega), z_ix (by omega), z_add]
      refine ⟨fun e => absurd e (by omega), fun _ => ⟨z_in (by omega) (by decide), ih (j + 1) (by omega) _ (hf.up rfl) (fun i hi => ?_)⟩⟩
      by_cases e : i = j
      · subst e; rw [up_s]
      · rw [up_k e]; exact h1 i (by omega)
  exact fx_279_84 (lp 8192 0 rfl I0 fr.rf (fun i hi => absurd hi (by omega)))
theorem ct_279_86 {I0 : mmI} {x : Int32} (k : ∀ I, fr [(86, [])] I0 I → (∀ j, j < 8192 → I 86 j = x) → Q none (((mm_fl b0 true b2), n1, n2, p, q, ad), I, J)) : mm_wc (d + 1) 279 [.ref 86, .int x] (((mm_fl b0 true b2), n1, n2, p, q, ad), I0, J) Q := by
  have lp : ∀ m j, m + j = 8192 → ∀ I, fr [(86, [])] I0 I → (∀ i, i < j → I 86 i = x) → mm_w Q (mm_wc d) bk_279 5 [some (.ref 86), some (.int x), some (.int (nI j)), some (.int (nI 8192))] [] (((mm_fl b0 true b2), n1, n2, p, q, ad), I, J) := by
    intro m
    induction m with
    | zero =>
      intro j hj I hf h1
      have : j = 8192 := by omega
      subst this
      exact fx_279_86_5 ⟨fun _ => k I hf h1, fun e => absurd (by rw [z_le (by decide) (by decide)]; omega) e⟩
    | succ m ih =>
      intro j hj I hf h1
      refine fx_279_86_5 ?_
      rw [z_le (by decide) (by omega), z_ix (by omega), z_add]
      refine ⟨fun e => absurd e (by omega), fun _ => ⟨z_in (by omega) (by decide), ih (j + 1) (by omega) _ (hf.up rfl) (fun i hi => ?_)⟩⟩
      by_cases e : i = j
      · subst e; rw [up_s]
      · rw [up_k e]; exact h1 i (by omega)
  exact fx_279_86 (lp 8192 0 rfl I0 fr.rf (fun i hi => absurd hi (by omega)))
theorem ct_279_87 {I0 : mmI} {x : Int32} (k : ∀ I, fr [(87, [])] I0 I → (∀ j, j < 8192 → I 87 j = x) → Q none (((mm_fl b0 true b2), n1, n2, p, q, ad), I, J)) : mm_wc (d + 1) 279 [.ref 87, .int x] (((mm_fl b0 true b2), n1, n2, p, q, ad), I0, J) Q := by
  have lp : ∀ m j, m + j = 8192 → ∀ I, fr [(87, [])] I0 I → (∀ i, i < j → I 87 i = x) → mm_w Q (mm_wc d) bk_279 5 [some (.ref 87), some (.int x), some (.int (nI j)), some (.int (nI 8192))] [] (((mm_fl b0 true b2), n1, n2, p, q, ad), I, J) := by
    intro m
    induction m with
    | zero =>
      intro j hj I hf h1
      have : j = 8192 := by omega
      subst this
      exact fx_279_87_5 ⟨fun _ => k I hf h1, fun e => absurd (by rw [z_le (by decide) (by decide)]; omega) e⟩
    | succ m ih =>
      intro j hj I hf h1
      refine fx_279_87_5 ?_
      rw [z_le (by decide) (by omega), z_ix (by omega), z_add]
      refine ⟨fun e => absurd e (by omega), fun _ => ⟨z_in (by omega) (by decide), ih (j + 1) (by omega) _ (hf.up rfl) (fun i hi => ?_)⟩⟩
      by_cases e : i = j
      · subst e; rw [up_s]
      · rw [up_k e]; exact h1 i (by omega)
  exact fx_279_87 (lp 8192 0 rfl I0 fr.rf (fun i hi => absurd hi (by omega)))
end CB0
/-- the t-th trick one -/
def tkB (T n t : Nat) : Nat := bset (fun c => T.testBit c && popc T c == t) n
theorem tkB_tb (T n t c : Nat) : (tkB T n t).testBit c = (decide (c < n) && (T.testBit c && popc T c == t)) := by unfold tkB; rw [bset_tb]
theorem tkB_0 (T c : Nat) : tkB T c (popc T c) = 0 := by
  apply Nat.eq_of_testBit_eq
  intro i
  rw [tkB_tb, Nat.zero_testBit]
  by_cases hi : i < c
  · by_cases ht : T.testBit i = true
    · have := popc_lt hi ht
      have : (popc T i == popc T c) = false := by simp; omega
      simp [this]
    · simp [ht]
  · simp [hi]
def litS (K : Nat → Nat) (S : Nat) : Nat := bset (fun o => (K (35 + o) == 2) && (nearM K (K 3) o &&& S != 0)) (K 3)
theorem litS_0 (K : Nat → Nat) : litS K 0 = 0 := by
  apply Nat.eq_of_testBit_eq
  intro i
  unfold litS
  rw [bset_tb, Nat.zero_testBit]
  simp
theorem litS_or {K : Nat → Nat} {c S : Nat} (hc : c < K 3) : litS K (2 ^ c ||| S) = litB K c ||| litS K S := by
  apply Nat.eq_of_testBit_eq
  intro i
  rw [Nat.testBit_or]
  unfold litS litB
  rw [bset_tb, bset_tb, bset_tb]
  by_cases hi : i < K 3
  · by_cases hk : (K (35 + i) == 2) = true
    · have e : (nearM K (K 3) i &&& (2 ^ c ||| S) != 0) = (nrM K i c || (nearM K (K 3) i &&& S != 0)) := by
        rw [Bool.eq_iff_iff]
        simp only [bne_iff_ne, Bool.or_eq_true]
        rw [and_ne0, and_ne0]
        constructor
        · rintro ⟨j, h1, h2⟩
          rw [Nat.testBit_or, tb_2pow, Bool.or_eq_true, decide_eq_true_eq] at h2
          rcases h2 with h2 | h2
          · subst h2
            unfold nearM at h1
            rw [bset_tb] at h1
            simp [hc] at h1
            exact .inl h1
          · exact .inr ⟨j, h1, h2⟩
        · rintro (h1 | ⟨j, h1, h2⟩)
          · refine ⟨c, ?_, ?_⟩
            · unfold nearM; rw [bset_tb]; simp [hc, h1]
            · rw [Nat.testBit_or, tb_2pow]; simp
          · exact ⟨j, h1, by rw [Nat.testBit_or, h2, Bool.or_true]⟩
      rw [e, hk]
      cases nrM K i c <;> simp [hi]
    · simp [hk]
  · simp [hi]
section CB
variable {d n1 n2 : Nat} {fl : Nat → Bool} {p q : Bool} {ad : Nat → Nat} {J : mmJ} {Q : mmQ} {K : Nat → Nat}
abbrev ftS : List (Nat × List Nat) := [(6, [11]), (13, []), (14, [])]
theorem ft_100 {I0 : mmI} {T n cd : Nat} (hcd : cd < 8) (h13 : ∀ t, t < 3 → I0 13 t = nI (tkB T n t)) (hT : ∀ c, c < n → T.testBit c = true → popc T c < 3)
    (k : ∀ I, fr [(14, [])] I0 I → I 14 cd = nI (dzs T n cd) → (∀ e, e < cd → I 14 e = I0 14 e) → mm_w Q (mm_wc d) bk_4 85 [some (.ref 6), none, some (.int (nI (cd + 1))), none] [] ((fl, n1, n2, p, q, ad), I, J)) :
    ∀ m t, m + t = 3 → ∀ I, fr [(14, [])] I0 I → I 14 cd = nI (bset (fun c => T.testBit c && (decide (popc T c < t) && cd.testBit (popc T c))) n) → (∀ e, e < cd → I 14 e = I0 14 e) → mm_w Q (mm_wc d) bk_4 100 [some (.ref 6), none, some (.int (nI cd)), some (.int (nI t))] [] ((fl, n1, n2, p, q, ad), I, J) := by
  intro m
  induction m with
  | zero =>
    intro t ht I hf h1 h2
    have : t = 3 := by omega
    subst this
    refine fx_4_100 ⟨fun _ => ?_, fun e => absurd (by rw [z_le (by decide) (by decide)]; omega) e⟩
    rw [z_add]
    refine k I hf ?_ h2
    rw [h1]
    congr 1
    unfold dzs
    refine bset_congr (fun c hc => ?_)
    by_cases e : T.testBit c = true
    · simp [hT c hc e]
    · simp [e]
  | succ m ih =>
    intro t ht I hf h1 h2
    refine fx_4_100 ?_
    have e1 : cd / 2 ^ t &&& 1 = (cd.testBit t).toNat := by rw [Nat.and_one_is_mod, tb_div]
    rw [z_le (by decide) (by omega), z_shr (by omega) (by omega), z_and, e1, z_ix (by omega), z_ix (by omega), hf 13 t rfl, h13 t (by omega), h1, z_or]
    simp only [z_add]
    refine ⟨fun e => absurd e (by omega), fun _ => ⟨fun e => ih (t + 1) (by omega) I hf ?_ h2, fun e => ⟨z_in hcd (by decide), z_in (by omega) (by decide), z_in hcd (by decide), ih (t + 1) (by omega) _ (hf.up rfl) ?_ (fun e' he => by rw [up_k (by omega)]; exact h2 e' he)⟩⟩⟩
    · rw [h1]
      congr 1
      refine bset_congr (fun c hc => ?_)
      have hct : cd.testBit t = false := by
        cases hb : cd.testBit t
        · rfl
        · rw [hb] at e; exact absurd e (by decide)
      by_cases e2 : popc T c = t
      · simp [e2, hct]
      · have : (popc T c < t + 1) ↔ popc T c < t := by omega
        simp [this]
    · rw [up_s]
      congr 1
      have hct : cd.testBit t = true := by
        cases hb : cd.testBit t
        · rw [hb] at e; exact absurd rfl e
        · rfl
      apply Nat.eq_of_testBit_eq
      intro i
      rw [Nat.testBit_or, bset_tb, bset_tb, tkB_tb]
      by_cases e2 : popc T i = t
      · subst e2
        cases T.testBit i <;> simp [hct]
      · have : (popc T i < t + 1) ↔ popc T i < t := by omega
        have e3 : (popc T i == t) = false := by simpa using e2
        simp [this, e3]
theorem ft_85 {I0 : mmI} {T n : Nat} (h13 : ∀ t, t < 3 → I0 13 t = nI (tkB T n t)) (hT : ∀ c, c < n → T.testBit c = true → popc T c < 3)
    (k : ∀ I, fr [(14, [])] I0 I → (∀ e, e < 8 → I 14 e = nI (dzs T n e)) → Q none ((fl, n1, n2, p, q, ad), I, J)) :
    ∀ m cd, m + cd = 8 → ∀ I, fr [(14, [])] I0 I → (∀ e, e < cd → I 14 e = nI (dzs T n e)) → mm_w Q (mm_wc d) bk_4 85 [some (.ref 6), none, some (.int (nI cd)), none] [] ((fl, n1, n2, p, q, ad), I, J) := by
  intro m
  induction m with
  | zero =>
    intro cd hcd I hf h1
    refine fx_4_85 ?_
    rw [z_le (by decide) (by omega)]
    exact ⟨fun _ => k I hf (fun e he => h1 e (by omega)), fun e => absurd (by omega) e⟩
  | succ m ih =>
    intro cd hcd I hf h1
    refine fx_4_85 ?_
    rw [z_le (by decide) (by omega), z_ix (by omega)]
    refine ⟨fun e => absurd e (by omega), fun _ => ⟨z_in (by omega) (by decide), ?_⟩⟩
    refine ft_100 (I0 := mm_up I 14 cd (nI 0)) (T := T) (n := n) (by omega) (fun t ht => by rw [up_c (by decide), hf 13 t rfl]; exact h13 t ht) hT (fun I' hf' g1 g2 => ih (cd + 1) (by omega) I' ((hf.up (r := 14) (k := cd) (x := nI 0) rfl).tr hf') (fun e he => ?_)) 3 0 rfl _ fr.rf ?_ (fun e he => rfl)
    · by_cases e1 : e = cd
      · subst e1; exact g1
      · rw [g2 e (by omega), up_k e1]; exact h1 e (by omega)
    · rw [up_s]
      congr 1
      apply Nat.eq_of_testBit_eq
      intro i
      rw [bset_tb, Nat.zero_testBit]
      simp
theorem ct_4 {I0 : mmI} (hK : cK I0 p K) (k : ∀ I, fr ftS I0 I → I 6 11 = nI (ofK K 3) → (∀ t, t < 3 → I 13 t = nI (tkB (ofK K 3) (K 3) t)) → (∀ e, e < 8 → I 14 e = nI (dzs (ofK K 3) (K 3) e)) → Q none ((fl, n1, n2, p, q, ad), I, J)) : mm_wc (d + 2) 4 [.ref 6] ((fl, n1, n2, p, q, ad), I0, J) Q := by
  have ok := hK.1
  have h3 := ok.c
  have hp3 : ∀ c, c < K 3 → (ofK K 3).testBit c = true → popc (ofK K 3) c < 3 := fun c hc ht => by
    have := popc_lt hc ht
    have := ok.t
    omega
  have lp : ∀ m c, m + c = K 3 → ∀ I, fr ftS I0 I → I 6 11 = nI (bset (fun c => K (35 + c) == 3) c) → (∀ t, t < 3 → I 13 t = nI (tkB (ofK K 3) c t)) → mm_w Q (mm_wc (d + 1)) bk_4 17 [some (.ref 6), some (.int (nI (popc (ofK K 3) c))), some (.int (nI c)), none] [] ((fl, n1, n2, p, q, ad), I, J) := by
    intro m
    induction m with
    | zero =>
      intro c hc I hf h1 h2
      have hKI := hK.fr hf rfl
      have : c = K 3 := by omega
      subst this
      refine fx_4_17 ⟨fun _ => ?_, fun e => absurd (by rw [hKI.2.1, z_le (by omega) (by omega)]; exact Nat.le_refl _) e⟩
      exact ft_85 (I0 := I) h2 hp3 (fun I' hf' g => k I' (hf.tr (hf'.mono (by decide))) (by rw [hf' 6 11 rfl]; exact h1) (fun t ht => by rw [hf' 13 t rfl]; exact h2 t ht) g) 8 0 rfl I fr.rf (fun e he => absurd he (by omega))
    | succ m ih =>
      intro c hc I hf h1 h2
      have hKI := hK.fr hf rfl
      have hk := ok.xy (k := 35 + c) (by omega) (by omega)
      have hcl : c < K 3 := by omega
      have ht := ofK_tb (R := K) (k := 3) hcl
      have hpc := popc_le (ofK K 3) c
      have ihc := ih (c + 1) (by omega)
      rw [popc_succ] at ihc
      refine fx_4_17 ?_
      rw [hKI.2.1, z_le (by omega) (by omega), z_ix (by omega), hKI.2.2.2.2.2.2.2.2.2.2.2.1 c hcl, z_eq (by omega) (by decide), z_bit (by omega), z_add, z_add, h1, z_or, z_le (by decide) (by omega), z_ix (by omega)]
      refine ⟨fun e => absurd e (by omega), fun _ => ⟨z_in (by omega) (by decide), fun e => ?_, fun e => ?_⟩⟩
      · have e1 : (ofK K 3).testBit c = false := by rw [ht]; simpa using e
        rw [e1] at ihc
        refine ihc I hf ?_ (fun t htt => ?_)
        · rw [h1, bset_f (by simpa using e)]
        · rw [h2 t htt]; unfold tkB; rw [bset_f (by simp [e1])]
      · have e1 : (ofK K 3).testBit c = true := by rw [ht]; simpa using e
        have hlt := hp3 c hcl e1
        rw [e1] at ihc
        refine ⟨fun z => absurd z (by omega), fun _ => ⟨z_in hlt (by decide), ihc _ ((hf.up rfl).up rfl) ?_ (fun t htt => ?_)⟩⟩
        · rw [up_s, bset_t (by simpa using e)]
        · rw [up_c (by decide), up_eq]
          by_cases e2 : t = popc (ofK K 3) c
          · subst e2
            have := tkB_0 (ofK K 3) c
            unfold tkB at this ⊢
            rw [if_pos ⟨rfl, rfl⟩, bset_t (by simp [e1]), this, Nat.zero_or]
          · rw [if_neg (fun z => e2 z.2), h2 t htt]
            unfold tkB
            rw [bset_f]
            have : (popc (ofK K 3) c == t) = false := by simpa using fun z : popc (ofK K 3) c = t => e2 z.symm
            simp [this]
  refine fx_4 (ct_279_13 (fun I hf h1 => ⟨_, _, rfl, rfl, ?_⟩))
  refine lp (K 3) 0 (by omega) I ?_ ?_ (fun t ht => ?_)
  · exact ((fr.rf (L := ftS) (I := I0)).up (r := 6) (k := 11) (x := nI 0) rfl).tr (hf.mono (by decide))
  · rw [hf 6 11 rfl, up_s]; rfl
  · rw [h1 t ht]; rfl
theorem fl_31 {I0 : mmI} {c a : Nat} (hc : c < 10) (h12 : ∀ s, s < 2 ^ c → I0 12 s = nI (litS K s)) (ha : ∀ s, litS K (2 ^ c ||| s) = a ||| litS K s)
    (k : ∀ I, fr [(12, [])] I0 I → (∀ s, s < 2 ^ (c + 1) → I 12 s = nI (litS K s)) → mm_w Q (mm_wc d) bk_5 9 [some (.ref 6), some (.int (nI (c + 1))), none, none] [] ((fl, n1, n2, p, q, ad), I, J)) :
    ∀ m o, m + o = 2 ^ c → ∀ I, fr [(12, [])] I0 I → (∀ s, s < 2 ^ c + o → I 12 s = nI (litS K s)) → mm_w Q (mm_wc d) bk_5 31 [some (.ref 6), some (.int (nI c)), some (.int (nI a)), some (.int (nI o))] [] ((fl, n1, n2, p, q, ad), I, J) := by
  have hc2 : 2 ^ c ≤ 512 := by
    have : 2 ^ c ≤ 2 ^ 9 := Nat.pow_le_pow_right (by decide) (by omega)
    omega
  intro m
  induction m with
  | zero =>
    intro o ho I hf h1
    refine fx_5_31 ?_
    rw [z_bit (by omega), z_le (by omega) (by omega), z_add]
    exact ⟨fun _ => k I hf (fun s hs => h1 s (by rw [Nat.pow_succ] at hs; omega)), fun e => absurd (by omega) e⟩
  | succ m ih =>
    intro o ho I hf h1
    have e1 : 2 ^ c ||| o = 2 ^ c + o := by
      have := or_mul (a := o) (h := 1) (k := c) (by omega)
      rw [Nat.one_mul] at this
      rw [Nat.or_comm, this, Nat.add_comm]
    refine fx_5_31 ?_
    rw [z_bit (by omega), z_le (by omega) (by omega), z_or, e1, z_ix (by omega), z_ix (by omega), h1 o (by omega), z_or]
    simp only [z_add]
    refine ⟨fun e => absurd e (by omega), fun _ => ⟨z_in (by omega) (by decide), z_in (by omega) (by decide), ih (o + 1) (by omega) _ (hf.up rfl) (fun s hs => ?_)⟩⟩
    by_cases e : s = 2 ^ c + o
    · subst e
      rw [up_s, ← ha o, e1]
    · rw [up_k e]; exact h1 s (by omega)
theorem ct_5 {I0 : mmI} (hK : cK I0 p K) (k : ∀ I, fr [(12, [])] I0 I → (∀ s, s < 2 ^ K 3 → I 12 s = nI (litS K s)) → Q none ((fl, n1, n2, p, q, ad), I, J)) : mm_wc (d + 3) 5 [.ref 6] ((fl, n1, n2, p, q, ad), I0, J) Q := by
  have h3 := hK.1.c
  have lp : ∀ m c, m + c = K 3 → ∀ I, fr [(12, [])] I0 I → (∀ s, s < 2 ^ c → I 12 s = nI (litS K s)) → mm_w Q (mm_wc (d + 2)) bk_5 9 [some (.ref 6), some (.int (nI c)), none, none] [] ((fl, n1, n2, p, q, ad), I, J) := by
    intro m
    induction m with
    | zero =>
      intro c hc I hf h1
      have hKI := hK.fr hf rfl
      refine fx_5_9 ?_
      rw [hKI.2.1, z_le (by omega) (by omega)]
      exact ⟨fun _ => k I hf (by rw [show K 3 = c by omega]; exact h1), fun e => absurd (by omega) e⟩
    | succ m ih =>
      intro c hc I hf h1
      have hKI := hK.fr hf rfl
      refine fx_5_9 ?_
      rw [hKI.2.1, z_le (by omega) (by omega)]
      refine ⟨fun e => absurd e (by omega), fun _ => ct_6 hKI (by omega) ⟨_, _, _, rfl, rfl, ?_⟩⟩
      exact fl_31 (I0 := I) (K := K) (by omega) h1 (fun s => litS_or (by omega)) (fun I' hf' g => ih (c + 1) (by omega) I' (hf.tr hf') g) (2 ^ c) 0 (by omega) I fr.rf h1
  refine fx_5 (lp (K 3) 0 (by omega) _ (fr.rf.up rfl) (fun s hs => ?_))
  have : s = 0 := by simpa using hs
  subst this
  rw [up_s, litS_0]
end CB
