/-! the class's teams: the smallest; kept; public calls -/
theorem zc_0 : ∀ S, S < 16 → zcnt S = 0 → S = 0 := by decide
theorem zc_sd : ∀ S, S < 16 → ∀ h, h < 4 → S.testBit h = true → zcnt (sd S (2 ^ h)) < zcnt S := by decide
theorem zc_le : ∀ k, k < 5 → ∀ S, S < 16 → S < 2 ^ k → zcnt S ≤ k := by decide
/-- teams that were looked at -/
def tP (K : Nat → Nat) (c S0 S : Nat) : Prop := S < 2 ^ K 6 ∧ (zcnt S < c ∨ (zcnt S = c ∧ S < S0))
section TE
variable {d n1 n2 : Nat} {b1 b2 p q : Bool} {ad : Nat → Nat} {J : mmJ} {Q : mmQ} {K : Nat → Nat} {s L : Nat} {I : mmI}
theorem ct_101 (hK : cK I p K) (hD : bD I K) (hms : I 6 13 = nI 0) (hF : cF I) (hL : cLs I L) (hL1 : L + 400 < 2 ^ 30) (hv : vm K False s) (k : ∀ I' r L', fr foS I I' → cF I' → cLs I' L' → L' ≤ L + 384 → isT K s r → Q (some (.int r)) ((mm_fl true b1 b2, n1, n2, p, q, ad), I', J)) : mm_wc (d + 5) 101 [.ref 70, .int (nI s)] ((mm_fl true b1 b2, n1, n2, p, q, ad), I, J) Q := by
  have ok := hD.1
  have h6 := ok.h
  have hp6 : 2 ^ K 6 ≤ 2 ^ 4 := Nat.pow_le_pow_right (by decide) (by omega)
  have hpp : 0 < 2 ^ K 6 := Nat.two_pow_pos _
  have hsl := hv.lt ok
  -- one size
  have inn : ∀ c, 1 ≤ c → c ≤ K 6 → (∀ I' qq tl L', fr foS I I' → cLs I' L' → L' ≤ L + 64 * c → cT I' K (fun S z => tP K (c + 1) 1 S ∧ tch K s S z) qq tl → (∀ S, tP K (c + 1) 1 S → ¬ tdone K s S) → mm_w Q (mm_wc (d + 4)) bk_101 36 [some (.ref 70), none, some (.int (nI (K 6))), some (.int (nI (c + 1))), none] [] ((mm_fl true b1 b2, n1, n2, p, q, ad), I', J)) → ∀ n S0, n + S0 = 2 ^ K 6 → 1 ≤ S0 → ∀ I' qq tl L', fr foS I I' → cLs I' L' → L' ≤ L + 64 * (c - 1) + 4 * S0 → cT I' K (fun S z => tP K c S0 S ∧ tch K s S z) qq tl → (∀ S, tP K c S0 S → ¬ tdone K s S) → mm_w Q (mm_wc (d + 4)) bk_101 44 [some (.ref 70), none, some (.int (nI (K 6))), some (.int (nI c)), some (.int (nI S0))] [] ((mm_fl true b1 b2, n1, n2, p, q, ad), I', J) := by
    intro c hc1 hc2 nx n
    induction n with
    | zero =>
      intro S0 hn hS1 I' qq tl L' hf hL' hLL hT hnd
      refine fx_101_44 ?_
      rw [z_bit (by omega), z_le (by omega) (by omega), z_add]
      have cg : ∀ S, tP K c S0 S ↔ tP K (c + 1) 1 S := fun S => by
        unfold tP
        constructor
        · rintro ⟨a1, a2⟩; exact ⟨a1, by omega⟩
        · rintro ⟨a1, a2 | ⟨a2, a3⟩⟩
          · exact ⟨a1, by omega⟩
          · have : S = 0 := by omega
            subst this
            rw [show zcnt 0 = 0 from rfl] at a2; omega
      refine ⟨fun _ => nx I' qq tl L' hf hL' (by omega) (cT_cg hT (fun S z _ => by rw [cg])) (fun S hS => hnd S ((cg S).mpr hS)), fun e => absurd (by omega) e⟩
    | succ n ih =>
      intro S0 hn hS1 I' qq tl L' hf hL' hLL hT hnd
      have hS0 : S0 < 2 ^ K 6 := by omega
      have hz : zcnt S0 ≤ 14 := popc_le _ _
      refine fx_101_44 ?_
      rw [z_bit (by omega), z_le (by omega) (by omega)]
      refine ⟨fun e => absurd e (by omega), fun _ => ct_278 (by omega) ⟨_, _, _, rfl, rfl, ?_⟩⟩
      rw [z_eq (by omega) (by omega), z_add]
      refine ⟨fun e => ih (S0 + 1) (by omega) (by omega) I' qq tl L' hf hL' (by omega) (cT_cg hT (fun S z _ => ?_)) (fun S hS => hnd S ?_), fun e => ?_⟩
      · unfold tP
        constructor
        · rintro ⟨⟨a1, a2⟩, a3⟩; exact ⟨⟨a1, by omega⟩, a3⟩
        · rintro ⟨⟨a1, a2 | ⟨a2, a4⟩⟩, a3⟩
          · exact ⟨⟨a1, .inl a2⟩, a3⟩
          · refine ⟨⟨a1, .inr ⟨a2, ?_⟩⟩, a3⟩
            have : S ≠ S0 := fun y => e (by rw [← y]; exact a2)
            omega
      · obtain ⟨a1, a2 | ⟨a2, a4⟩⟩ := hS
        · exact ⟨a1, .inl a2⟩
        · refine ⟨a1, .inr ⟨a2, ?_⟩⟩
          have : S ≠ S0 := fun y => e (by rw [← y]; exact a2)
          omega
      · have hK' := hK.fr hf rfl
        have hD' := hD.fr hf rfl rfl rfl rfl
        have sub : ∀ h, h < K 6 → S0.testBit h = true → tP K c S0 (sd S0 (2 ^ h)) := fun h hh ht => by
          have h1 := sd_ls ht
          have h2 := zc_sd S0 (by omega) h (by omega) ht
          exact ⟨by omega, by omega⟩
        have cs : ∀ z, (∃ h m' b, h < K 6 ∧ S0.testBit h = true ∧ (tP K c S0 (sd S0 (2 ^ h)) ∧ tch K s (sd S0 (2 ^ h)) m') ∧ b < nB K ∧ b / 16 / K 4 = h ∧ z = zst K m' b) ↔ tch K s S0 z := fun z => by
          rw [tch_s (by omega)]
          constructor
          · rintro ⟨h, m', b, a1, a2, a3, a4⟩; exact ⟨h, m', b, a1, a2, a3.2, a4⟩
          · rintro ⟨h, m', b, a1, a2, a3, a4⟩; exact ⟨h, m', b, a1, a2, ⟨sub h a1 a2, a3⟩, a4⟩
        have nS : ¬ tP K c S0 S0 := by
          rintro ⟨-, a | ⟨-, a⟩⟩ <;> omega
        refine ct_102 hK' hD' (by rw [hf 6 13 rfl]; exact hms) hL' (by omega) hT (fun S m hw => by have := (tch_V ok hv hw.2).lt ok; omega) (by omega) (fun I2 qq2 tl2 L2 bb f2 hL2 hLL2 hT2 hbb => ⟨_, _, _, rfl, rfl, ?_⟩)
        have hb2 : bb = true ↔ tdone K s S0 := by
          rw [hbb, tdone_iff ok hv]
          constructor
          · rintro (w | w)
            · exact absurd w.1 nS
            · exact (cs 0).mp w
          · intro w; exact .inr ((cs 0).mpr w)
        rw [bI_0]
        refine ⟨fun e2 => ih (S0 + 1) (by omega) (by omega) I2 qq2 tl2 L2 (hf.tr f2) hL2 (by omega) (cT_cg hT2 (fun S z _ => ?_)) (fun S hS => ?_), fun e2 => ?_⟩
        · unfold tP at nS ⊢
          constructor
          · rintro (⟨⟨a1, a2⟩, a3⟩ | ⟨a1, a2⟩)
            · exact ⟨⟨a1, by omega⟩, a3⟩
            · subst a1; exact ⟨⟨hS0, by omega⟩, (cs z).mp a2⟩
          · rintro ⟨⟨a1, a2⟩, a3⟩
            by_cases eS : S = S0
            · subst eS; exact .inr ⟨rfl, (cs z).mpr a3⟩
            · exact .inl ⟨⟨a1, by omega⟩, a3⟩
        · by_cases eS : S = S0
          · subst eS; intro w; rw [hb2.mpr w] at e2; cases e2
          · exact hnd S ⟨hS.1, by have := hS.2; omega⟩
        · refine k I2 _ L2 (hf.tr f2) (cT_F ok hT2) hL2 (by omega) (.inl ⟨S0, hS0, rfl, hb2.mp (by simpa using e2), fun S' h1 h2 => ?_⟩)
          have : ¬ tP K c S0 S' := fun w => hnd S' w h2
          unfold tP at this
          rw [e]
          by_cases y : zcnt S' < c
          · exact absurd ⟨h1, .inl y⟩ this
          · by_cases y2 : zcnt S' = c
            · by_cases y3 : S' < S0
              · exact absurd ⟨h1, .inr ⟨y2, y3⟩⟩ this
              · exact .inr ⟨by omega, by omega⟩
            · exact .inl (by omega)
  have out : ∀ n c, n + c = K 6 + 1 → 1 ≤ c → ∀ I' qq tl L', fr foS I I' → cLs I' L' → L' ≤ L + 64 * (c - 1) → cT I' K (fun S z => tP K c 1 S ∧ tch K s S z) qq tl → (∀ S, tP K c 1 S → ¬ tdone K s S) → mm_w Q (mm_wc (d + 4)) bk_101 36 [some (.ref 70), none, some (.int (nI (K 6))), some (.int (nI c)), none] [] ((mm_fl true b1 b2, n1, n2, p, q, ad), I', J) := by
    intro n
    induction n with
    | zero =>
      intro c hc hc1 I' qq tl L' hf hL' hLL hT hnd
      refine fx_101_36 ?_
      rw [z_lt (by omega) (by omega)]
      refine ⟨fun _ => k I' _ L' hf (cT_F ok hT) hL' (by omega) (.inr ⟨rfl, fun S hS => hnd S ⟨hS, .inl ?_⟩⟩), fun e => absurd (by omega) e⟩
      have := zc_le (K 6) (by omega) S (by omega) hS
      omega
    | succ n ih =>
      intro c hc hc1 I' qq tl L' hf hL' hLL hT hnd
      refine fx_101_36 ?_
      rw [z_lt (by omega) (by omega)]
      exact ⟨fun e => absurd e (by omega), fun _ => inn c hc1 (by omega) (fun I2 qq2 tl2 L2 f2 hL2 hLL2 hT2 hn2 => ih (c + 1) (by omega) (by omega) I2 qq2 tl2 L2 f2 hL2 (by omega) hT2 hn2) (2 ^ K 6 - 1) 1 (by omega) (Nat.le_refl _) I' qq tl L' hf hL' (by omega) hT hnd⟩
  refine fx_101 ?_
  rw [z_eq (by omega) (by decide)]
  refine ⟨fun e => ct_90 hF (fun I1 f1 e5 z71 => ⟨_, _, rfl, rfl, ?_⟩), fun e => k I _ L fr.rf hF hL (by omega) (.inl ⟨0, hpp, rfl, ⟨s, tch_0.mpr rfl, by rw [e]⟩, fun S' _ _ => ?_⟩)⟩
  · have hQ : cQ I1 (fun _ => 0) (fun _ => 0) 0 := ⟨e5, fun i hi => absurd hi (Nat.not_lt_zero _), fun i hi => absurd hi (Nat.not_lt_zero _), fun i hi => absurd hi (Nat.not_lt_zero _), fun z hz _ => z71 z hz⟩
    refine ct_91 hQ (by decide) (by omega) (fun i hi => absurd hi (Nat.not_lt_zero _)) (fun I2 f2 q2 => ⟨_, _, rfl, rfl, z_in (by omega) (by decide), ?_⟩)
    rw [z_ix (by omega)]
    have fU : fr foS I (mm_up I2 71 s (nI 1)) := ((f1.sub rfl).tr (f2.sub rfl)).up rfl
    have fV : fr diS I (mm_up I2 71 s (nI 1)) := ((f1.sub rfl).tr f2).up rfl
    rw [((hK.fr (f1.sub (M := diS) rfl) rfl).fr f2 rfl).2.2.2.2.1]
    have e00 : ap (fun _ => 0) 0 s 0 = s := ap_eq _ _ _
    refine out (K 6) 1 (by omega) (Nat.le_refl _) _ (ap (fun _ => 0) 0 s) 1 L fU (cLs_of hL (fV 77 5 rfl) (fun i => fV 80 i rfl)) (by omega) ⟨by rw [up_c (by decide)]; exact q2.1, fun i j hi hj _ => by omega, fun i hi => ?_, fun z hz => ?_⟩ (fun S hS => ?_)
    · have : i = 0 := by omega
      subst this
      rw [up_c (by decide), q2.2.1 0 (by decide), e00]
      exact ⟨rfl, hv⟩
    · by_cases ez : z = s
      · subst ez
        refine ⟨1, up_s _ _ _ _, by decide, fun S => ?_, ⟨fun _ => ⟨0, by decide, e00⟩, fun _ => by decide⟩⟩
        rw [show (1 : Nat) = 2 ^ 0 from rfl, tb_2pow, decide_eq_true_eq]
        constructor
        · intro w; subst w; exact ⟨⟨hpp, .inl (by decide)⟩, tch_0.mpr rfl⟩
        · rintro ⟨⟨a1, a2⟩, -⟩
          rcases a2 with a2 | ⟨-, a3⟩
          · exact (zc_0 S (by omega) (by omega)).symm
          · omega
      · refine ⟨0, ?_, by decide, fun S => ?_, ⟨fun w => absurd rfl w, fun ⟨i, hi, ei⟩ => ?_⟩⟩
        · rw [up_k ez]
          exact q2.2.2.2.2 z hz (fun i hi => by have : i = 0 := by omega
                                                subst this; rw [e00]; exact fun y => ez y.symm)
        · rw [Nat.zero_testBit]
          constructor
          · intro w; cases w
          · rintro ⟨⟨a1, a2⟩, a3⟩
            have : S = 0 := by
              rcases a2 with a2 | ⟨-, a4⟩
              · exact zc_0 S (by omega) (by omega)
              · omega
            subst this
            exact absurd (tch_0.mp a3) ez
        · have : i = 0 := by omega
          subst this
          rw [e00] at ei; exact absurd ei.symm ez
    · have : S = 0 := by
        rcases hS.2 with a2 | ⟨-, a4⟩
        · exact zc_0 S (by have := hS.1; omega) (by omega)
        · omega
      subst this
      rintro ⟨m, h1, h2⟩
      rw [tch_0.mp h1] at h2
      exact e (vm_0 ok hv h2)
  · rw [show zcnt 0 = 0 from rfl]
    omega
end TE
