/-! the class: lists of fans -/
def cLs (I : mmI) (L : Nat) : Prop := I 77 5 = nI L ∧ L < 2 ^ 30 ∧ ∀ f, f < 2048 → ∃ v, v ≤ L ∧ I 80 f = nI v
/-- the list as it grows: cnt fans of breaths below B -/
def cLg (I : mmI) (F : Nat → Nat) (P : Nat → Prop) (L B cnt : Nat) (al : Nat → Nat) : Prop :=
  I 77 5 = nI L ∧ L < 2 ^ 30 ∧ I 77 3 = nI cnt ∧ (∀ k, k < cnt → I 78 k = nI (F (al k))) ∧ (∀ k, k < cnt → I 79 k = nI (al k)) ∧ alw F P False B cnt al ∧
  ∀ f, f < 2048 → ∃ v, v ≤ L ∧ I 80 f = nI v ∧ (v = L ↔ ∃ k, k < cnt ∧ F (al k) = f)
abbrev liS : List (Nat × List Nat) := [(77, [3, 5]), (78, []), (79, []), (80, [])]
section CL
variable {d n1 n2 : Nat} {b1 b2 p q : Bool} {ad : Nat → Nat} {J : mmJ} {Q : mmQ} {K : Nat → Nat} {F : Nat → Nat} {P : Nat → Prop} {L B cnt : Nat} {al : Nat → Nat}
theorem ct_34 {I0 : mmI} (h : cLs I0 L) (hL : L + 1 < 2 ^ 30) (k : ∀ I, fr liS I0 I → cLg I F P (L + 1) 0 0 al → Q none ((mm_fl true b1 b2, n1, n2, p, q, ad), I, J)) : mm_wc (d + 1) 34 [.ref 77] ((mm_fl true b1 b2, n1, n2, p, q, ad), I0, J) Q := by
  refine fx_34 ?_
  rw [h.1, z_add]
  refine k _ ((fr.rf.up rfl).up rfl) ⟨up_s _ _ _ _, hL, by rw [up_k (by decide), up_s], fun k hk => absurd hk (by omega), fun k hk => absurd hk (by omega), ⟨Nat.le_refl _, fun k hk => absurd hk (by omega), fun k j hk hj => absurd hj (by omega), fun b hb => absurd hb (by omega)⟩, fun f hf => ?_⟩
  obtain ⟨v, hv, e⟩ := h.2.2 f hf
  refine ⟨v, by omega, by rw [up_c (by decide), up_c (by decide)]; exact e, fun z => absurd z (by omega), ?_⟩
  rintro ⟨k, hk, -⟩
  exact absurd hk (by omega)
theorem cLg.skip {I : mmI} (h : cLg I F P L B cnt al) (hP : ¬ P B) : cLg I F P L (B + 1) cnt al := by
  obtain ⟨h1, h2, h3, h4, h5, ⟨a0, a1, a2, a3⟩, h7⟩ := h
  refine ⟨h1, h2, h3, h4, h5, ⟨by omega, fun k hk => ⟨by have := (a1 k hk).1; omega, (a1 k hk).2⟩, a2, fun b hb hPb => ?_⟩, h7⟩
  by_cases e : b = B
  · subst e; exact absurd hPb hP
  · exact a3 b (by omega) hPb
theorem ct_35 {I0 : mmI} (h : cLg I0 F P L B cnt al) (hP : P B) (hB : B < 320) (hF : F B < 2048) (k : ∀ I cnt' al', fr liS I0 I → cLg I F P L (B + 1) cnt' al' → Q none ((mm_fl true b1 b2, n1, n2, p, q, ad), I, J)) : mm_wc (d + 1) 35 [.ref 77, .int (nI B), .int (nI (F B))] ((mm_fl true b1 b2, n1, n2, p, q, ad), I0, J) Q := by
  obtain ⟨h1, h2, h3, h4, h5, ⟨a0, a1, a2, a3⟩, h7⟩ := h
  obtain ⟨v, hv, e, hvL⟩ := h7 (F B) hF
  refine fx_35 ?_
  rw [z_ix (by omega), e, h1, z_eq (by omega) (by omega), h3, z_le (by decide) (by omega), z_ix (by omega), z_add]
  have hvF : vp_in (nI (F B)) 2048 := z_in hF (by decide)
  have hvc : vp_in (nI cnt) 320 := z_in (by omega) (by decide)
  refine ⟨hvF, fun e1 => ?_, fun e1 => ⟨fun e2 => absurd e2 (by omega), fun _ => ⟨hvF, hvc, hvc, ?_⟩⟩⟩
  · obtain ⟨j, hj, ej⟩ := hvL.mp e1
    refine k I0 cnt al fr.rf ⟨h1, h2, h3, h4, h5, ⟨by omega, fun k hk => ⟨by have := (a1 k hk).1; omega, (a1 k hk).2⟩, a2, fun b hb hPb => ?_⟩, h7⟩
    by_cases eb : b = B
    · subst eb; exact ⟨j, hj, by have := (a1 j hj).1; omega, ej, False.elim⟩
    · exact a3 b (by omega) hPb
  · have hnew : ∀ j, j < cnt → F (al j) ≠ F B := fun j hj z => e1 (hvL.mpr ⟨j, hj, z⟩)
    have apl : ∀ j, j < cnt → ap al cnt B j = al j := fun j hj => ap_lt hj
    refine k _ (cnt + 1) (ap al cnt B) ((((fr.rf.up rfl).up rfl).up rfl).up rfl) ⟨?_, h2, up_s _ _ _ _, fun j hj => ?_, fun j hj => ?_, ⟨by omega, fun j hj => ?_, fun i j hij hj => ?_, fun b hb hPb => ?_⟩, fun f hf => ?_⟩
    · rw [up_k (by decide), up_c (by decide), up_c (by decide), up_c (by decide)]; exact h1
    · rw [up_c (by decide), up_c (by decide)]
      by_cases ej : j = cnt
      · subst ej; rw [up_s, ap_eq]
      · rw [up_k ej, up_c (by decide), apl j (by omega)]; exact h4 j (by omega)
    · rw [up_c (by decide)]
      by_cases ej : j = cnt
      · subst ej; rw [up_s, ap_eq]
      · rw [up_k ej, up_c (by decide), up_c (by decide), apl j (by omega)]; exact h5 j (by omega)
    · by_cases ej : j = cnt
      · subst ej; rw [ap_eq]; exact ⟨by omega, hP⟩
      · rw [apl j (by omega)]; exact ⟨by have := (a1 j (by omega)).1; omega, (a1 j (by omega)).2⟩
    · by_cases ej : j = cnt
      · subst ej; rw [ap_eq, apl i hij]; exact (a1 i hij).1
      · rw [apl j (by omega), apl i (by omega)]; exact a2 i j hij (by omega)
    · by_cases eb : b = B
      · subst eb; exact ⟨cnt, by omega, by rw [ap_eq]; exact Nat.le_refl _, by rw [ap_eq], False.elim⟩
      · obtain ⟨j, hj, g1, g2, g3⟩ := a3 b (by omega) hPb
        exact ⟨j, by omega, by rw [apl j hj]; exact g1, by rw [apl j hj]; exact g2, False.elim⟩
    · rw [up_c (by decide), up_c (by decide), up_c (by decide)]
      by_cases ef : f = F B
      · subst ef
        rw [up_s]
        exact ⟨L, Nat.le_refl _, rfl, fun _ => ⟨cnt, by omega, by rw [ap_eq]⟩, fun _ => rfl⟩
      · rw [up_k ef]
        obtain ⟨v', hv', e', hvL'⟩ := h7 f hf
        refine ⟨v', hv', e', hvL'.trans ⟨?_, ?_⟩⟩
        · rintro ⟨j, hj, z⟩; exact ⟨j, by omega, by rw [apl j hj]; exact z⟩
        · rintro ⟨j, hj, z⟩
          by_cases ej : j = cnt
          · subst ej; rw [ap_eq] at z; exact absurd z.symm ef
          · rw [apl j (by omega)] at z; exact ⟨j, by omega, z⟩
/-- whose the breath is -/
def ow (K : Nat → Nat) (so : Nat) (b : Nat) : Nat := if so = 1 then b / 16 % K 4 else b / 16 / K 4
def lP (K : Nat → Nat) (so : Nat) (wh : Int32) (its : Bool) (b : Nat) : Prop := so = 4 ∨ ((nI (ow K so b) = wh) ↔ its = true)
theorem ct_36 {I0 : mmI} (hK : cK I0 p K) (h2 : I0 6 2 = nI (nB K)) (h7 : ∀ b, b < nB K → I0 7 b = nI (fanK K b)) (h : cLs I0 L) (hL : L + 1 < 2 ^ 30) {so : Nat} {wh : Int32} {its : Bool} (hso : so < 5) (k : ∀ I cnt al, fr liS I0 I → cLg I (fanK K) (lP K so wh its) (L + 1) (nB K) cnt al → Q none ((mm_fl true b1 b2, n1, n2, p, q, ad), I, J)) : mm_wc (d + 2) 36 [.ref 77, .int (nI so), .int wh, .int (bI its)] ((mm_fl true b1 b2, n1, n2, p, q, ad), I0, J) Q := by
  have hB := nB_le hK.1
  have lp : ∀ m b, m + b = nB K → ∀ I cnt al, fr liS I0 I → cLg I (fanK K) (lP K so wh its) (L + 1) b cnt al → mm_w Q (mm_wc (d + 1)) bk_36 7 [some (.ref 77), some (.int (nI so)), some (.int wh), some (.int (bI its)), some (.int (nI b)), none] [] ((mm_fl true b1 b2, n1, n2, p, q, ad), I, J) := by
    intro m
    induction m with
    | zero =>
      intro b hb I cnt al hf hg
      refine fx_36k_7 ?_
      rw [hf 6 2 rfl, h2, z_le (by omega) (by omega)]
      have : b = nB K := by omega
      subst this
      exact ⟨fun _ => k I cnt al hf hg, fun e => absurd (Nat.le_refl _) e⟩
    | succ m ih =>
      intro b hb I cnt al hf hg
      have hKI := hK.fr hf rfl
      have hfb := lt_p11 hK.1 (fanK_lt K b)
      have s67 : lP K so wh its b → mm_w Q (mm_wc (d + 1)) bk_36 67 [some (.ref 77), some (.int (nI so)), some (.int wh), some (.int (bI its)), some (.int (nI b)), none] [] ((mm_fl true b1 b2, n1, n2, p, q, ad), I, J) := by
        intro hP
        refine fx_36k_67 ?_
        rw [z_ix (by omega), hf 7 b rfl, h7 b (by omega)]
        refine ⟨z_in (by omega) (by decide), ct_35 hg hP (by omega) (by omega) (fun I' cnt' al' hf' hg' => ⟨_, _, rfl, rfl, fx_36k_83 ?_⟩)⟩
        rw [z_add]
        exact ih (b + 1) (by omega) I' cnt' al' (hf.tr hf') hg'
      have s83 : ¬ lP K so wh its b → mm_w Q (mm_wc (d + 1)) bk_36 83 [some (.ref 77), some (.int (nI so)), some (.int wh), some (.int (bI its)), some (.int (nI b)), none] [] ((mm_fl true b1 b2, n1, n2, p, q, ad), I, J) := by
        intro hP
        refine fx_36k_83 ?_
        rw [z_add]
        exact ih (b + 1) (by omega) I cnt al hf (hg.skip hP)
      have s45 : mm_w Q (mm_wc (d + 1)) bk_36 45 [some (.ref 77), some (.int (nI so)), some (.int wh), some (.int (bI its)), some (.int (nI b)), none] [.int (nI (ow K so b))] ((mm_fl true b1 b2, n1, n2, p, q, ad), I, J) := by
        refine fx_36k_45 ?_
        rw [z_eq (by omega) (by decide)]
        refine ⟨fun e => s67 (.inl e), fun e => ⟨fun e2 => fx_36k_63 ⟨fun e3 => s83 ?_, fun e3 => s67 (.inr ?_)⟩, fun e2 => fx_36k_63 ⟨fun e3 => s83 ?_, fun e3 => s67 (.inr ?_)⟩⟩⟩
        · rintro (z | z)
          · exact e z
          · cases its
            · exact e3 rfl
            · exact e2 (z.mpr rfl)
        · cases its
          · exact ⟨fun z => absurd z e2, fun z => by cases z⟩
          · exact absurd e3 (by decide)
        · rintro (z | z)
          · exact e z
          · cases its
            · exact absurd (z.mp e2) (by decide)
            · exact e3 rfl
        · cases its
          · exact absurd e3 (by decide)
          · exact ⟨fun _ => rfl, fun _ => e2⟩
      refine fx_36k_7 ?_
      rw [hf 6 2 rfl, h2, z_le (by omega) (by omega), z_eq (by omega) (by decide)]
      refine ⟨fun e => absurd e (by omega), fun _ => ⟨fun e => ct_12 hKI (by omega) ⟨_, _, _, rfl, rfl, ?_⟩, fun e => ct_11 hKI (by omega) ⟨_, _, _, rfl, rfl, ?_⟩⟩⟩
      · unfold ow at s45; rw [if_neg e] at s45; exact s45
      · unfold ow at s45; rw [if_pos e] at s45; exact s45
  refine fx_36k (ct_34 (F := fanK K) (P := lP K so wh its) (al := fun _ => 0) h hL (fun I hf hg => ⟨_, _, rfl, rfl, ?_⟩))
  exact lp (nB K) 0 (by omega) I 0 _ hf hg
end CL
