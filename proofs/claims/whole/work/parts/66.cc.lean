/-! the class: fans, unlike fans -/
def cntB (P : Nat → Bool) : Nat → Nat
  | 0 => 0
  | b + 1 => cntB P b + (P b).toNat
theorem cntB_le (P : Nat → Bool) (B : Nat) : cntB P B ≤ B := by
  induction B with
  | zero => exact Nat.le_refl _
  | succ B ih => unfold cntB; have : (P B).toNat ≤ 1 := by cases P B <;> decide
                 omega
def fanK (K : Nat → Nat) (b : Nat) : Nat := fanM K (K 3) b
theorem fanK_lt (K : Nat → Nat) (b : Nat) : fanK K b < 2 ^ K 3 := bset_lt _ _
def newB (fan : Nat → Nat) (b : Nat) : Bool := decide (∀ k, k < b → fan k ≠ fan b)
def uni (fan : Nat → Nat) (I : mmI) (B u : Nat) (un uo : Nat → Nat) : Prop :=
  I 6 7 = nI u ∧ u ≤ B ∧ (∀ f, f < u → I 9 f = nI (un f)) ∧ (∀ f g, f < u → g < u → un f = un g → f = g) ∧ (∀ b, b < B → I 8 b = nI (uo b) ∧ uo b < u ∧ un (uo b) = fan b) ∧ (∀ f, f < u → ∃ b, b < B ∧ fan b = un f) ∧ (∀ f, f < u → I 10 f = nI (cntB (fun b => fan b == un f) B)) ∧ (∀ s, s < 1024 → (∃ f, f < u ∧ un f = s ∧ I 11 s = nI (f + 1)) ∨ ((∀ f, f < u → un f ≠ s) ∧ I 11 s = nI 0)) ∧ u = cntB (newB fan) B
theorem cntB_0 {P : Nat → Bool} {B : Nat} (h : ∀ b, b < B → P b = false) : cntB P B = 0 := by
  induction B with
  | zero => rfl
  | succ B ih => unfold cntB; rw [ih (fun b hb => h b (by omega)), h B (by omega)]; rfl
section CC
variable {d n1 n2 : Nat} {fl : Nat → Bool} {p q : Bool} {ad : Nat → Nat} {J : mmJ} {Q : mmQ} {K : Nat → Nat}
theorem ff_14 {I : mmI} (hK : cK I p K) (hw : cWy I) {b : Nat} (hb : b < nB K) (k : mm_w Q (mm_wc (d + 2)) bk_1 2 [some (.ref 6), some (.int (nI (b + 1))), none, none] [] ((fl, n1, n2, p, q, ad), mm_up I 7 b (nI (fanK K b)), J)) :
    ∀ m c, m + c = K 3 → mm_w Q (mm_wc (d + 2)) bk_1 14 [some (.ref 6), some (.int (nI b)), some (.int (nI (fanM K c b))), some (.int (nI c))] [] ((fl, n1, n2, p, q, ad), I, J) := by
  have hB := nB_le hK.1
  have h3 := hK.1.c
  have hK' := hK
  obtain ⟨ok, h1, -, -, -, h5, -, -, -, hx, hy, hk, -⟩ := hK
  intro m
  induction m with
  | zero =>
    intro c hc
    have : c = K 3 := by omega
    subst this
    refine fx_1k_14 ⟨fun _ => ?_, fun e => absurd (by rw [h1, z_le (by omega) (by omega)]; exact Nat.le_refl _) e⟩
    rw [z_ix (by omega), z_add]
    exact ⟨z_in (by omega) (by decide), k⟩
  | succ m ih =>
    intro c hc
    have hkc := ok.xy (k := 35 + c) (by omega) (by omega)
    have ihc := ih (c + 1) (by omega)
    refine fx_1k_14 ?_
    simp (disch := omega) only [h1, z_le, z_ix, hx, hy, hk, z_eq]
    have hv : vp_in (nI c) 10 := z_in (by omega) (by decide)
    have key : ∀ t : Bool, (K (35 + c) == 1) = t → mm_w Q (mm_wc (d + 2)) bk_1 72 [some (.ref 6), some (.int (nI b)), some (.int (nI (fanM K c b))), some (.int (nI c))] [.int (bI t), .int (nI (K (24 + c))), .int (nI (K (13 + c))), .int (nI b), .ref 6] ((fl, n1, n2, p, q, ad), I, J) := by
      intro t ht
      refine fx_1k_72 (ct_2 hK' hw hb ⟨_, _, _, rfl, rfl, ?_⟩)
      rw [bI_0, z_bit (by omega), z_or]
      refine ⟨fun e => fx_1k_84 ?_, fun e => fx_1k_84 ?_⟩
      · rw [z_add]
        unfold fanM at ihc
        rw [bset_f (by unfold inM; rw [ht]; exact e)] at ihc
        exact ihc
      · rw [z_add]
        unfold fanM at ihc
        rw [bset_t (by unfold inM; rw [ht]; simpa using e)] at ihc
        exact ihc
    exact ⟨fun e => absurd e (by omega), fun _ => ⟨hv, hv, hv, fun e => key false (by simpa using e), fun e => key true (by simpa using e)⟩⟩
theorem ct_1 {I0 : mmI} (hK : cK I0 p K) (hw : cWy I0) (h2 : I0 6 2 = nI (nB K)) (k : ∀ I, fr [(7, [])] I0 I → (∀ b, b < nB K → I 7 b = nI (fanK K b)) → Q none ((fl, n1, n2, p, q, ad), I, J)) : mm_wc (d + 3) 1 [.ref 6] ((fl, n1, n2, p, q, ad), I0, J) Q := by
  have hB := nB_le hK.1
  have lp : ∀ m b, m + b = nB K → ∀ I, fr [(7, [])] I0 I → (∀ b', b' < b → I 7 b' = nI (fanK K b')) → mm_w Q (mm_wc (d + 2)) bk_1 2 [some (.ref 6), some (.int (nI b)), none, none] [] ((fl, n1, n2, p, q, ad), I, J) := by
    intro m
    induction m with
    | zero =>
      intro b hb I hf h1
      refine fx_1k_2 ?_
      rw [hf 6 2 rfl, h2, z_le (by omega) (by omega)]
      exact ⟨fun _ => k I hf (fun b' hb' => h1 b' (by omega)), fun e => absurd (by omega) e⟩
    | succ m ih =>
      intro b hb I hf h1
      refine fx_1k_2 ?_
      rw [hf 6 2 rfl, h2, z_le (by omega) (by omega)]
      refine ⟨fun e => absurd e (by omega), fun _ => ?_⟩
      refine ff_14 (hK.fr hf rfl) ⟨fun j hj => by rw [hf 66 j rfl]; exact hw.1 j hj, fun j hj => by rw [hf 67 j rfl]; exact hw.2 j hj⟩ (by omega) (ih (b + 1) (by omega) _ (hf.up rfl) (fun b' hb' => ?_)) (K 3) 0 (by omega)
      by_cases e : b' = b
      · subst e; rw [up_s]
      · rw [up_k e]; exact h1 b' (by omega)
  exact fx_1k (lp (nB K) 0 (by omega) I0 fr.rf (fun b hb => absurd hb (by omega)))
abbrev fuS : List (Nat × List Nat) := [(6, [7]), (8, []), (9, []), (10, []), (11, [])]
theorem fu_old {fan : Nat → Nat} {I : mmI} {B u f : Nat} {un uo : Nat → Nat} (h : uni fan I B u un uo) (hf : f < u) (he : un f = fan B) : uni fan (mm_up (mm_up I 8 B (nI f)) 10 f (nI (cntB (fun b => fan b == un f) B + 1))) (B + 1) u un (fun b => if b = B then f else uo b) := by
  obtain ⟨h1, h2, h3, h4, h5, h6, h7, h8, h9⟩ := h
  refine ⟨by rw [up_c (by decide), up_c (by decide)]; exact h1, by omega, fun g hg => by rw [up_c (by decide), up_c (by decide)]; exact h3 g hg, h4, fun b hb => ?_, fun g hg => ?_, fun g hg => ?_, fun s hs => ?_, ?_⟩
  · rw [up_c (by decide), up_eq]
    by_cases e : b = B
    · subst e; simp [hf, he]
    · simp only [e, and_false, if_false]
      exact h5 b (by omega)
  · obtain ⟨b, hb, e⟩ := h6 g hg
    exact ⟨b, by omega, e⟩
  · rw [up_eq]
    by_cases e : g = f
    · subst e
      rw [if_pos ⟨rfl, rfl⟩]
      show nI _ = nI (cntB _ B + _)
      rw [he]; simp
    · rw [if_neg (fun z => e z.2), up_c (by decide), h7 g hg]
      have : (fan B == un g) = false := by
        rw [← he]; simpa using fun z : un f = un g => e (h4 g f hg hf z.symm)
      show nI _ = nI (cntB _ B + _)
      simp only [this]; rfl
  · rw [up_c (by decide), up_c (by decide)]; exact h8 s hs
  · have : newB fan B = false := by
      obtain ⟨b, hb, eb⟩ := h6 f hf
      unfold newB
      exact decide_eq_false (fun z => z b hb (eb.trans he))
    show u = cntB _ B + _
    rw [this, h9]; rfl
theorem fu_new {fan : Nat → Nat} {I : mmI} {B u : Nat} {un uo : Nat → Nat} (h : uni fan I B u un uo) (he : ∀ f, f < u → un f ≠ fan B) :
    uni fan (mm_up (mm_up (mm_up (mm_up (mm_up (mm_up I 9 u (nI (fan B))) 10 u (nI 0)) 6 7 (nI (u + 1))) 11 (fan B) (nI (u + 1))) 8 B (nI u)) 10 u (nI 1)) (B + 1) (u + 1) (fun f => if f = u then fan B else un f) (fun b => if b = B then u else uo b) := by
  obtain ⟨h1, h2, h3, h4, h5, h6, h7, h8, h9⟩ := h
  refine ⟨?_, by omega, fun g hg => ?_, fun f g hf hg => ?_, fun b hb => ?_, fun g hg => ?_, fun g hg => ?_, fun s hs => ?_, ?_⟩
  · simp (disch := omega) only [up_c, up_s]
  · simp (disch := omega) only [up_c]
    by_cases e : g = u
    · subst e; simp [up_s]
    · rw [up_k e]; simp only [e, if_false]; exact h3 g (by omega)
  · by_cases e1 : f = u <;> by_cases e2 : g = u <;> simp only [e1, e2, if_true, if_false]
    · exact fun _ => trivial
    · exact fun z => absurd z.symm (he g (by omega))
    · exact fun z => absurd z (he f (by omega))
    · exact fun z => h4 f g (by omega) (by omega) z
  · simp (disch := omega) only [up_c]
    by_cases e : b = B
    · subst e; simp [up_s]
    · rw [up_k e]
      simp (disch := omega) only [up_c, e, if_false]
      obtain ⟨g1, g2, g3⟩ := h5 b (by omega)
      have : uo b ≠ u := by omega
      simp only [this, if_false]
      exact ⟨g1, by omega, g3⟩
  · by_cases e : g = u
    · subst e; exact ⟨B, by omega, by simp⟩
    · obtain ⟨b, hb, e2⟩ := h6 g (by omega)
      exact ⟨b, by omega, by simp only [e, if_false]; exact e2⟩
  · by_cases e : g = u
    · subst e
      rw [up_s]
      have : cntB (fun b => fan b == fan B) B = 0 := cntB_0 (fun b hb => by
        obtain ⟨-, g2, g3⟩ := h5 b hb
        have := he (uo b) g2
        rw [g3] at this
        simpa using this)
      simp only [if_true]
      show nI 1 = nI (cntB _ B + _)
      rw [this]; simp
    · rw [up_k e]
      simp (disch := omega) only [up_c, e, if_false]
      rw [up_k e]
      simp (disch := omega) only [up_c]
      rw [h7 g (by omega)]
      have : (fan B == un g) = false := by simpa using fun z : fan B = un g => he g (by omega) z.symm
      show nI _ = nI (cntB _ B + _)
      simp only [this]; rfl
  · simp (disch := omega) only [up_c]
    by_cases e : s = fan B
    · subst e; exact .inl ⟨u, by omega, by simp, up_s _ _ _ _⟩
    · rw [up_k e]
      simp (disch := omega) only [up_c]
      rcases h8 s hs with ⟨f, hf, g1, g2⟩ | ⟨g1, g2⟩
      · have : f ≠ u := by omega
        exact .inl ⟨f, by omega, by simp only [this, if_false]; exact g1, g2⟩
      · refine .inr ⟨fun f hf => ?_, g2⟩
        by_cases e1 : f = u
        · simp only [e1, if_true]; exact fun z => e z.symm
        · simp only [e1, if_false]; exact g1 f (by omega)
  · have : newB fan B = true := by
      unfold newB
      refine decide_eq_true (fun b hb z => ?_)
      obtain ⟨-, g2, g3⟩ := h5 b hb
      exact he (uo b) g2 (g3.trans z)
    show u + 1 = cntB _ B + _
    rw [this, ← h9]; rfl
theorem ct_3 {I0 : mmI} (ok : okR K) (h2 : I0 6 2 = nI (nB K)) (h7 : ∀ b, b < nB K → I0 7 b = nI (fanK K b)) (k : ∀ I u un uo, fr fuS I0 I → uni (fanK K) I (nB K) u un uo → Q none ((fl, n1, n2, p, q, ad), I, J)) : mm_wc (d + 2) 3 [.ref 6] ((fl, n1, n2, p, q, ad), I0, J) Q := by
  have hB := nB_le ok
  have lp : ∀ m b, m + b = nB K → ∀ I u un uo, fr fuS I0 I → uni (fanK K) I b u un uo → mm_w Q (mm_wc (d + 1)) bk_3 15 [some (.ref 6), some (.int (nI b)), none] [] ((fl, n1, n2, p, q, ad), I, J) := by
    intro m
    induction m with
    | zero =>
      intro b hb I u un uo hf h1
      refine fx_3_15 ?_
      rw [hf 6 2 rfl, h2, z_le (by omega) (by omega)]
      have : b = nB K := by omega
      subst this
      exact ⟨fun _ => k I u un uo hf h1, fun e => absurd (Nat.le_refl _) e⟩
    | succ m ih =>
      intro b hb I u un uo hf h1
      have hfl := lt_p11 ok (fanK_lt K b)
      have hI7 : I 7 b = nI (fanK K b) := by rw [hf 7 b rfl]; exact h7 b (by omega)
      have hu := h1.2.1
      have hv7 : vp_in (nI (fanK K b)) 1024 := z_in hfl (by decide)
      have hvb : vp_in (nI b) 320 := z_in (by omega) (by decide)
      refine fx_3_15 ?_
      rw [hf 6 2 rfl, h2, z_le (by omega) (by omega), z_ix (by omega), hI7, z_ix (by omega)]
      refine ⟨fun e => absurd e (by omega), fun _ => ⟨hvb, hv7, fun e => ?_, fun e => ?_⟩⟩
      · rcases h1.2.2.2.2.2.2.2.1 (fanK K b) hfl with ⟨f, g0, g1, g2⟩ | ⟨g1, g2⟩
        · have hcl := cntB_le (fun b' => fanK K b' == un f) b
          rw [up_s, g2, z_sub (by omega), show f + 1 - 1 = f by omega, z_ix (by omega), h1.2.2.2.2.2.2.1 f g0, z_add, z_add]
          have hvf : vp_in (nI f) 320 := z_in (by omega) (by decide)
          exact ⟨hv7, hvb, hvb, hvf, hvf, ih (b + 1) (by omega) _ u un _ ((hf.up rfl).up rfl) (fu_old h1 g0 g1)⟩
        · exact absurd g2 e
      · rcases h1.2.2.2.2.2.2.2.1 (fanK K b) hfl with ⟨f, g0, g1, g2⟩ | ⟨g1, g2⟩
        · rw [g2, z_eq (by omega) (by decide)] at e; omega
        · simp (disch := omega) only [h1.1, up_c, up_s, z_ix, z_add, z_sub, Nat.add_sub_cancel, Nat.zero_add]
          have hvu : vp_in (nI u) 320 := z_in (by omega) (by decide)
          exact ⟨hvu, hvu, hv7, hv7, hvb, hvb, hvu, hvu, ih (b + 1) (by omega) _ (u + 1) _ _ ((((((hf.up rfl).up rfl).up rfl).up rfl).up rfl).up rfl) (fu_new h1 g1)⟩
  refine fx_3 (ct_279_11 (fun I hf h1 => ⟨_, _, rfl, rfl, ?_⟩))
  refine lp (nB K) 0 (by omega) _ 0 (fun _ => 0) (fun _ => 0) ((hf.mono (by decide)).up rfl) ⟨up_s _ _ _ _, by omega, fun f hf => absurd hf (by omega), fun f g hf => absurd hf (by omega), fun b hb => absurd hb (by omega), fun f hf => absurd hf (by omega), fun f hf => absurd hf (by omega), fun s hs => .inr ⟨fun f hf => absurd hf (by omega), ?_⟩, rfl⟩
  rw [up_c (by decide)]; exact h1 s hs
end CC
