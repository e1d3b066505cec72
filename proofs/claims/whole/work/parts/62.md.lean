/-! frames; the model's allow -/
def inS (L : List (Nat × List Nat)) (r k : Nat) : Bool := L.any fun e => e.1 == r && (e.2.isEmpty || e.2.contains k)
/-- I' is I but at the cells, and their fields, of L -/
def fr (L : List (Nat × List Nat)) (I I' : mmI) : Prop := ∀ r k, inS L r k = false → I' r k = I r k
theorem fr.rf {L : List (Nat × List Nat)} {I : mmI} : fr L I I := fun _ _ _ => rfl
theorem fr.tr {L : List (Nat × List Nat)} {I I' I'' : mmI} (h : fr L I I') (h2 : fr L I' I'') : fr L I I'' := fun r k hr => (h2 r k hr).trans (h r k hr)
theorem fr.up {L : List (Nat × List Nat)} {I I' : mmI} (h : fr L I I') {r k : Nat} {x : Int32} (hr : inS L r k = true) : fr L I (mm_up I' r k x) := fun q j hq => by
  rw [up_eq]
  split
  · rename_i e; rw [e.1, e.2, hr] at hq; cases hq
  · exact h q j hq
theorem inS_mono {L M : List (Nat × List Nat)} (h : ∀ e, e ∈ L → e ∈ M) {r k : Nat} (hr : inS M r k = false) : inS L r k = false := by
  cases hb : inS L r k
  · rfl
  · unfold inS at hb hr
    obtain ⟨e, he, h2⟩ := List.any_eq_true.mp hb
    exact absurd h2 (List.any_eq_false.mp hr e (h e he))
theorem fr.mono {L M : List (Nat × List Nat)} {I I' : mmI} (h : fr L I I') (hs : ∀ e, e ∈ L → e ∈ M) : fr M I I' := fun r k hr => h r k (inS_mono hs hr)
theorem up_c {I : mmI} {r k r' k' : Nat} {x : Int32} (h : r' ≠ r) : mm_up I r k x r' k' = I r' k' := by rw [up_eq]; simp [h]
theorem mR.of {I I' : mmI} {R : Nat → Nat} (h : mR I R) (h2 : ∀ k, k < 72 → I' 49 k = I 49 k) : mR I' R := ⟨h.1, fun k hk => by rw [h2 k hk]; exact h.2 k hk⟩
/-- which breaths are allowed -/
def aP (R : Nat → Nat) (x0 x1 x2 x3 : Int32) (b : Nat) : Prop := (x0 < nI 0 ∨ nI (b / 16 / R 4) = x0) ∧ (x1 < nI 0 ∨ nI (b / 16 % R 4) = x1) ∧ ¬ nI (b / 16 / R 4) = x2 ∧ ¬ nI (b / 16 % R 4) = x3
/-- a list of n breaths below B that P allows: each fan of one of them is there, by its first breath (e: all are there) -/
def alw (F : Nat → Nat) (P : Nat → Prop) (e : Prop) (B n : Nat) (al : Nat → Nat) : Prop := n ≤ B ∧ (∀ k, k < n → al k < B ∧ P (al k)) ∧ (∀ k j, k < j → j < n → al k < al j) ∧ ∀ b, b < B → P b → ∃ k, k < n ∧ al k ≤ b ∧ F (al k) = F b ∧ (e → al k = b)
abbrev alS : List (Nat × List Nat) := [(46, [32]), (57, [])]
section MD
variable {d n1 n2 : Nat} {fl : Nat → Bool} {p q : Bool} {ad : Nat → Nat} {I : mmI} {J : mmJ} {Q : mmQ} {R F : Nat → Nat} {x0 x1 x2 x3 : Int32} {e : Bool}
theorem al_8 (hR : mR I R) {b : Nat} (hb : b < nB R)
    (h1 : aP R x0 x1 x2 x3 b → mm_w Q (mm_wc (d + 1)) bk_234 76 [some (.ref 46), some (.int x0), some (.int x1), some (.int x2), some (.int x3), some (.int (bI e)), some (.int (nI b)), some (.int (nI 1)), some (.int (nI 0))] [] ((fl, n1, n2, p, q, ad), I, J))
    (h0 : ¬ aP R x0 x1 x2 x3 b → mm_w Q (mm_wc (d + 1)) bk_234 76 [some (.ref 46), some (.int x0), some (.int x1), some (.int x2), some (.int x3), some (.int (bI e)), some (.int (nI b)), some (.int (nI 0)), some (.int (nI 0))] [] ((fl, n1, n2, p, q, ad), I, J)) :
    mm_w Q (mm_wc (d + 1)) bk_234 8 [some (.ref 46), some (.int x0), some (.int x1), some (.int x2), some (.int x3), some (.int (bI e)), some (.int (nI b)), none, none] [] ((fl, n1, n2, p, q, ad), I, J) := by
  have hB := nB_le hR.1
  refine fx_234k_8 ?_
  refine ct_206 hR ⟨_, _, _, rfl, rfl, ?_⟩
  rw [z_le (by omega) (by omega)]
  refine ⟨fun e => absurd e (by omega), fun _ => ?_⟩
  have s70 := fun hn => fx_234k_70 (fx_234k_71 (h0 hn))
  have s45 : (x0 < nI 0 ∨ nI (b / 16 / R 4) = x0) → (x1 < nI 0 ∨ nI (b / 16 % R 4) = x1) → mm_w Q (mm_wc (d + 1)) bk_234 45 [some (.ref 46), some (.int x0), some (.int x1), some (.int x2), some (.int x3), some (.int (bI e)), some (.int (nI b)), none, none] [] ((fl, n1, n2, p, q, ad), I, J) := by
    intro g0 g1
    refine fx_234k_45 ?_
    refine ct_207 hR (by omega) ⟨_, _, _, rfl, rfl, fun g2 => s70 (fun z => z.2.2.1 g2), fun g2 => ?_⟩
    refine ct_208 hR (by omega) ⟨_, _, _, rfl, rfl, fun g3 => s70 (fun z => z.2.2.2 g3), fun g3 => ?_⟩
    exact fx_234k_71 (h1 ⟨g0, g1, g2, g3⟩)
  have s31 : (x0 < nI 0 ∨ nI (b / 16 / R 4) = x0) → mm_w Q (mm_wc (d + 1)) bk_234 31 [some (.ref 46), some (.int x0), some (.int x1), some (.int x2), some (.int x3), some (.int (bI e)), some (.int (nI b)), none, none] [] ((fl, n1, n2, p, q, ad), I, J) := by
    intro g0
    refine fx_234k_31 ⟨fun g => s45 g0 (.inl g), fun g => ?_⟩
    refine ct_208 hR (by omega) ⟨_, _, _, rfl, rfl, fun g1 => s70 (fun z => z.2.1.elim g g1), fun g1 => s45 g0 (.inr g1)⟩
  refine ⟨fun g => s31 (.inl g), fun g => ?_⟩
  refine ct_207 hR (by omega) ⟨_, _, _, rfl, rfl, fun g1 => s70 (fun z => z.1.elim g g1), fun g1 => s31 (.inr g1)⟩
theorem al_76 {b n B : Nat} {al : Nat → Nat} (hn : I 46 32 = nI n) (hnB : n ≤ B) (hB : B ≤ 320) (hbB : b < B) (hal : ∀ k, k < n → I 57 k = nI (al k)) (hlt : ∀ k, k < n → al k < B) (hF : ∀ b, b < B → I 53 b = nI (F b)) (hFl : ∀ b, b < B → F b < 2 ^ 31)
    (h1 : ((e = true) ∨ ∀ j, j < n → F (al j) ≠ F b) → mm_w Q (mm_wc (d + 1)) bk_234 130 [some (.ref 46), some (.int x0), some (.int x1), some (.int x2), some (.int x3), some (.int (bI e)), some (.int (nI b)), some (.int (nI 1)), none] [] ((fl, n1, n2, p, q, ad), I, J))
    (h0 : e = false → (∃ j, j < n ∧ F (al j) = F b) → mm_w Q (mm_wc (d + 1)) bk_234 130 [some (.ref 46), some (.int x0), some (.int x1), some (.int x2), some (.int x3), some (.int (bI e)), some (.int (nI b)), some (.int (nI 0)), none] [] ((fl, n1, n2, p, q, ad), I, J)) :
    ∀ m k, m + k = n → (∀ j, j < k → F (al j) ≠ F b) → mm_w Q (mm_wc (d + 1)) bk_234 76 [some (.ref 46), some (.int x0), some (.int x1), some (.int x2), some (.int x3), some (.int (bI e)), some (.int (nI b)), some (.int (nI 1)), some (.int (nI k))] [] ((fl, n1, n2, p, q, ad), I, J) := by
  intro m
  induction m with
  | zero =>
    intro k hk hj
    refine fx_234k_76 ?_
    rw [hn, z_le (by omega) (by omega)]
    exact ⟨fun _ => h1 (.inr (fun j hjn => hj j (by omega))), fun e => absurd (by omega) e⟩
  | succ m ih =>
    intro k hk hj
    have hkl := hlt k (by omega)
    refine fx_234k_76 ?_
    rw [hn, z_le (by omega) (by omega), z_ix (by omega), hal k (by omega), z_ix (by omega), z_ix (by omega), hF _ hkl, hF b hbB, z_eq (hFl _ hkl) (hFl b hbB), bI_0]
    refine ⟨fun e => absurd e (by omega), fun _ => ⟨fun e => absurd e (by rw [z_eq (by decide) (by decide)]; decide), fun _ => ⟨fun ge => ?_, fun ge => ⟨z_in (by omega) (by decide), z_in (by omega) (by decide), z_in (by omega) (by decide), fun g => ?_, fun g => ?_⟩⟩⟩⟩
    · exact h1 (.inl (by simpa using ge))
    · refine fx_234k_122 ?_
      rw [z_add]
      refine fx_234k_76 ?_
      have hh := h0 ge ⟨k, by omega, g⟩
      rw [hn]
      exact ⟨fun _ => hh, fun _ => ⟨fun _ => hh, fun z => absurd rfl z⟩⟩
    · refine fx_234k_122 ?_
      rw [z_add]
      refine ih (k + 1) (by omega) (fun j hjk => ?_)
      by_cases hjk2 : j = k
      · subst hjk2; exact g
      · exact hj j (by omega)
theorem al_lp (hok : okR R) {I0 : mmI} (hR0 : mR I0 R) (hF : ∀ b, b < nB R → I0 53 b = nI (F b)) (hFl : ∀ b, b < nB R → F b < 2 ^ 31)
    (h : ∀ I' n al, fr alS I0 I' → I' 46 32 = nI n → (∀ k, k < n → I' 57 k = nI (al k)) → alw F (aP R x0 x1 x2 x3) (e = true) (nB R) n al → Q none ((fl, n1, n2, p, q, ad), I', J)) :
    ∀ m b n al I, m + b = nB R → fr alS I0 I → I 46 32 = nI n → (∀ k, k < n → I 57 k = nI (al k)) → alw F (aP R x0 x1 x2 x3) (e = true) b n al → mm_w Q (mm_wc (d + 1)) bk_234 8 [some (.ref 46), some (.int x0), some (.int x1), some (.int x2), some (.int x3), some (.int (bI e)), some (.int (nI b)), none, none] [] ((fl, n1, n2, p, q, ad), I, J) := by
  have hB := nB_le hok
  intro m
  induction m with
  | zero =>
    intro b n al I hb hfr hn hal hA
    have hR : mR I R := hR0.of (fun k _ => hfr 49 k rfl)
    have : b = nB R := by omega
    subst this
    refine fx_234k_8 ?_
    refine ct_206 hR ⟨_, _, _, rfl, rfl, ?_⟩
    rw [z_le (by omega) (by omega)]
    exact ⟨fun _ => h I n al hfr hn hal hA, fun e => absurd (Nat.le_refl _) e⟩
  | succ m ih =>
    intro b n al I hb hfr hn hal hA
    have hR : mR I R := hR0.of (fun k _ => hfr 49 k rfl)
    obtain ⟨a0, a1, a2, a3⟩ := hA
    have hbB : b < nB R := by omega
    have skip : (aP R x0 x1 x2 x3 b → e = false ∧ ∃ j, j < n ∧ F (al j) = F b) → mm_w Q (mm_wc (d + 1)) bk_234 130 [some (.ref 46), some (.int x0), some (.int x1), some (.int x2), some (.int x3), some (.int (bI e)), some (.int (nI b)), some (.int (nI 0)), none] [] ((fl, n1, n2, p, q, ad), I, J) := by
      intro hs
      refine fx_234k_130 ⟨fun z => absurd rfl z, fun _ => fx_234k_159 ?_⟩
      rw [z_add]
      refine ih (b + 1) n al I (by omega) hfr hn hal ⟨by omega, fun k hk => ⟨by have := (a1 k hk).1; omega, (a1 k hk).2⟩, a2, fun b' hb' hP => ?_⟩
      by_cases hbb : b' = b
      · subst hbb
        obtain ⟨he, j, hj, hFj⟩ := hs hP
        exact ⟨j, hj, by have := (a1 j hj).1; omega, hFj, fun z => by rw [he] at z; cases z⟩
      · exact a3 b' (by omega) hP
    have w0 : ¬ aP R x0 x1 x2 x3 b → mm_w Q (mm_wc (d + 1)) bk_234 76 [some (.ref 46), some (.int x0), some (.int x1), some (.int x2), some (.int x3), some (.int (bI e)), some (.int (nI b)), some (.int (nI 0)), some (.int (nI 0))] [] ((fl, n1, n2, p, q, ad), I, J) := by
      intro hnP
      have hh := skip (fun z => absurd z hnP)
      refine fx_234k_76 ?_
      exact ⟨fun _ => hh, fun _ => ⟨fun _ => hh, fun z => absurd rfl z⟩⟩
    refine al_8 hR hbB (fun hP => ?_) w0
    refine al_76 (F := F) (n := n) (B := nB R) (al := al) hn (by omega) hB hbB hal (fun k hk => by have := (a1 k hk).1; omega) (fun b hb => by rw [hfr 53 b rfl]; exact hF b hb) hFl (fun hnew => ?_) (fun he hj => skip (fun _ => ⟨he, hj⟩)) n 0 (by omega) (fun j hj => absurd hj (by omega))
    refine fx_234k_130 ⟨fun _ => ⟨by rw [hn]; exact z_in (by omega) (by decide), fx_234k_159 ?_⟩, fun z => absurd z (by rw [z_eq (by decide) (by decide)]; decide)⟩
    rw [hn, z_ix (by omega), z_add, z_add]
    refine ih (b + 1) (n + 1) (fun k => if k = n then b else al k) _ (by omega) ((hfr.up rfl).up rfl) (up_s _ _ _ _) ?_ ?_
    · intro k hk
      rw [up_c (by decide), up_eq]
      by_cases hkn : k = n
      · simp [hkn]
      · simp [hkn]; exact hal k (by omega)
    · refine ⟨by omega, fun k hk => ?_, fun k j hkj hj => ?_, fun b' hb' hP' => ?_⟩
      · by_cases hkn : k = n
        · simp only [hkn, if_true]; exact ⟨by omega, hP⟩
        · simp only [hkn, if_false]
          have := a1 k (by omega)
          exact ⟨by omega, this.2⟩
      · by_cases hjn : j = n
        · have hkn : k ≠ n := by omega
          simp only [hjn, hkn, if_true, if_false]
          exact (a1 k (by omega)).1
        · have hkn : k ≠ n := by omega
          simp only [hjn, hkn, if_false]
          exact a2 k j hkj (by omega)
      · by_cases hbb : b' = b
        · subst hbb
          exact ⟨n, by omega, by simp, by simp, by simp⟩
        · obtain ⟨k, hk, hk2, hk3, hk4⟩ := a3 b' (by omega) hP'
          have hkn : k ≠ n := by omega
          exact ⟨k, by omega, by simp only [hkn, if_false]; exact hk2, by simp only [hkn, if_false]; exact hk3, by simp only [hkn, if_false]; exact hk4⟩
theorem ct_234 (hR : mR I R) (hF : ∀ b, b < nB R → I 53 b = nI (F b)) (hFl : ∀ b, b < nB R → F b < 2 ^ 31)
    (h : ∀ I' n al, fr alS I I' → I' 46 32 = nI n → (∀ k, k < n → I' 57 k = nI (al k)) → alw F (aP R x0 x1 x2 x3) (e = true) (nB R) n al → Q none ((fl, n1, n2, p, q, ad), I', J)) :
    mm_wc (d + 2) 234 [.ref 46, .int x0, .int x1, .int x2, .int x3, .int (bI e)] ((fl, n1, n2, p, q, ad), I, J) Q := by
  refine fx_234k ?_
  refine al_lp hR.1 hR hF hFl h (nB R) 0 0 (fun _ => 0) _ (by omega) (fr.rf.up rfl) (up_s _ _ _ _) (fun k hk => absurd hk (by omega)) ⟨Nat.le_refl _, fun k hk => absurd hk (by omega), fun k j hk hj => absurd hj (by omega), fun b hb => absurd hb (by omega)⟩
end MD
