/-! the class's few -/
theorem zst_0 {K : Nat → Nat} (ok : okR K) {b : Nat} : zst K 0 b = 0 := by
  have e1 : bH (ofK K 3) (0 / 8) (dzs (ofK K 3) (K 3) (0 % 8)) (fanK K b) = 0 := by
    apply Nat.eq_of_testBit_eq
    intro i
    rw [Nat.zero_testBit]
    cases h : (bH (ofK K 3) (0 / 8) (dzs (ofK K 3) (K 3) (0 % 8)) (fanK K b)).testBit i
    · rfl
    · have := (bH_sub _ _ _ _ _ h).1
      rw [show 0 / 8 = 0 from rfl, Nat.zero_testBit] at this; cases this
  have e2 : bL (0 / 8) (fanK K b) 0 = 0 := by
    apply Nat.eq_of_testBit_eq
    intro i
    rw [Nat.zero_testBit]
    cases h : (bL (0 / 8) (fanK K b) 0).testBit i
    · rfl
    · have := bL_sub (fun i hi => by rw [Nat.zero_testBit] at hi; cases hi) i h
      rw [show 0 / 8 = 0 from rfl, Nat.zero_testBit] at this; cases this
  have e3 : ∀ T n, cde T 0 n = 0 := by
    intro T n
    induction n with
    | zero => rfl
    | succ n ih => rw [cde, if_neg (by rw [Nat.zero_testBit]; exact fun z => by cases z.2)]; exact ih
  show cstp K 0 0 (fanK K b) 0 = 0
  unfold cstp
  rw [e1, e2, e3, Nat.zero_mod, litS_0]
  simp [sd]
theorem al_sc {K : Nat → Nat} {cnt : Nat} {al : Nat → Nat} (h : alw (fanK K) (fun _ => True) False (nB K) cnt al) (m m' : Nat) : kall K m m' ↔ ∃ k, k < cnt ∧ m' = zst K m (al k) := by
  obtain ⟨a0, a1, a2, a3⟩ := h
  constructor
  · rintro ⟨b, hb, -, rfl⟩
    obtain ⟨k, hk, -, hF, -⟩ := a3 b hb trivial
    exact ⟨k, hk, by show cstp K 0 0 (fanK K b) m = cstp K 0 0 (fanK K (al k)) m; rw [hF]⟩
  · rintro ⟨k, hk, rfl⟩
    exact ⟨al k, (a1 k hk).1, trivial, rfl⟩
theorem al_pos {K : Nat → Nat} {cnt : Nat} {al : Nat → Nat} (ok : okR K) (h : alw (fanK K) (fun _ => True) False (nB K) cnt al) : 0 < cnt := by
  have h4 := ok.p
  have h6 := ok.h
  have : 0 < nB K := Nat.mul_pos (by omega) (by omega)
  obtain ⟨k, hk, -⟩ := h.2.2.2 0 this trivial
  omega
/-- what the rounds rest on -/
def cRb (I : mmI) (K : Nat → Nat) (cnt : Nat) (al : Nat → Nat) : Prop := bD I K ∧ I 6 13 = nI 0 ∧ I 77 3 = nI cnt ∧ cnt ≤ 320 ∧ ∀ k, k < cnt → I 78 k = nI (fanK K (al k))
theorem cRb_fr {I I' : mmI} {K : Nat → Nat} {cnt : Nat} {al : Nat → Nat} {L : List (Nat × List Nat)} (h : cRb I K cnt al) (hf : fr L I I') (h1 : inS L 6 2 = false) (h2 : inS L 6 7 = false) (h3 : inS L 6 11 = false) (h4 : noR 7 15 L = true) (h5 : inS L 6 13 = false) (h6 : inS L 77 3 = false) (h7 : noR 78 79 L = true) : cRb I' K cnt al :=
  ⟨h.1.fr hf h1 h2 h3 h4, by rw [hf 6 13 h5]; exact h.2.1, by rw [hf 77 3 h6]; exact h.2.2.1, h.2.2.2.1, fun k hk => by rw [hf 78 k (inS_no h7 (by decide) (by decide))]; exact h.2.2.2.2 k hk⟩
/-- the list after t breaths, all of them or with the empty one -/
def cNl (I : mmI) (A : Nat) (K : Nat → Nat) (s t : Nat) (qq : Nat → Nat) (tl : Nat) : Prop := tl ≤ 3456 ∧ 1 ≤ tl ∧ (∀ i j, i < tl → j < tl → qq i = qq j → i = j) ∧ (∀ i, i < tl → I A i = nI (qq i) ∧ rch (kall K) s t (qq i)) ∧ ((∀ m, rch (kall K) s t m → ∃ i, i < tl ∧ qq i = m) ∨ qq 0 = 0)
/-- within a round -/
def fI (K : Nat → Nat) (s t g : Nat) (I : mmI) (B : Nat) (qq : Nat → Nat) (tl : Nat) : Prop := tl ≤ 3456 ∧ (∀ i j, i < tl → j < tl → qq i = qq j → i = j) ∧ (∀ j, j < tl → I B j = nI (qq j) ∧ rch (kall K) s (t + 1) (qq j) ∧ qq j ≠ 0) ∧ (∀ j, j < tl → True) ∧ (∀ z, z < 16384 → (I 71 z = nI g ∧ ∃ j, j < tl ∧ qq j = z) ∨ ∃ e, e < g ∧ I 71 z = nI e) ∧ ∀ j, j < tl → ∀ z, qq j = z → I 71 z = nI g
section FC
variable {d n1 n2 : Nat} {b1 b2 p q : Bool} {ad : Nat → Nat} {J : mmJ} {Q : mmQ} {K : Nat → Nat} {s cnt : Nat} {al : Nat → Nat} {I : mmI}
theorem ct_105a {I0 : mmI} {t tl g : Nat} {qq : Nat → Nat} (ok : okR K) (hv : vm K False s) (hal : alw (fanK K) (fun _ => True) False (nB K) cnt al) (hR : cRb I0 K cnt al) (hg : 2 ≤ g) (hg1 : g < 100) (hL : cNl I0 72 K s t qq tl) (hM : ∀ z, z < 16384 → ∃ e, e < g ∧ I0 71 z = nI e) (k : ∀ I' qq' tl', fr [(71, []), (73, [])] I0 I' → cNl I' 73 K s (t + 1) qq' tl' → (∀ z, z < 16384 → ∃ e, e < g + 1 ∧ I' 71 z = nI e) → Q (some (.int (nI tl'))) ((mm_fl true b1 b2, n1, n2, p, q, ad), I', J)) : mm_wc (d + 3) 105 [.ref 70, .ref 72, .int (nI tl), .ref 73, .int (nI g)] ((mm_fl true b1 b2, n1, n2, p, q, ad), I0, J) Q := by
  obtain ⟨l0, l1, l2, l3, l4⟩ := hL
  have hsc := al_sc hal
  have hVr : ∀ n m, rch (kall K) s n m → vm K False m := fun n m h => (rch_V (V := vmm K False 0) ⟨hv, fun i _ => Nat.zero_testBit i⟩ (ksc_V ok (fun i hi => by rw [Nat.zero_testBit] at hi; cases hi)) n m h).1
  have hc1 := al_pos ok hal
  obtain ⟨-, -, r3, r4, r5⟩ := id hR
  -- what holds inside
  have fin : ∀ I' qq' tl', fr [(71, []), (73, [])] I0 I' → fI K s t g I' 73 qq' tl' → (∀ i', i' < tl → ∀ k, k < cnt → ∃ j, j < tl' ∧ qq' j = zst K (qq i') (al k)) → cNl I' 73 K s (t + 1) qq' tl' ∧ (∀ z, z < 16384 → ∃ e, e < g + 1 ∧ I' 71 z = nI e) := by
    intro I' qq' tl' hf hI hcv
    obtain ⟨i1, i2, i3, i4, i5, i6⟩ := hI
    refine ⟨⟨i1, ?_, i2, fun i hi => ⟨(i3 i hi).1, (i3 i hi).2.1⟩, .inl (fun m hm => ?_)⟩, fun z hz => ?_⟩
    · obtain ⟨j, hj, -⟩ := hcv 0 (by omega) 0 hc1
      omega
    · obtain ⟨m', h1, h2⟩ := hm
      obtain ⟨k, hk, rfl⟩ := (hsc m' m).mp h2
      rcases l4 with z | z
      · obtain ⟨i', hi', rfl⟩ := z m' h1
        exact hcv i' hi' k hk
      · obtain ⟨j, hj, ej⟩ := hcv 0 (by omega) 0 hc1
        rw [z, zst_0 ok] at ej
        exact absurd ej (i3 j hj).2.2
    · rcases i5 z hz with ⟨w, -⟩ | ⟨e, w1, w2⟩
      · exact ⟨g, by omega, w⟩
      · exact ⟨e, by omega, w2⟩
  have inn : ∀ i, i < tl → ∀ n kk, n + kk = cnt → ∀ I' qq' tl', fr [(71, []), (73, [])] I0 I' → fI K s t g I' 73 qq' tl' → (∀ i', i' < i → ∀ k, k < cnt → ∃ j, j < tl' ∧ qq' j = zst K (qq i') (al k)) → (∀ k, k < kk → ∃ j, j < tl' ∧ qq' j = zst K (qq i) (al k)) → (∀ I' qq' tl', fr [(71, []), (73, [])] I0 I' → fI K s t g I' 73 qq' tl' → (∀ i', i' < i + 1 → ∀ k, k < cnt → ∃ j, j < tl' ∧ qq' j = zst K (qq i') (al k)) → mm_w Q (mm_wc (d + 2)) bk_105 6 [some (.ref 70), some (.ref 72), some (.int (nI tl)), some (.ref 73), some (.int (nI g)), some (.int (nI tl')), some (.int (nI (i + 1))), none, none] [] ((mm_fl true b1 b2, n1, n2, p, q, ad), I', J)) → mm_w Q (mm_wc (d + 2)) bk_105 15 [some (.ref 70), some (.ref 72), some (.int (nI tl)), some (.ref 73), some (.int (nI g)), some (.int (nI tl')), some (.int (nI i)), some (.int (nI kk)), none] [] ((mm_fl true b1 b2, n1, n2, p, q, ad), I', J) := by
    intro i hi n
    induction n with
    | zero =>
      intro kk hk I' qq' tl' hf hI h1 h2 nx
      refine fx_105a_15 ?_
      rw [hf 77 3 rfl, r3, z_le (by omega) (by omega), z_add]
      refine ⟨fun _ => nx I' qq' tl' hf hI (fun i' hi' k hk' => ?_), fun e => absurd (by omega) e⟩
      by_cases e : i' = i
      · subst e; exact h2 k (by omega)
      · exact h1 i' (by omega) k hk'
    | succ n ih =>
      intro kk hk I' qq' tl' hf hI h1 h2 nx
      have hI' := hI
      obtain ⟨i1, i2, i3, i4, i5, i6⟩ := hI
      have hR' := cRb_fr hR hf rfl rfl rfl rfl rfl rfl rfl
      have vi := hVr _ _ (l3 i hi).2
      have v1 : vm K False (zst K (qq i) (al kk)) := cstp_vm ok vi (fun i hi => by rw [Nat.zero_testBit] at hi; cases hi)
      have v2 := v1.lt ok
      have rn : rch (kall K) s (t + 1) (zst K (qq i) (al kk)) := ⟨qq i, (l3 i hi).2, (hsc _ _).mpr ⟨kk, by omega, rfl⟩⟩
      refine fx_105a_15 ?_
      rw [hf 77 3 rfl, r3, z_le (by omega) (by omega), z_ix (by omega), hf 72 i rfl, (l3 i hi).1, z_ix (by omega), hR'.2.2.2.2 kk (by omega), z_add kk 1]
      refine ⟨fun e => absurd e (by omega), fun _ => ⟨z_in (by omega) (by decide), z_in (by omega) (by decide), ct_24n hR'.1 hR'.2.1 vi ⟨_, _, _, rfl, rfl, ?_⟩⟩⟩
      rw [z_ix (by omega)]
      have hvz : vp_in (nI (zst K (qq i) (al kk))) 16384 := z_in (by omega) (by decide)
      refine ⟨hvz, fun e => ih (kk + 1) (by omega) I' qq' tl' hf hI' h1 (fun k hk' => ?_) nx, fun e => ?_⟩
      · by_cases ek : k = kk
        · subst ek
          rcases i5 (zst K (qq i) (al k)) (by omega) with ⟨-, w⟩ | ⟨e', w1, w2⟩
          · exact w
          · rw [w2, z_eq (by omega) (by omega)] at e; omega
        · exact h2 k (by omega)
      · have hnew : ∀ j, j < tl' → qq' j ≠ zst K (qq i) (al kk) := fun j hj ej => e (i6 j hj _ ej)
        have htl : tl' + 1 ≤ 3456 := (vm_many (g := False) (q := ap qq' tl' (zst K (qq i) (al kk))) (tl := tl' + 1) ok (fun j hj => by
          by_cases ej : j = tl'
          · subst ej; rw [ap_eq]; exact v1
          · rw [ap_lt (by omega)]; exact hVr _ _ (i3 j (by omega)).2.1) (fun a b ha hb eab => by
          by_cases ea : a = tl' <;> by_cases eb : b = tl'
          · omega
          · rw [ea, ap_eq, ap_lt (by omega)] at eab; exact absurd eab.symm (hnew b (by omega))
          · rw [eb, ap_eq, ap_lt (by omega)] at eab; exact absurd eab (hnew a (by omega))
          · rw [ap_lt (by omega), ap_lt (by omega)] at eab; exact i2 a b (by omega) (by omega) eab)).2 id
        rw [z_le (by decide) (by omega), z_eq (by omega) (by decide), z_add, z_ix (by omega)]
        refine ⟨fun e2 => absurd e2 (by omega), fun _ => ⟨hvz, z_in (by omega) (by decide), fun e0 => ?_, fun e0 => ?_⟩⟩
        · refine ih (kk + 1) (by omega) _ (ap qq' tl' (zst K (qq i) (al kk))) (tl' + 1) ((hf.up rfl).up rfl) ⟨htl, fun a b ha hb eab => ?_, fun j hj => ?_, fun j hj => ?_, fun z hz => ?_, fun j hj z ez => ?_⟩ (fun i' hi' k hk' => ?_) (fun k hk' => ?_) nx
          · by_cases ea : a = tl' <;> by_cases eb : b = tl'
            · omega
            · rw [ea, ap_eq, ap_lt (by omega)] at eab; exact absurd eab.symm (hnew b (by omega))
            · rw [eb, ap_eq, ap_lt (by omega)] at eab; exact absurd eab (hnew a (by omega))
            · rw [ap_lt (by omega), ap_lt (by omega)] at eab; exact i2 a b (by omega) (by omega) eab
          · by_cases ej : j = tl'
            · subst ej; rw [up_s, ap_eq]; exact ⟨rfl, rn, e0⟩
            · rw [up_k ej, up_c (by decide), ap_lt (by omega)]; exact i3 j (by omega)
          · trivial
          · rw [up_c (by decide)]
            by_cases ez : z = zst K (qq i) (al kk)
            · subst ez; exact .inl ⟨up_s _ _ _ _, tl', by omega, ap_eq _ _ _⟩
            · rw [up_k ez]
              rcases i5 z hz with ⟨w, j, hj, ej⟩ | w
              · exact .inl ⟨w, j, by omega, by rw [ap_lt hj]; exact ej⟩
              · exact .inr w
          · rw [up_c (by decide)]
            by_cases ez' : z = zst K (qq i) (al kk)
            · subst ez'; exact up_s _ _ _ _
            · rw [up_k ez']
              by_cases ej : j = tl'
              · rw [ej, ap_eq] at ez; exact absurd ez.symm ez'
              · rw [ap_lt (by omega)] at ez; exact i6 j (by omega) z ez
          · obtain ⟨j, hj, ej⟩ := h1 i' hi' k hk'
            exact ⟨j, by omega, by rw [ap_lt hj]; exact ej⟩
          · by_cases ek : k = kk
            · subst ek; exact ⟨tl', by omega, ap_eq _ _ _⟩
            · obtain ⟨j, hj, ej⟩ := h2 k (by omega)
              exact ⟨j, by omega, by rw [ap_lt hj]; exact ej⟩
        · have f0 : fr [(71, []), (73, [])] I0 (mm_up (mm_up (mm_up I' 71 (zst K (qq i) (al kk)) (nI g)) 73 tl' (nI (zst K (qq i) (al kk)))) 73 0 (nI 0)) := ((hf.up rfl).up rfl).up rfl
          refine k _ (fun _ => 0) 1 f0 ⟨by decide, Nat.le_refl _, fun a b ha hb _ => by omega, fun j hj => ?_, .inr rfl⟩ (fun z hz => ?_)
          · have : j = 0 := by omega
            subst this
            rw [e0] at rn
            exact ⟨up_s _ _ _ _, rn⟩
          · rw [up_c (by decide), up_c (by decide)]
            by_cases ez : z = zst K (qq i) (al kk)
            · subst ez; exact ⟨g, by omega, up_s _ _ _ _⟩
            · rw [up_k ez]
              rcases i5 z hz with ⟨w, -⟩ | ⟨e', w1, w2⟩
              · exact ⟨g, by omega, w⟩
              · exact ⟨e', by omega, w2⟩
  have out : ∀ n i, n + i = tl → ∀ I' qq' tl', fr [(71, []), (73, [])] I0 I' → fI K s t g I' 73 qq' tl' → (∀ i', i' < i → ∀ k, k < cnt → ∃ j, j < tl' ∧ qq' j = zst K (qq i') (al k)) → mm_w Q (mm_wc (d + 2)) bk_105 6 [some (.ref 70), some (.ref 72), some (.int (nI tl)), some (.ref 73), some (.int (nI g)), some (.int (nI tl')), some (.int (nI i)), none, none] [] ((mm_fl true b1 b2, n1, n2, p, q, ad), I', J) := by
    intro n
    induction n with
    | zero =>
      intro i hi I' qq' tl' hf hI h1
      refine fx_105a_6 ?_
      rw [z_le (by omega) (by omega)]
      refine ⟨fun _ => ?_, fun e => absurd (by omega) e⟩
      have := fin I' qq' tl' hf hI (fun i' hi' => h1 i' (by omega))
      exact k I' qq' tl' hf this.1 this.2
    | succ n ih =>
      intro i hi I' qq' tl' hf hI h1
      refine fx_105a_6 ?_
      rw [z_le (by omega) (by omega)]
      exact ⟨fun e => absurd e (by omega), fun _ => inn i (by omega) cnt 0 (by omega) I' qq' tl' hf hI h1 (fun k hk => absurd hk (Nat.not_lt_zero _)) (fun I2 qq2 tl2 f2 h2 c2 => ih (i + 1) (by omega) I2 qq2 tl2 f2 h2 c2)⟩
  exact fx_105a (out tl 0 (by omega) I0 (fun _ => 0) 0 fr.rf ⟨by decide, fun a _ ha => absurd ha (Nat.not_lt_zero _), fun j hj => absurd hj (Nat.not_lt_zero _), fun _ _ => trivial, fun z hz => .inr (hM z hz), fun j hj => absurd hj (Nat.not_lt_zero _)⟩ (fun i' hi' => absurd hi' (Nat.not_lt_zero _)))
theorem ct_105b {I0 : mmI} {t tl g : Nat} {qq : Nat → Nat} (ok : okR K) (hv : vm K False s) (hal : alw (fanK K) (fun _ => True) False (nB K) cnt al) (hR : cRb I0 K cnt al) (hg : 2 ≤ g) (hg1 : g < 100) (hL : cNl I0 73 K s t qq tl) (hM : ∀ z, z < 16384 → ∃ e, e < g ∧ I0 71 z = nI e) (k : ∀ I' qq' tl', fr [(71, []), (72, [])] I0 I' → cNl I' 72 K s (t + 1) qq' tl' → (∀ z, z < 16384 → ∃ e, e < g + 1 ∧ I' 71 z = nI e) → Q (some (.int (nI tl'))) ((mm_fl true b1 b2, n1, n2, p, q, ad), I', J)) : mm_wc (d + 3) 105 [.ref 70, .ref 73, .int (nI tl), .ref 72, .int (nI g)] ((mm_fl true b1 b2, n1, n2, p, q, ad), I0, J) Q := by
  obtain ⟨l0, l1, l2, l3, l4⟩ := hL
  have hsc := al_sc hal
  have hVr : ∀ n m, rch (kall K) s n m → vm K False m := fun n m h => (rch_V (V := vmm K False 0) ⟨hv, fun i _ => Nat.zero_testBit i⟩ (ksc_V ok (fun i hi => by rw [Nat.zero_testBit] at hi; cases hi)) n m h).1
  have hc1 := al_pos ok hal
  obtain ⟨-, -, r3, r4, r5⟩ := id hR
  -- what holds inside
  have fin : ∀ I' qq' tl', fr [(71, []), (72, [])] I0 I' → fI K s t g I' 72 qq' tl' → (∀ i', i' < tl → ∀ k, k < cnt → ∃ j, j < tl' ∧ qq' j = zst K (qq i') (al k)) → cNl I' 72 K s (t + 1) qq' tl' ∧ (∀ z, z < 16384 → ∃ e, e < g + 1 ∧ I' 71 z = nI e) := by
    intro I' qq' tl' hf hI hcv
    obtain ⟨i1, i2, i3, i4, i5, i6⟩ := hI
    refine ⟨⟨i1, ?_, i2, fun i hi => ⟨(i3 i hi).1, (i3 i hi).2.1⟩, .inl (fun m hm => ?_)⟩, fun z hz => ?_⟩
    · obtain ⟨j, hj, -⟩ := hcv 0 (by omega) 0 hc1
      omega
    · obtain ⟨m', h1, h2⟩ := hm
      obtain ⟨k, hk, rfl⟩ := (hsc m' m).mp h2
      rcases l4 with z | z
      · obtain ⟨i', hi', rfl⟩ := z m' h1
        exact hcv i' hi' k hk
      · obtain ⟨j, hj, ej⟩ := hcv 0 (by omega) 0 hc1
        rw [z, zst_0 ok] at ej
        exact absurd ej (i3 j hj).2.2
    · rcases i5 z hz with ⟨w, -⟩ | ⟨e, w1, w2⟩
      · exact ⟨g, by omega, w⟩
      · exact ⟨e, by omega, w2⟩
  have inn : ∀ i, i < tl → ∀ n kk, n + kk = cnt → ∀ I' qq' tl', fr [(71, []), (72, [])] I0 I' → fI K s t g I' 72 qq' tl' → (∀ i', i' < i → ∀ k, k < cnt → ∃ j, j < tl' ∧ qq' j = zst K (qq i') (al k)) → (∀ k, k < kk → ∃ j, j < tl' ∧ qq' j = zst K (qq i) (al k)) → (∀ I' qq' tl', fr [(71, []), (72, [])] I0 I' → fI K s t g I' 72 qq' tl' → (∀ i', i' < i + 1 → ∀ k, k < cnt → ∃ j, j < tl' ∧ qq' j = zst K (qq i') (al k)) → mm_w Q (mm_wc (d + 2)) bk_105 6 [some (.ref 70), some (.ref 73), some (.int (nI tl)), some (.ref 72), some (.int (nI g)), some (.int (nI tl')), some (.int (nI (i + 1))), none, none] [] ((mm_fl true b1 b2, n1, n2, p, q, ad), I', J)) → mm_w Q (mm_wc (d + 2)) bk_105 15 [some (.ref 70), some (.ref 73), some (.int (nI tl)), some (.ref 72), some (.int (nI g)), some (.int (nI tl')), some (.int (nI i)), some (.int (nI kk)), none] [] ((mm_fl true b1 b2, n1, n2, p, q, ad), I', J) := by
    intro i hi n
    induction n with
    | zero =>
      intro kk hk I' qq' tl' hf hI h1 h2 nx
      refine fx_105b_15 ?_
      rw [hf 77 3 rfl, r3, z_le (by omega) (by omega), z_add]
      refine ⟨fun _ => nx I' qq' tl' hf hI (fun i' hi' k hk' => ?_), fun e => absurd (by omega) e⟩
      by_cases e : i' = i
      · subst e; exact h2 k (by omega)
      · exact h1 i' (by omega) k hk'
    | succ n ih =>
      intro kk hk I' qq' tl' hf hI h1 h2 nx
      have hI' := hI
      obtain ⟨i1, i2, i3, i4, i5, i6⟩ := hI
      have hR' := cRb_fr hR hf rfl rfl rfl rfl rfl rfl rfl
      have vi := hVr _ _ (l3 i hi).2
      have v1 : vm K False (zst K (qq i) (al kk)) := cstp_vm ok vi (fun i hi => by rw [Nat.zero_testBit] at hi; cases hi)
      have v2 := v1.lt ok
      have rn : rch (kall K) s (t + 1) (zst K (qq i) (al kk)) := ⟨qq i, (l3 i hi).2, (hsc _ _).mpr ⟨kk, by omega, rfl⟩⟩
      refine fx_105b_15 ?_
      rw [hf 77 3 rfl, r3, z_le (by omega) (by omega), z_ix (by omega), hf 73 i rfl, (l3 i hi).1, z_ix (by omega), hR'.2.2.2.2 kk (by omega), z_add kk 1]
      refine ⟨fun e => absurd e (by omega), fun _ => ⟨z_in (by omega) (by decide), z_in (by omega) (by decide), ct_24n hR'.1 hR'.2.1 vi ⟨_, _, _, rfl, rfl, ?_⟩⟩⟩
      rw [z_ix (by omega)]
      have hvz : vp_in (nI (zst K (qq i) (al kk))) 16384 := z_in (by omega) (by decide)
      refine ⟨hvz, fun e => ih (kk + 1) (by omega) I' qq' tl' hf hI' h1 (fun k hk' => ?_) nx, fun e => ?_⟩
      · by_cases ek : k = kk
        · subst ek
          rcases i5 (zst K (qq i) (al k)) (by omega) with ⟨-, w⟩ | ⟨e', w1, w2⟩
          · exact w
          · rw [w2, z_eq (by omega) (by omega)] at e; omega
        · exact h2 k (by omega)
      · have hnew : ∀ j, j < tl' → qq' j ≠ zst K (qq i) (al kk) := fun j hj ej => e (i6 j hj _ ej)
        have htl : tl' + 1 ≤ 3456 := (vm_many (g := False) (q := ap qq' tl' (zst K (qq i) (al kk))) (tl := tl' + 1) ok (fun j hj => by
          by_cases ej : j = tl'
          · subst ej; rw [ap_eq]; exact v1
          · rw [ap_lt (by omega)]; exact hVr _ _ (i3 j (by omega)).2.1) (fun a b ha hb eab => by
          by_cases ea : a = tl' <;> by_cases eb : b = tl'
          · omega
          · rw [ea, ap_eq, ap_lt (by omega)] at eab; exact absurd eab.symm (hnew b (by omega))
          · rw [eb, ap_eq, ap_lt (by omega)] at eab; exact absurd eab (hnew a (by omega))
          · rw [ap_lt (by omega), ap_lt (by omega)] at eab; exact i2 a b (by omega) (by omega) eab)).2 id
        rw [z_le (by decide) (by omega), z_eq (by omega) (by decide), z_add, z_ix (by omega)]
        refine ⟨fun e2 => absurd e2 (by omega), fun _ => ⟨hvz, z_in (by omega) (by decide), fun e0 => ?_, fun e0 => ?_⟩⟩
        · refine ih (kk + 1) (by omega) _ (ap qq' tl' (zst K (qq i) (al kk))) (tl' + 1) ((hf.up rfl).up rfl) ⟨htl, fun a b ha hb eab => ?_, fun j hj => ?_, fun j hj => ?_, fun z hz => ?_, fun j hj z ez => ?_⟩ (fun i' hi' k hk' => ?_) (fun k hk' => ?_) nx
          · by_cases ea : a = tl' <;> by_cases eb : b = tl'
            · omega
            · rw [ea, ap_eq, ap_lt (by omega)] at eab; exact absurd eab.symm (hnew b (by omega))
            · rw [eb, ap_eq, ap_lt (by omega)] at eab; exact absurd eab (hnew a (by omega))
            · rw [ap_lt (by omega), ap_lt (by omega)] at eab; exact i2 a b (by omega) (by omega) eab
          · by_cases ej : j = tl'
            · subst ej; rw [up_s, ap_eq]; exact ⟨rfl, rn, e0⟩
            · rw [up_k ej, up_c (by decide), ap_lt (by omega)]; exact i3 j (by omega)
          · trivial
          · rw [up_c (by decide)]
            by_cases ez : z = zst K (qq i) (al kk)
            · subst ez; exact .inl ⟨up_s _ _ _ _, tl', by omega, ap_eq _ _ _⟩
            · rw [up_k ez]
              rcases i5 z hz with ⟨w, j, hj, ej⟩ | w
              · exact .inl ⟨w, j, by omega, by rw [ap_lt hj]; exact ej⟩
              · exact .inr w
          · rw [up_c (by decide)]
            by_cases ez' : z = zst K (qq i) (al kk)
            · subst ez'; exact up_s _ _ _ _
            · rw [up_k ez']
              by_cases ej : j = tl'
              · rw [ej, ap_eq] at ez; exact absurd ez.symm ez'
              · rw [ap_lt (by omega)] at ez; exact i6 j (by omega) z ez
          · obtain ⟨j, hj, ej⟩ := h1 i' hi' k hk'
            exact ⟨j, by omega, by rw [ap_lt hj]; exact ej⟩
          · by_cases ek : k = kk
            · subst ek; exact ⟨tl', by omega, ap_eq _ _ _⟩
            · obtain ⟨j, hj, ej⟩ := h2 k (by omega)
              exact ⟨j, by omega, by rw [ap_lt hj]; exact ej⟩
        · have f0 : fr [(71, []), (72, [])] I0 (mm_up (mm_up (mm_up I' 71 (zst K (qq i) (al kk)) (nI g)) 72 tl' (nI (zst K (qq i) (al kk)))) 72 0 (nI 0)) := ((hf.up rfl).up rfl).up rfl
          refine k _ (fun _ => 0) 1 f0 ⟨by decide, Nat.le_refl _, fun a b ha hb _ => by omega, fun j hj => ?_, .inr rfl⟩ (fun z hz => ?_)
          · have : j = 0 := by omega
            subst this
            rw [e0] at rn
            exact ⟨up_s _ _ _ _, rn⟩
          · rw [up_c (by decide), up_c (by decide)]
            by_cases ez : z = zst K (qq i) (al kk)
            · subst ez; exact ⟨g, by omega, up_s _ _ _ _⟩
            · rw [up_k ez]
              rcases i5 z hz with ⟨w, -⟩ | ⟨e', w1, w2⟩
              · exact ⟨g, by omega, w⟩
              · exact ⟨e', by omega, w2⟩
  have out : ∀ n i, n + i = tl → ∀ I' qq' tl', fr [(71, []), (72, [])] I0 I' → fI K s t g I' 72 qq' tl' → (∀ i', i' < i → ∀ k, k < cnt → ∃ j, j < tl' ∧ qq' j = zst K (qq i') (al k)) → mm_w Q (mm_wc (d + 2)) bk_105 6 [some (.ref 70), some (.ref 73), some (.int (nI tl)), some (.ref 72), some (.int (nI g)), some (.int (nI tl')), some (.int (nI i)), none, none] [] ((mm_fl true b1 b2, n1, n2, p, q, ad), I', J) := by
    intro n
    induction n with
    | zero =>
      intro i hi I' qq' tl' hf hI h1
      refine fx_105b_6 ?_
      rw [z_le (by omega) (by omega)]
      refine ⟨fun _ => ?_, fun e => absurd (by omega) e⟩
      have := fin I' qq' tl' hf hI (fun i' hi' => h1 i' (by omega))
      exact k I' qq' tl' hf this.1 this.2
    | succ n ih =>
      intro i hi I' qq' tl' hf hI h1
      refine fx_105b_6 ?_
      rw [z_le (by omega) (by omega)]
      exact ⟨fun e => absurd e (by omega), fun _ => inn i (by omega) cnt 0 (by omega) I' qq' tl' hf hI h1 (fun k hk => absurd hk (Nat.not_lt_zero _)) (fun I2 qq2 tl2 f2 h2 c2 => ih (i + 1) (by omega) I2 qq2 tl2 f2 h2 c2)⟩
  exact fx_105b (out tl 0 (by omega) I0 (fun _ => 0) 0 fr.rf ⟨by decide, fun a _ ha => absurd ha (Nat.not_lt_zero _), fun j hj => absurd hj (Nat.not_lt_zero _), fun _ _ => trivial, fun z hz => .inr (hM z hz), fun j hj => absurd hj (Nat.not_lt_zero _)⟩ (fun i' hi' => absurd hi' (Nat.not_lt_zero _)))
end FC
