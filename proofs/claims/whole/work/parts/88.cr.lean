/-! the class's row -/
/-- what a search that found says, in the state's own words -/
def pR (K : Nat → Nat) (s cnt : Nat) (al qq dp : Nat → Nat) (tl hd f L : Nat) : Prop :=
  bf cnt (fun k v => zst K v (al k)) (kall K) s qq dp tl hd f ∧ (∀ i, i < tl → dp i ≤ i) ∧ tl ≤ 3456 ∧ (∀ i, i < tl → vm K False (qq i)) ∧ (∀ k, k < L → ¬ goal0 (kall K) s k) ∧ dp (tl - 1) = L ∧ qq (tl - 1) / 8 = 0 ∧ (∀ i, i < tl - 1 → ¬ qq i / 8 = 0) ∧ hd < tl ∧ (L = 0 ∧ tl = 1 ∨ dp hd + 1 = L) ∧ alw (fanK K) (fun _ => True) False (nB K) cnt al ∧ okR K
def cRw (I : mmI) (K : Nat → Nat) (cnt : Nat) (al qq dp : Nat → Nat) (tl : Nat) : Prop := bD I K ∧ I 6 13 = nI 0 ∧ I 77 3 = nI cnt ∧ cnt ≤ 320 ∧ (∀ k, k < cnt → I 78 k = nI (fanK K (al k))) ∧ (∀ k, k < cnt → I 79 k = nI (al k)) ∧ cQ I qq dp tl
theorem cRw_fr {I I' : mmI} {K : Nat → Nat} {cnt tl : Nat} {al qq dp : Nat → Nat} (h : cRw I K cnt al qq dp tl) (hf : fr [(74, []), (76, [])] I I') : cRw I' K cnt al qq dp tl := by
  obtain ⟨a1, a2, a3, a4, a5, a6, b1, b2, b3, b4, b5⟩ := h
  exact ⟨a1.fr hf rfl rfl rfl rfl, by rw [hf 6 13 rfl]; exact a2, by rw [hf 77 3 rfl]; exact a3, a4, fun k hk => by rw [hf 78 k rfl]; exact a5 k hk, fun k hk => by rw [hf 79 k rfl]; exact a6 k hk, by rw [hf 70 5 rfl]; exact b1, fun i hi => by rw [hf 72 i rfl]; exact b2 i hi, fun i hi => by rw [hf 73 i rfl]; exact b3 i hi, fun i hi => by rw [hf 71 _ rfl]; exact b4 i hi, fun s hs hn => by rw [hf 71 s rfl]; exact b5 s hs hn⟩
section CR
variable {K : Nat → Nat} {s cnt : Nat} {al qq dp : Nat → Nat} {tl hd f L : Nat}
theorem pR_sc (h : pR K s cnt al qq dp tl hd f L) (m m' : Nat) : kall K m m' ↔ ∃ k, k < cnt ∧ m' = zst K m (al k) := by
  obtain ⟨a0, a1, a2, a3⟩ := h.2.2.2.2.2.2.2.2.2.2.1
  constructor
  · rintro ⟨b, hb, -, rfl⟩
    obtain ⟨k, hk, -, hF, -⟩ := a3 b hb trivial
    exact ⟨k, hk, by show cstp K 0 0 (fanK K b) m = cstp K 0 0 (fanK K (al k)) m; rw [hF]⟩
  · rintro ⟨k, hk, rfl⟩
    exact ⟨al k, (a1 k hk).1, trivial, rfl⟩
theorem pR_tl (h : pR K s cnt al qq dp tl hd f L) : 1 ≤ tl ∧ L < tl := by
  obtain ⟨h1, h2, h3, h4, h5, h6, h7, h8, h9, h10, h11⟩ := h
  have := h2 (tl - 1) (by omega)
  omega
/-- the check at one step is right -/
theorem pR_ck (h : pR K s cnt al qq dp tl hd f L) {i k : Nat} (hi : i < tl) (hdi : dp i < L) (hk : k < cnt) : (∃ j, j < tl ∧ qq j = zst K (qq i) (al k) ∧ i < j ∧ dp j = dp i + 1 ∧ onW (kall K) qq dp L j) ↔ goal0 (kall K) (zst K (qq i) (al k)) (L - dp i - 1) := by
  obtain ⟨h1, h2, h3, h4, h5, h6, h7, h8, h9, h10, h11, ok⟩ := id h
  have mono := h1.2.2.2.2.2.2.1
  constructor
  · rintro ⟨j, hj, e1, e2, e3, -, e5⟩
    rw [e3] at e5
    rw [← e1, show L - dp i - 1 = L - (dp i + 1) by omega]
    exact e5
  · intro g
    by_cases hih : i < hd
    · obtain ⟨j, hj, e1, e2⟩ := h1.2.2.2.2.2.2.2.1 i hih k hk
      have := (bf_st (k := k) h1 h5 hj e1 hdi e2).mpr g
      refine ⟨j, hj, e1, ?_, this.1, this.2⟩
      rcases Nat.lt_or_ge i j with y | y
      · exact y
      · have := mono j i y hi
        omega
    · have d1 := mono hd i (by omega) hi
      have d2 : dp i + 1 = L := by omega
      rw [show L - dp i - 1 = 0 by omega] at g
      obtain ⟨x, e1, e2⟩ := g
      rw [show x = zst K (qq i) (al k) from e1] at e2
      have v1 : vm K False (zst K (qq i) (al k)) := cstp_vm ok (h4 i hi) (fun i hi => by rw [Nat.zero_testBit] at hi; cases hi)
      have z1 := vm_0 ok v1 e2
      have z2 := vm_0 ok (h4 (tl - 1) (by omega)) h7
      refine ⟨tl - 1, by omega, by rw [z1, z2], ?_, by omega, by omega, ?_⟩
      · rcases Nat.lt_or_ge i (tl - 1) with y | y
        · exact y
        · have : i = tl - 1 := by omega
          rw [this] at d2; omega
      · rw [h6, Nat.sub_self]; exact ⟨_, rfl, h7⟩
variable {d n1 n2 : Nat} {b1 b2 p q : Bool} {ad : Nat → Nat} {J : mmJ} {Q : mmQ} {I : mmI}
theorem m1_le {a : Nat} (h : a < 2 ^ 31) : nI 0 - nI 1 ≤ nI a := by
  rw [Int32.le_iff_toInt_le, nI_toInt h, show (nI 0 - nI 1).toInt = -1 from by decide]
  omega
/-- marked behind i -/
def cdn (K qq dp : Nat → Nat) (tl L : Nat) (I : mmI) (i : Nat) : Prop := ∀ j, i ≤ j → j < tl → (I 74 j = nI 0 ∧ onW (kall K) qq dp L j) ∨ (I 74 j = nI 1000000 ∧ ¬ onW (kall K) qq dp L j)
theorem ct_95 (h : pR K s cnt al qq dp tl hd f L) (hR : cRw I K cnt al qq dp tl) {i : Nat} (hi : i < tl) (hdi : dp i < L) (hdn : cdn K qq dp tl L I (i + 1)) (k1 : ∀ k, k < cnt → goal0 (kall K) (zst K (qq i) (al k)) (L - dp i - 1) → (∀ k', k' < k → ¬ goal0 (kall K) (zst K (qq i) (al k')) (L - dp i - 1)) → Q (some (.int (nI k))) ((mm_fl true b1 b2, n1, n2, p, q, ad), I, J)) (k0 : (∀ k, k < cnt → ¬ goal0 (kall K) (zst K (qq i) (al k)) (L - dp i - 1)) → Q (some (.int (-1))) ((mm_fl true b1 b2, n1, n2, p, q, ad), I, J)) : mm_wc (d + 3) 95 [.ref 70, .int (nI i)] ((mm_fl true b1 b2, n1, n2, p, q, ad), I, J) Q := by
  obtain ⟨r1, r2, r3, r4, r5, r6, q1, q2, q3, q4, q5⟩ := id hR
  have ok := r1.1
  have htl := h.2.2.1
  have hvm := h.2.2.2.1
  have hdd := h.2.1
  have lp : ∀ n k, n + k = cnt → (∀ k', k' < k → ¬ goal0 (kall K) (zst K (qq i) (al k')) (L - dp i - 1)) → mm_w Q (mm_wc (d + 2)) bk_95 2 [some (.ref 70), some (.int (nI i)), some (.int (nI k)), none] [] ((mm_fl true b1 b2, n1, n2, p, q, ad), I, J) := by
    intro n
    induction n with
    | zero =>
      intro k hk hn
      refine fx_95_2 ?_
      rw [r3, z_le (by omega) (by omega)]
      exact ⟨fun _ => k0 (fun k' hk' => hn k' (by omega)), fun e => absurd (by omega) e⟩
    | succ n ih =>
      intro k hk hn
      have ck := pR_ck h hi hdi (k := k) (by omega)
      have nx : ¬ goal0 (kall K) (zst K (qq i) (al k)) (L - dp i - 1) → mm_w Q (mm_wc (d + 2)) bk_95 2 [some (.ref 70), some (.int (nI i)), some (.int (nI k + nI 1)), none] [] ((mm_fl true b1 b2, n1, n2, p, q, ad), I, J) := fun g => by
        rw [z_add]
        refine ih (k + 1) (by omega) (fun k' hk' => ?_)
        by_cases e : k' = k
        · subst e; exact g
        · exact hn k' (by omega)
      have v1 : vm K False (zst K (qq i) (al k)) := cstp_vm ok (hvm i hi) (fun i hi => by rw [Nat.zero_testBit] at hi; cases hi)
      have v2 := v1.lt ok
      have hdii := hdd i hi
      refine fx_95_2 ?_
      rw [r3, z_le (by omega) (by omega), z_ix (by omega), q2 i hi, z_ix (by omega), r5 k (by omega)]
      refine ⟨fun e => absurd e (by omega), fun _ => ⟨z_in (by omega) (by decide), z_in (by omega) (by decide), ct_24n r1 r2 (hvm i hi) ⟨_, _, _, rfl, rfl, ?_⟩⟩⟩
      rw [z_ix (by omega)]
      refine ⟨z_in (by omega) (by decide), ?_⟩
      by_cases hx : ∃ j, j < tl ∧ qq j = zst K (qq i) (al k)
      · obtain ⟨j, hj, ej⟩ := hx
        have hdj := hdd j hj
        have uq : ∀ j', j' < tl → qq j' = zst K (qq i) (al k) → j' = j := fun j' h1 h2 => h.1.2.2.2.2.1 j' j h1 hj (h2.trans ej.symm)
        rw [← ej, q4 j hj, z_sub (by omega), Nat.add_sub_cancel, z_le (by omega) (by omega), z_ix (by omega), q3 j hj, q3 i hi, z_add (dp i) 1, z_eq (by omega) (by omega)]
        refine ⟨fun e => nx (fun g => ?_), fun e => ⟨z_in (by omega) (by decide), z_in (by omega) (by decide), fun e2 => nx (fun g => ?_), fun e2 => ⟨z_in (by omega) (by decide), fun e3 => nx (fun g => ?_), fun e3 => k1 k (by omega) (ck.mp ⟨j, hj, ej, by omega, e2, ?_⟩) hn⟩⟩⟩
        · obtain ⟨j', h1, h2, h3, -⟩ := ck.mpr g
          rw [uq j' h1 h2] at h3; omega
        · obtain ⟨j', h1, h2, -, h4, -⟩ := ck.mpr g
          rw [uq j' h1 h2] at h4; exact e2 h4
        · obtain ⟨j', h1, h2, -, -, h5⟩ := ck.mpr g
          rw [uq j' h1 h2] at h5
          rcases hdn j (by omega) hj with w | w
          · exact e3 w.1
          · exact w.2 h5
        · rcases hdn j (by omega) hj with w | w
          · exact w.2
          · have := w.1.symm.trans e3
            rw [z_eq (by decide) (by decide)] at this
            exact absurd this (by decide)
      · rw [q5 _ (by omega) (fun j hj e => hx ⟨j, hj, e⟩)]
        refine ⟨fun _ => nx (fun g => ?_), fun e => absurd (m1_le (by omega)) e⟩
        obtain ⟨j', h1, h2, -⟩ := ck.mpr g
        exact hx ⟨j', h1, h2⟩
  exact fx_95 (lp cnt 0 (by omega) (fun k' hk' => absurd hk' (Nat.not_lt_zero _)))
theorem ct_1002 {x y : Int32} {σ : mmS} (h : Q (some (.int (if y < x then y else x))) σ) : mm_wc (d + 1) 1002 [.int x, .int y] σ Q := h
theorem ct_94 (h : pR K s cnt al qq dp tl hd f L) (hR : cRw I K cnt al qq dp tl) (k : ∀ I', fr [(74, [])] I I' → cdn K qq dp tl L I' 0 → Q none ((mm_fl true b1 b2, n1, n2, p, q, ad), I', J)) : mm_wc (d + 4) 94 [.ref 70, .int (nI L)] ((mm_fl true b1 b2, n1, n2, p, q, ad), I, J) Q := by
  have htl := h.2.2.1
  have h1tl := pR_tl h
  have hdd := h.2.1
  have hL := h.2.2.2.2.2.1
  have h0 := h.2.2.2.2.2.2.1
  have hn0 := h.2.2.2.2.2.2.2.1
  have lp : ∀ i, i ≤ tl → ∀ I', fr [(74, [])] I I' → cdn K qq dp tl L I' i → mm_w Q (mm_wc (d + 3)) bk_94 15 [some (.ref 70), some (.int (nI L)), some (.int (nI (tl - 1))), some (.int (nI i - nI 1))] [] ((mm_fl true b1 b2, n1, n2, p, q, ad), I', J) := by
    intro i
    induction i with
    | zero =>
      intro _ I' hf hdn
      exact fx_94_15 ⟨fun _ => k I' hf hdn, fun e => absurd (by decide) e⟩
    | succ i ih =>
      intro hi I' hf hdn
      have hii := hdd i (by omega)
      have nxt : ∀ I2 (v : Int32), fr [(74, [])] I I2 → (∀ j, j ≠ i → I2 74 j = I' 74 j) → ((I2 74 i = nI 0 ∧ onW (kall K) qq dp L i) ∨ (I2 74 i = nI 1000000 ∧ ¬ onW (kall K) qq dp L i)) → mm_w Q (mm_wc (d + 3)) bk_94 15 [some (.ref 70), some (.int (nI L)), some (.int (nI (tl - 1))), some (.int (nI i + (-1)))] [] ((mm_fl true b1 b2, n1, n2, p, q, ad), I2, J) := by
        intro I2 _ f2 o2 hv
        rw [show nI i + (-1) = nI i - nI 1 by rw [Int32.sub_eq_add_neg]; rfl]
        refine ih (by omega) I2 f2 (fun j h1 h2 => ?_)
        by_cases e : j = i
        · subst e; exact hv
        · rw [o2 j e]; exact hdn j (by omega) h2
      rw [z_sub (by omega), Nat.add_sub_cancel]
      have fA : fr [(74, [])] I (mm_up I' 74 i (nI 1000000)) := hf.up rfl
      have R2 := cRw_fr hR (fA.sub (M := [(74, []), (76, [])]) rfl)
      refine fx_94_15 ?_
      rw [z_lt (by omega) (by decide), z_eq (by omega) (by omega), z_ix (by omega), hf 73 i rfl, hR.2.2.2.2.2.2.2.2.1 i (by omega), z_le (by omega) (by omega)]
      refine ⟨fun e => absurd e (Nat.not_lt_zero _), fun _ => ⟨z_in (by omega) (by decide), fun e => ⟨z_in (by omega) (by decide), nxt _ 0 (fA.up rfl) (fun j hj => by rw [up_k hj, up_k hj]) (.inl ⟨up_s _ _ _ _, ?_⟩)⟩, fun e => ⟨z_in (by omega) (by decide), fun e2 => nxt _ 0 fA (fun j hj => up_k hj) (.inr ⟨up_s _ _ _ _, fun z => ?_⟩), fun e2 => ?_⟩⟩⟩
      · rw [e]
        exact ⟨by omega, by rw [hL, Nat.sub_self]; exact ⟨_, rfl, h0⟩⟩
      · have e3 : dp i = L := by have := z.1; omega
        obtain ⟨-, x, g1, g2⟩ := z
        rw [e3, Nat.sub_self] at g1
        rw [show x = qq i from g1] at g2
        exact hn0 i (by omega) g2
      · have ons := onW_s (cnt := cnt) (st := fun k v => zst K v (al k)) (sc := kall K) (q := qq) (dp := dp) (L := L) (i := i) (pR_sc h) (by omega)
        refine ct_95 h R2 (by omega) (by omega) (fun j h1 h2 => by rw [up_k (by omega)]; exact hdn j h1 h2) (fun k hk g _ => ⟨_, _, _, rfl, rfl, fun z => absurd z (by rw [z_m1 (by have := hR.2.2.2.1; omega)]; exact id), fun _ => ⟨z_in (by omega) (by decide), ?_⟩⟩) (fun hn => ⟨_, _, _, rfl, rfl, fun _ => nxt _ 0 fA (fun j hj => up_k hj) (.inr ⟨up_s _ _ _ _, fun z => ?_⟩), fun z => absurd rfl z⟩)
        · exact nxt _ 0 (fA.up rfl) (fun j hj => by rw [up_k hj, up_k hj]) (.inl ⟨up_s _ _ _ _, ons.mpr ⟨k, hk, g⟩⟩)
        · obtain ⟨k', hk', g⟩ := ons.mp z
          exact hn k' hk' g
  refine fx_94 (ct_1002 ⟨_, _, _, rfl, rfl, ?_⟩)
  rw [hR.2.2.2.2.2.2.1, if_neg (by rw [z_lt (by decide) (by omega)]; omega)]
  have := lp tl (Nat.le_refl _) I fr.rf (fun j h1 h2 => absurd h1 (by omega))
  rw [z_sub (by omega)] at this ⊢
  exact this
theorem pR_of {I1 I' : mmI} {m L1 : Nat} {r : Int32} (ok : okR K) (hv : vm K False m) (g1 : cLg I1 (fanK K) (lP K 4 (-1) true) L1 (nB K) cnt al) (hr : cSE I1 I' K 0 0 cnt (fun k => fanK K (al k)) m 2047 r) (hne : r ≠ -2) : ∃ qq dp tl hd f L, r = nI L ∧ pR K m cnt al qq dp tl hd f L ∧ cQ I' qq dp tl ∧ isD (goal0 (kall K) m) (nI L) := by
  have hg0 : ∀ i, Nat.testBit 0 i = true → i < K 3 := fun i hi => by rw [Nat.zero_testBit] at hi; cases hi
  have eP : lP K 4 (-1) true = fun _ => True := by funext b; exact propext ⟨fun _ => trivial, fun _ => .inl rfl⟩
  have hal := g1.2.2.2.2.2.1
  rw [eP] at hal
  have esc : csc K 0 0 cnt (fun k => fanK K (al k)) = kall K := csc_eq hal
  have key : ∀ v, vm K False v → (v / 8 &&& 2047 = 0 ↔ v / 8 = 0) := fun v hv => by
    rw [show (2047 : Nat) = 2 ^ 11 - 1 from rfl, Nat.and_two_pow_sub_one_eq_mod, Nat.mod_eq_of_lt (hv.lt ok)]
  obtain ⟨qq, dp, tl, hd, f, -, h2, h3, h4, h5, h6, h7⟩ := hr
  rw [esc] at h3 h6
  have hvm : ∀ i, i < tl → vm K False (qq i) := fun i hi => (rch_V (V := vmm K False 0) ⟨hv, fun i _ => Nat.zero_testBit i⟩ (ksc_V ok hg0) _ _ (h3.2.2.2.2.2.1 i hi)).1
  have hD : isD (goal0 (kall K) m) r := h6.congr (goalC_0 ok (g := False) ⟨hv, fun i _ => Nat.zero_testBit i⟩ hg0)
  obtain ⟨L, eL, q1, q2, q3, q4, q5, q6⟩ := h7.resolve_left (fun z => hne z.1)
  have ht := (vm_many ok hvm h3.2.2.2.2.1).2 id
  rw [eL] at hD
  refine ⟨qq, dp, tl, hd, f, L, eL, ⟨h3, h4, ht, hvm, ?_, q4, (key _ (hvm _ (by omega))).mp q3, fun i hi z => q5 i hi ((key _ (hvm i (by omega))).mpr z), q2, q6, hal, ok⟩, h2, hD⟩
  rcases hD with ⟨n, e1, e2, -, e4⟩ | ⟨e1, -⟩
  · rw [z_eq (by omega) e2] at e1
    rw [e1]; exact e4
  · rw [z_m2 (by omega)] at e1; exact e1.elim
theorem ct_93 {m Lc n0 : Nat} (hK : cK I p K) (hD : bD I K) (hms : I 6 13 = nI 0) (hF : cF I) (hL : cLs I Lc) (hL1 : Lc + 1 < 2 ^ 30) (hv : vm K False m) (hg : goal0 (kall K) m n0) (k : ∀ I' L w, fr (foS ++ [(74, []), (76, [])]) I I' → cF I' → cLs I' (Lc + 1) → isD (goal0 (kall K) m) (nI L) → L < 3456 → rowP K L m w → (∀ i, i < L → I' 76 i = nI (w i)) → Q none ((mm_fl true b1 b2, n1, n2, p, q, ad), I', J)) : mm_wc (d + 5) 93 [.ref 70, .int (nI m)] ((mm_fl true b1 b2, n1, n2, p, q, ad), I, J) Q := by
  have ok := hD.1
  refine fx_93 (ct_84 hK hD hms hF hL hL1 (by decide) hv (fun I1 I2 cnt al r f1 g1 hr f2 hF2 hL2 hd => ⟨_, _, _, rfl, rfl, fun hne => ?_, fun z => ?_⟩))
  · obtain ⟨qq, dp, tl, hh, ff, L, eL, hp, hcq, hDD⟩ := pR_of ok hv g1 hr hne
    have ht := pR_tl hp
    have h34 := hp.2.2.1
    have hdd := hp.2.1
    have hvm := hp.2.2.2.1
    have hal := hp.2.2.2.2.2.2.2.2.2.2.1
    obtain ⟨-, -, -, -, -, fS, -⟩ := id hr
    have hR : cRw I2 K cnt al qq dp tl := ⟨hD.fr f2 rfl rfl rfl rfl, by rw [f2 6 13 rfl]; exact hms, by rw [fS 77 3 rfl]; exact g1.2.2.1, by have := hal.1; have := nB_le ok; omega, fun k hk => by rw [fS 78 k rfl]; exact g1.2.2.2.1 k hk, fun k hk => by rw [fS 79 k rfl]; exact g1.2.2.2.2.1 k hk, hcq⟩
    have gL : goal0 (kall K) m L := by
      rcases hDD with ⟨n, e1, e2, e3, -⟩ | ⟨e1, -⟩
      · rw [z_eq (by omega) e2] at e1
        rw [e1]; exact e3
      · rw [z_m2 (by omega)] at e1; exact e1.elim
    obtain ⟨w, hw⟩ := rowP_ex gL
    rw [eL]
    refine ct_94 hp hR (fun I3 f3 d3 => ⟨_, _, rfl, rfl, ?_⟩)
    have lp : ∀ n t, n + t = L → ∀ i, i < tl → qq i = rs K m w t → dp i = t → onW (kall K) qq dp L i → ∀ I', fr [(76, [])] I3 I' → (∀ t', t' < t → I' 76 t' = nI (w t')) → mm_w Q (mm_wc (d + 4)) bk_93 25 [some (.ref 70), none, some (.int (nI L)), some (.int (nI i)), some (.int (nI t)), none] [] ((mm_fl true b1 b2, n1, n2, p, q, ad), I', J) := by
      intro n
      induction n with
      | zero =>
        intro t htt i hi eq ed on I' hf h76
        refine fx_93_25 ?_
        rw [z_le (by omega) (by omega)]
        refine ⟨fun _ => ?_, fun e => absurd (by omega) e⟩
        have fA : fr (foS ++ [(74, []), (76, [])]) I I' := ((f2.sub rfl).tr (f3.sub rfl)).tr (hf.sub rfl)
        have fB : fr [(74, []), (76, [])] I2 I' := (f3.sub rfl).tr (hf.sub rfl)
        exact k I' L w fA (cF_of hF2 (fB 70 5 rfl) (fun i => fB 72 i rfl) (fun i => fB 71 i rfl)) (cLs_of hL2 (fB 77 5 rfl) (fun i => fB 80 i rfl)) hDD (by omega) hw (fun i hi => h76 i (by omega))
      | succ n ih =>
        intro t htt i hi eq ed on I' hf h76
        have fB : fr [(74, []), (76, [])] I2 I' := (f3.sub rfl).tr (hf.sub rfl)
        have R' := cRw_fr hR fB
        obtain ⟨r1, r2, r3, r4, r5, r6, q1, q2, q3, q4, q5⟩ := id R'
        obtain ⟨w1, w2, w3⟩ := rowP_at hw t (by omega)
        have hdi : dp i < L := by omega
        refine fx_93_25 ?_
        rw [z_le (by omega) (by omega), z_le (by decide) (by omega)]
        refine ⟨fun e => absurd e (by omega), fun _ => ⟨fun e => absurd e (by omega), fun _ => ?_⟩⟩
        refine ct_95 (d := d + 1) hp R' hi hdi (fun j h1 h2 => by rw [hf 74 j rfl]; exact d3 j (Nat.zero_le _) h2) (fun k hk g hn => ⟨_, _, _, rfl, rfl, fun _ => ?_, fun z => absurd z (by rw [z_m1 (by omega)]; exact id)⟩) (fun hn => ?_)
        · have ek : al k = w t := by
            refine row_k (K := K) (G := fun b => goal0 (kall K) (zst K (rs K m w t) b) (L - t - 1)) hal (fun _ _ => trivial) (fun b b' _ _ e => ?_) w1 w2 w3 hk ?_ (fun k' hk' g' => hn k' hk' ?_)
            · show goal0 _ (cstp K 0 0 (fanK K b) _) _ ↔ goal0 _ (cstp K 0 0 (fanK K b') _) _
              rw [e]
            · rw [eq, ed] at g; exact g
            · rw [eq, ed]; exact g'
          have v1 : vm K False (zst K (qq i) (al k)) := cstp_vm ok (hvm i hi) (fun i hi => by rw [Nat.zero_testBit] at hi; cases hi)
          have v2 := v1.lt ok
          obtain ⟨j, hj, e1, e2, e3, e4⟩ := (pR_ck hp hi hdi hk).mpr g
          rw [z_ix (by omega), z_ix (by omega), z_ix (by omega), q2 i hi, r5 k hk, r6 k hk]
          refine ⟨z_in (by omega) (by decide), z_in (by omega) (by decide), z_in (by omega) (by decide), z_in (by omega) (by decide), ?_⟩
          have fU : fr [(74, []), (76, [])] I2 (mm_up I' 76 t (nI (al k))) := fB.up rfl
          have RU := cRw_fr hR fU
          refine ct_24n (d := d + 2) RU.1 RU.2.1 (hvm i hi) ⟨_, _, _, rfl, rfl, ?_⟩
          rw [z_ix (by omega)]
          refine ⟨z_in (by omega) (by decide), ?_⟩
          rw [← e1, RU.2.2.2.2.2.2.2.2.2.1 j hj, z_sub (by omega), Nat.add_sub_cancel, z_add]
          refine ih (t + 1) (by omega) j hj ?_ (by omega) e4 _ (hf.up rfl) (fun t' ht' => ?_)
          · rw [e1, eq, ek]; rfl
          · by_cases e : t' = t
            · subst e; rw [up_s, ek]
            · rw [up_k e]; exact h76 t' (by omega)
        · obtain ⟨k', hk', g⟩ := (onW_s (cnt := cnt) (st := fun k v => zst K v (al k)) (sc := kall K) (q := qq) (dp := dp) (L := L) (i := i) (pR_sc hp) hdi).mp on
          exact absurd g (hn k' hk')
    exact lp L 0 (by omega) 0 (by omega) hp.1.1 hp.1.2.1 ⟨by rw [hp.1.2.1]; omega, by rw [hp.1.2.1, hp.1.1]; exact gL⟩ I3 fr.rf (fun t' ht' => absurd ht' (Nat.not_lt_zero _))
  · have eP : lP K 4 (-1) true = fun _ => True := by funext b; exact propext ⟨fun _ => trivial, fun _ => .inl rfl⟩
    rw [eP] at hd
    rcases hd with ⟨n, e1, e2, -⟩ | ⟨-, e2⟩
    · rw [z, eq_comm, z_m2 e2] at e1; exact e1.elim
    · exact absurd hg (e2 n0)
end CR
