/-! reading: the class's tokens -/
theorem b8_32 : ∀ c, c < 256 → (by8 c = nI 32 ↔ c = 32) := by decide +kernel
theorem b8_59 : ∀ c, c < 256 → (by8 c = nI 59 ↔ c = 59) := by decide +kernel
theorem b8_44 : ∀ c, c < 256 → (by8 c = nI 44 ↔ c = 44) := by decide +kernel
theorem b8_l : ∀ c, c < 256 → ((by8 c < nI 97 ∨ nI 122 < by8 c) ↔ ltr c = false) := by decide +kernel
theorem b8_d : ∀ c, c < 256 → ((by8 c < nI 48 ∨ nI 57 < by8 c) ↔ dgt c = false) := by decide +kernel
theorem b8_lc : ∀ c, c < 256 → (ltr c = true ∨ dgt c = true) → by8 c = nI c := by decide +kernel
/-- the tape that is read, in the class -/
def cTp (b : Nat → Nat) (N : Nat) (I : mmI) : Prop := I 1 2 = nI N ∧ N ≤ 900 ∧ (∀ k, k < N → I 2 k = by8 (b k)) ∧ (∀ k, k < N → b k < 256) ∧ I 1 14 = nI 0
/-- a token's kind, as the class has it -/
def ckd (k : Nat) : Nat := if k = 0 then 0 else if k = 2 then 1 else if k = 3 then 2 else if k = 59 then 3 else if k = 44 then 4 else 5
def cTk (b : Nat → Nat) (N a : Nat) (I : mmI) (J : mmJ) : Prop := cTp b N I ∧ a ≤ N ∧ I 1 4 = nI a ∧ I 1 5 = nI (tkE b N a) ∧ I 1 3 = nI (ckd (tkK b N a)) ∧ (tkK b N a = 3 → I 1 7 = nI (tv b N a)) ∧ (tkK b N a = 2 → J 1 6 = lN (cod b N a))
def cFl (R : zE) (I : mmI) : Prop := ∃ c pl, R = .error (c, pl) ∧ 1 ≤ c ∧ c ≤ 6 ∧ pl ≤ 900 ∧ I 1 14 = nI c ∧ I 1 4 = nI pl
abbrev aS : List (Nat × List Nat) := [(1, [3, 4, 5, 7])]
theorem cTp.fr {b : Nat → Nat} {N : Nat} {I I' : mmI} {L : List (Nat × List Nat)} (h : cTp b N I) (hf : fr L I I') (h1 : (inS L 1 2 || inS L 1 14) = false) (h2 : noR 2 3 L = true) : cTp b N I' := by
  rw [Bool.or_eq_false_iff] at h1
  exact ⟨by rw [hf 1 2 h1.1]; exact h.1, h.2.1, fun k hk => by rw [hf 2 k (inS_no h2 (by decide) (by decide))]; exact h.2.2.1 k hk, h.2.2.2.1, by rw [hf 1 14 h1.2]; exact h.2.2.2.2⟩
section SA
variable {d n1 n2 : Nat} {fl : Nat → Bool} {p q : Bool} {ad : Nat → Nat} {I : mmI} {J : mmJ} {Q : mmQ} {b : Nat → Nat} {N : Nat}
theorem ct_80 {c : Nat} (hc : c < 256) (k : Q (some (.int (bI (ltr c)))) ((fl, n1, n2, p, q, ad), I, J)) : mm_wc (d + 1) 80 [.int (by8 c)] ((fl, n1, n2, p, q, ad), I, J) Q := by
  have hb := b8_l c hc
  refine fx_80 ⟨fun e => ?_, fun e => ⟨fun e2 => ?_, fun e2 => ?_⟩⟩
  · rw [hb.mp (.inl e)] at k; exact k
  · rw [hb.mp (.inr e2)] at k; exact k
  · cases hl : ltr c
    · rcases hb.mpr hl with z | z
      · exact absurd z e
      · exact absurd z e2
    · rw [hl] at k; exact k
theorem ct_81 {c : Nat} (hc : c < 256) (k : Q (some (.int (bI (dgt c)))) ((fl, n1, n2, p, q, ad), I, J)) : mm_wc (d + 1) 81 [.int (by8 c)] ((fl, n1, n2, p, q, ad), I, J) Q := by
  have hb := b8_d c hc
  refine fx_81 ⟨fun e => ?_, fun e => ⟨fun e2 => ?_, fun e2 => ?_⟩⟩
  · rw [hb.mp (.inl e)] at k; exact k
  · rw [hb.mp (.inr e2)] at k; exact k
  · cases hl : dgt c
    · rcases hb.mpr hl with z | z
      · exact absurd z e
      · exact absurd z e2
    · rw [hl] at k; exact k
theorem ct_78 {a : Nat} (h : cTp b N I) (ha : a ≤ N) (h4 : I 1 4 = nI a) (h5 : I 1 5 = nI a) (c : ∀ I' J', fr [(1, [3, 5])] I I' → J' 3 = J 3 → I' 1 5 = nI (rnE (fun k => ltr (b k)) N a) → I' 1 3 = nI (if rnE (fun k => ltr (b k)) N a - a ≤ 8 then 1 else 5) → J' 1 6 = lN (cdW b a (rnE (fun k => ltr (b k)) N a - a)) → Q none ((fl, n1, n2, p, q, ad), I', J')) : mm_wc (d + 2) 78 [.ref 1] ((fl, n1, n2, p, q, ad), I, J) Q := by
  have hN := h.2.1
  have fin : ∀ j, a + j ≤ N → rnE (fun k => ltr (b k)) N a = a + j → ∀ I' J', fr [(1, [3, 5])] I I' → J' 3 = J 3 → I' 1 5 = nI (a + j) → J' 1 6 = lN (cdW b a j) → ((nI 8 < I' 1 5 - I' 1 4 → Q none ((fl, n1, n2, p, q, ad), mm_up I' 1 3 (nI 5), J')) ∧ (¬ nI 8 < I' 1 5 - I' 1 4 → Q none ((fl, n1, n2, p, q, ad), mm_up I' 1 3 (nI 1), J'))) := by
    intro j hj he I' J' f1 g3 g5 g6
    rw [he] at c
    rw [g5, f1 1 4 rfl, h4, z_sub (by omega), show a + j - a = j by omega, z_lt (by decide) (by omega)]
    rw [show a + j - a = j by omega] at c
    refine ⟨fun e => c _ J' (f1.up rfl) g3 (by rw [up_k (by decide)]; exact g5) (by rw [up_s, if_neg (by omega)]) g6, fun e => c _ J' (f1.up rfl) g3 (by rw [up_k (by decide)]; exact g5) (by rw [up_s, if_pos (by omega)]) g6⟩
  have lp : ∀ r j, r + (a + j) = N → ∀ I' J', fr [(1, [3, 5])] I I' → J' 3 = J 3 → rnE (fun k => ltr (b k)) N a = rnE (fun k => ltr (b k)) N (a + j) → I' 1 5 = nI (a + j) → J' 1 6 = lN (cdW b a j) → mm_w Q (mm_wc (d + 1)) bk_78 5 [some (.ref 1)] [] ((fl, n1, n2, p, q, ad), I', J') := by
    intro r
    induction r with
    | zero =>
      intro j hj I' J' f1 g3 hr g5 g6
      have := fin j (by omega) (by rw [hr]; exact rnE_f (fun e => by omega)) I' J' f1 g3 g5 g6
      refine fx_78_5 ⟨fun _ => this, fun e => absurd ?_ e⟩
      rw [f1 1 2 rfl, h.1, g5, z_le (by omega) (by omega)]; omega
    | succ r ih =>
      intro j hj I' J' f1 g3 hr g5 g6
      have hb := h.2.2.2.1 (a + j) (by omega)
      have e2 : I' 2 (a + j) = by8 (b (a + j)) := by rw [f1 2 _ rfl]; exact h.2.2.1 _ (by omega)
      refine fx_78_5 ⟨fun e => ?_, fun _ => ?_⟩
      · rw [f1 1 2 rfl, h.1, g5, z_le (by omega) (by omega)] at e; omega
      · have ei : (I' 1 5).toNatClampNeg = a + j := by rw [g5, z_ix (by omega)]
        have ev : vp_in (I' 1 5) 900 := by rw [g5]; exact z_in (by omega) (by decide)
        refine ⟨ev, ?_⟩
        rw [ei, e2]
        refine ct_80 hb ⟨_, _, _, rfl, rfl, ?_⟩
        rw [bI_0]
        refine ⟨fun el => fin j (by omega) (by rw [hr]; exact rnE_f (fun _ => el)) I' J' f1 g3 g5 g6, fun el => ⟨ev, ?_⟩⟩
        have el : ltr (b (a + j)) = true := by simpa using el
        have hl := ltr_iff.mp el
        rw [ei, e2, g5, g6, b8_lc _ hb (.inl el), z_sub (by omega), z_add, z_add, nI_l (by omega), lN_mul, lN_add]
        refine ih (j + 1) (by omega) _ _ (f1.up rfl) (by rw [upJ_r (by decide)]; exact g3) (by rw [hr]; exact rnE_t (by omega) el) (up_s _ _ _ _) ?_
        rw [upJ_eq, if_pos ⟨rfl, rfl⟩, cdW]
        congr 2; omega
  exact fx_78 (lp (N - a) 0 (by omega) I _ fr.rf (upJ_r (by decide)) rfl h5 (by rw [upJ_eq, if_pos ⟨rfl, rfl⟩]; rfl))
theorem ct_79 {a : Nat} (h : cTp b N I) (ha : a ≤ N) (h4 : I 1 4 = nI a) (h5 : I 1 5 = nI a) (c : ∀ I', fr [(1, [3, 5, 7])] I I' → I' 1 5 = nI (rnE (fun k => dgt (b k)) N a) → I' 1 3 = nI (if rnE (fun k => dgt (b k)) N a - a ≤ 3 then 2 else 5) → I' 1 7 = nI (wV b a (rnE (fun k => dgt (b k)) N a - a)) → Q none ((fl, n1, n2, p, q, ad), I', J)) : mm_wc (d + 2) 79 [.ref 1] ((fl, n1, n2, p, q, ad), I, J) Q := by
  have hN := h.2.1
  have fin : ∀ j, a + j ≤ N → rnE (fun k => dgt (b k)) N a = a + j → ∀ I', fr [(1, [3, 5, 7])] I I' → I' 1 5 = nI (a + j) → I' 1 7 = nI (wV b a j) → ((nI 3 < I' 1 5 - I' 1 4 → Q none ((fl, n1, n2, p, q, ad), mm_up I' 1 3 (nI 5), J)) ∧ (¬ nI 3 < I' 1 5 - I' 1 4 → Q none ((fl, n1, n2, p, q, ad), mm_up I' 1 3 (nI 2), J))) := by
    intro j hj he I' f1 g5 g7
    rw [he] at c
    rw [g5, f1 1 4 rfl, h4, z_sub (by omega), show a + j - a = j by omega, z_lt (by decide) (by omega)]
    rw [show a + j - a = j by omega] at c
    refine ⟨fun e => c _ (f1.up rfl) (by rw [up_k (by decide)]; exact g5) (by rw [up_s, if_neg (by omega)]) (by rw [up_k (by decide)]; exact g7), fun e => c _ (f1.up rfl) (by rw [up_k (by decide)]; exact g5) (by rw [up_s, if_pos (by omega)]) (by rw [up_k (by decide)]; exact g7)⟩
  have lp : ∀ r j, r + (a + j) = N → ∀ I', fr [(1, [3, 5, 7])] I I' → rnE (fun k => dgt (b k)) N a = rnE (fun k => dgt (b k)) N (a + j) → I' 1 5 = nI (a + j) → I' 1 7 = nI (wV b a j) → mm_w Q (mm_wc (d + 1)) bk_79 5 [some (.ref 1)] [] ((fl, n1, n2, p, q, ad), I', J) := by
    intro r
    induction r with
    | zero =>
      intro j hj I' f1 hr g5 g7
      have := fin j (by omega) (by rw [hr]; exact rnE_f (fun e => by omega)) I' f1 g5 g7
      refine fx_79_5 ⟨fun _ => this, fun e => absurd ?_ e⟩
      rw [f1 1 2 rfl, h.1, g5, z_le (by omega) (by omega)]; omega
    | succ r ih =>
      intro j hj I' f1 hr g5 g7
      have hb := h.2.2.2.1 (a + j) (by omega)
      have e2 : I' 2 (a + j) = by8 (b (a + j)) := by rw [f1 2 _ rfl]; exact h.2.2.1 _ (by omega)
      refine fx_79_5 ⟨fun e => ?_, fun _ => ?_⟩
      · rw [f1 1 2 rfl, h.1, g5, z_le (by omega) (by omega)] at e; omega
      · have ei : (I' 1 5).toNatClampNeg = a + j := by rw [g5, z_ix (by omega)]
        have ev : vp_in (I' 1 5) 900 := by rw [g5]; exact z_in (by omega) (by decide)
        refine ⟨ev, ?_⟩
        rw [ei, e2]
        refine ct_81 hb ⟨_, _, _, rfl, rfl, ?_⟩
        rw [bI_0]
        refine ⟨fun el => fin j (by omega) (by rw [hr]; exact rnE_f (fun _ => el)) I' f1 g5 g7, fun el => ⟨ev, ?_⟩⟩
        have el : dgt (b (a + j)) = true := by simpa using el
        have hl := dgt_iff.mp el
        rw [ei, e2, g5, g7, b8_lc _ hb (.inr el), z_sub (by omega), z_mul, z_add, z_add]
        refine ih (j + 1) (by omega) _ ((f1.up rfl).up rfl) (by rw [hr]; exact rnE_t (by omega) el) (up_s _ _ _ _) ?_
        rw [up_k (by decide), up_s, wV]
        congr 1; omega
  refine fx_79 (lp (N - a) 0 (by omega) _ (fr.rf.up rfl) rfl (by rw [up_k (by decide)]; exact h5) (up_s _ _ _ _))
theorem ct_77 {e : Nat} (h : cTp b N I) (h5 : I 1 5 = nI e) (he : e ≤ N) (c : ∀ I' J', fr aS I I' → J' 3 = J 3 → cTk b N (skp b N e) I' J' → Q none ((fl, n1, n2, p, q, ad), I', J')) : mm_wc (d + 3) 77 [.ref 1] ((fl, n1, n2, p, q, ad), I, J) Q := by
  have hN := h.2.1
  have st : ∀ a, a ≤ N → skp b N e = a → ∀ I', fr [(1, [5])] I I' → I' 1 5 = nI a → mm_w Q (mm_wc (d + 2)) bk_77 38 [some (.ref 1)] [] ((fl, n1, n2, p, q, ad), I', J) := by
    intro a ha hsk I1 f1 g5
    rw [hsk] at c
    have f2 : fr aS I (mm_up I1 1 4 (nI a)) := (f1.sub rfl).up rfl
    have h2 := h.fr f2 rfl rfl
    have a4 : mm_up I1 1 4 (nI a) 1 4 = nI a := up_s _ _ _ _
    have a5 : mm_up I1 1 4 (nI a) 1 5 = nI a := by rw [up_k (by decide)]; exact g5
    refine fx_77k_38 ?_
    rw [f1 1 2 rfl, h.1, g5, z_lt (by omega) (by omega), z_ix (by omega)]
    refine ⟨fun hlt => ⟨z_in (by omega) (by decide), ?_⟩, fun hge => fx_77k_160 (c _ J (f2.up rfl) rfl ⟨h2.fr (L := aS) (fr.rf.up rfl) rfl rfl, ha, ?_, ?_, ?_, fun z => ?_, fun z => ?_⟩)⟩
    · have hb := h.2.2.2.1 a hlt
      have e2 : I1 2 a = by8 (b a) := by rw [f1 2 _ rfl]; exact h.2.2.1 a hlt
      have e3 : mm_up I1 1 4 (nI a) 2 a = by8 (b a) := by rw [up_c (by decide)]; exact e2
      rw [e2]
      generalize mm_up I1 1 4 (nI a) = I2 at *
      refine ct_80 hb ⟨_, _, _, rfl, rfl, ?_⟩
      rw [bI_0]
      refine ⟨fun el => ⟨by rw [a4]; exact z_in (by omega) (by decide), ?_⟩, fun el => ?_⟩
      · rw [a4, z_ix (by omega), e3]
        refine ct_81 hb ⟨_, _, _, rfl, rfl, ?_⟩
        rw [bI_0]
        refine ⟨fun ed => ⟨by rw [a4]; exact z_in (by omega) (by decide), ?_⟩, fun ed => ?_⟩
        · have hE : tkE b N a = a + 1 := by unfold tkE; rw [if_neg (by omega), if_neg (by rw [el]; decide), if_neg (by rw [ed]; decide)]
          have hK : tkK b N a = if b a = 59 then 59 else if b a = 44 then 44 else 1 := by unfold tkK; rw [if_neg (by omega), if_neg (by rw [el]; decide), if_neg (by rw [ed]; decide)]
          have go : ∀ x, x = ckd (tkK b N a) → mm_w Q (mm_wc (d + 2)) bk_77 147 [some (.ref 1)] [.int (nI x), .ref 1] ((fl, n1, n2, p, q, ad), I2, J) := fun x hx => by
            have hk : tkK b N a = 59 ∨ tkK b N a = 44 ∨ tkK b N a = 1 := by
              rw [hK]; split
              · exact .inl rfl
              · split
                · exact .inr (.inl rfl)
                · exact .inr (.inr rfl)
            refine fx_77k_147 (fx_77k_160 ?_)
            rw [a5, z_add]
            refine c _ J ((f2.up rfl).up rfl) rfl ⟨h2.fr (L := aS) ((fr.rf.up rfl).up rfl) rfl rfl, ha, ?_, ?_, ?_, fun z => by omega, fun z => by omega⟩
            · rw [up_k (by decide), up_k (by decide)]; exact a4
            · rw [up_s, hE]
            · rw [up_k (by decide), up_s, hx]
          rw [a4, z_ix (by omega), e3, b8_59 _ hb, b8_44 _ hb]
          refine ⟨fun n59 => ⟨z_in (by omega) (by decide), fun n44 => go 5 ?_, fun e44 => go 4 ?_⟩, fun e59 => go 3 ?_⟩
          · rw [hK, if_neg n59, if_neg n44]; rfl
          · rw [hK, if_neg n59, if_pos e44]; rfl
          · rw [hK, if_pos e59]; rfl
        · have ed : dgt (b a) = true := by simpa using ed
          have hE : tkE b N a = rnE (fun k => dgt (b k)) N a := by unfold tkE; rw [if_neg (by omega), if_neg (by rw [el]; decide), if_pos ed]
          have hK : tkK b N a = if rnE (fun k => dgt (b k)) N a - a ≤ 3 then 3 else 1 := by unfold tkK; rw [if_neg (by omega), if_neg (by rw [el]; decide), if_pos ed, hE]
          refine ct_79 h2 ha a4 a5 (fun I3 f3 k5 k3 k7 => ⟨_, _, rfl, rfl, fx_77k_160 (c I3 J (f2.tr (f3.sub rfl)) rfl ⟨h2.fr f3 rfl rfl, ha, by rw [f3 1 4 rfl]; exact a4, by rw [k5, hE], ?_, fun z => by rw [k7]; unfold tv; rw [hE], fun z => ?_⟩)⟩)
          · rw [k3, hK]; split <;> rfl
          · rw [hK] at z
            split at z <;> cases z
      · have el : ltr (b a) = true := by simpa using el
        have hE : tkE b N a = rnE (fun k => ltr (b k)) N a := by unfold tkE; rw [if_neg (by omega), if_pos el]
        have hK : tkK b N a = if rnE (fun k => ltr (b k)) N a - a ≤ 8 then 2 else 1 := by unfold tkK; rw [if_neg (by omega), if_pos el, hE]
        refine ct_78 h2 ha a4 a5 (fun I3 J3 f3 j3 k5 k3 k6 => ⟨_, _, rfl, rfl, fx_77k_160 (c I3 J3 (f2.tr (f3.sub rfl)) j3 ⟨h2.fr f3 rfl rfl, ha, by rw [f3 1 4 rfl]; exact a4, by rw [k5, hE], ?_, fun z => ?_, fun z => by rw [k6]; unfold cod; rw [hE]⟩)⟩)
        · rw [k3, hK]; split <;> rfl
        · rw [hK] at z
          split at z <;> cases z
    · rw [up_k (by decide)]; exact a4
    · rw [up_k (by decide), a5]; unfold tkE; rw [if_pos (by omega)]
    · rw [up_s]; unfold tkK; rw [if_pos (by omega)]; rfl
    · unfold tkK at z; rw [if_pos (by omega)] at z; cases z
    · unfold tkK at z; rw [if_pos (by omega)] at z; cases z
  have lp : ∀ r k, r + k = N → skp b N e = skp b N k → ∀ I', fr [(1, [5])] I I' → I' 1 5 = nI k → mm_w Q (mm_wc (d + 2)) bk_77 0 [some (.ref 1)] [] ((fl, n1, n2, p, q, ad), I', J) := by
    intro r
    induction r with
    | zero =>
      intro k hk hs I' f1 g5
      have := st k (by omega) (by rw [hs]; exact rnE_f (fun e => by omega)) I' f1 g5
      refine fx_77k_0 ⟨fun _ => this, fun z => absurd ?_ z⟩
      rw [f1 1 2 rfl, h.1, g5, z_le (by omega) (by omega)]; omega
    | succ r ih =>
      intro k hk hs I' f1 g5
      have hb := h.2.2.2.1 k (by omega)
      refine fx_77k_0 ?_
      rw [f1 1 2 rfl, h.1, g5, z_le (by omega) (by omega), z_ix (by omega), f1 2 k rfl, h.2.2.1 k (by omega), b8_32 _ hb, z_add]
      refine ⟨fun z => by omega, fun _ => ⟨z_in (by omega) (by decide), fun ne => st k (by omega) (by rw [hs]; exact rnE_f (fun _ => by simpa using ne)) I' f1 g5, fun eq => ih (k + 1) (by omega) (by rw [hs]; exact rnE_t (by omega) (by simpa using eq)) _ (f1.up rfl) (up_s _ _ _ _)⟩⟩
  exact fx_77k (lp (N - e) e (by omega) rfl I fr.rf h5)
theorem ct_77n {a : Nat} (h : cTk b N a I J) (c : ∀ I' J', fr aS I I' → J' 3 = J 3 → cTk b N (nx b N a) I' J' → Q none ((fl, n1, n2, p, q, ad), I', J')) : mm_wc (d + 3) 77 [.ref 1] ((fl, n1, n2, p, q, ad), I, J) Q :=
  ct_77 h.1 h.2.2.2.1 (tkE_b h.2.1).2.1 c
end SA
