/-! reading: the model's tokens -/
/-- the tape that is read, in the model -/
def mTp (b : Nat → Nat) (N : Nat) (I : mmI) : Prop := I 46 3 = nI N ∧ N ≤ 900 ∧ (∀ k, k < N → I 47 k = nI (b k)) ∧ (∀ k, k < N → b k < 256) ∧ I 46 9 = nI 0
/-- the token at a is in hand -/
def mT (b : Nat → Nat) (N a : Nat) (I : mmI) : Prop := mTp b N I ∧ a ≤ N ∧ I 46 13 = nI 0 ∧ I 46 4 = nI a ∧ I 46 5 = nI (tkE b N a) ∧ I 46 6 = nI (tkK b N a) ∧ (tkK b N a = 3 → I 46 7 = nI (tv b N a)) ∧ (tkK b N a = 2 → I 46 8 = nI (tkE b N a - a) ∧ ∀ k, k < tkE b N a - a → I 48 k = nI (b (a + k)))
abbrev nS : List (Nat × List Nat) := [(46, [4, 5, 6, 7, 8]), (48, [])]
theorem mTp.fr {b : Nat → Nat} {N : Nat} {I I' : mmI} {L : List (Nat × List Nat)} (h : mTp b N I) (hf : fr L I I') (h1 : (inS L 46 3 || inS L 46 9) = false) (h2 : noR 47 48 L = true) : mTp b N I' := by
  rw [Bool.or_eq_false_iff] at h1
  exact ⟨by rw [hf 46 3 h1.1]; exact h.1, h.2.1, fun k hk => by rw [hf 47 k (inS_no h2 (by decide) (by decide))]; exact h.2.2.1 k hk, h.2.2.2.1, by rw [hf 46 9 h1.2]; exact h.2.2.2.2⟩
section RC
variable {d n1 n2 : Nat} {fl : Nat → Bool} {p q : Bool} {ad : Nat → Nat} {I : mmI} {J : mmJ} {Q : mmQ} {b : Nat → Nat} {N : Nat}
theorem ct_173 (h : mTp b N I) {k : Nat} (hk : k < 2 ^ 31) (c : Q (some (.int (if k < N then nI (b k) else -1))) ((fl, n1, n2, p, q, ad), I, J)) : mm_wc (d + 1) 173 [.ref 46, .int (nI k)] ((fl, n1, n2, p, q, ad), I, J) Q := by
  have hN := h.2.1
  refine fx_173 ?_
  rw [h.1, z_le (by omega) hk, z_ix hk]
  refine ⟨fun e => ?_, fun e => ⟨z_in (by omega) (by decide), ?_⟩⟩
  · rw [if_neg (by omega)] at c; exact c
  · rw [if_pos (by omega)] at c
    rw [h.2.2.1 k (by omega)]; exact c
theorem m1_lt {a : Nat} (ha : a < 2 ^ 31) : (-1 : Int32) < nI a := by
  rw [Int32.lt_iff_toInt_lt, nI_toInt ha, show (-1 : Int32).toInt = -1 from rfl]; omega
theorem ct_174 (h : mTp b N I) {k : Nat} (c : Q (some (.int (bI (decide (k < N) && ltr (b k))))) ((fl, n1, n2, p, q, ad), I, J)) : mm_wc (d + 1) 174 [.int (if k < N then nI (b k) else -1)] ((fl, n1, n2, p, q, ad), I, J) Q := by
  refine fx_174 ?_
  by_cases hk : k < N
  · have hb := h.2.2.2.1 k hk
    rw [if_pos hk, z_lt (by omega) (by decide), z_lt (by decide) (by omega)]
    rw [decide_eq_true hk, Bool.true_and] at c
    refine ⟨fun e => ?_, fun e => ⟨fun e2 => ?_, fun e2 => ?_⟩⟩
    · rw [show ltr (b k) = false by unfold ltr; simp; omega] at c; exact c
    · rw [show ltr (b k) = false by unfold ltr; simp; omega] at c; exact c
    · rw [show ltr (b k) = true from ltr_iff.mpr (by omega)] at c; exact c
  · rw [if_neg hk]
    rw [decide_eq_false hk, Bool.false_and] at c
    exact ⟨fun _ => c, fun e => absurd (m1_lt (by decide)) e⟩
theorem ct_175 (h : mTp b N I) {k : Nat} (c : Q (some (.int (bI (decide (k < N) && dgt (b k))))) ((fl, n1, n2, p, q, ad), I, J)) : mm_wc (d + 1) 175 [.int (if k < N then nI (b k) else -1)] ((fl, n1, n2, p, q, ad), I, J) Q := by
  refine fx_175 ?_
  by_cases hk : k < N
  · have hb := h.2.2.2.1 k hk
    rw [if_pos hk, z_lt (by omega) (by decide), z_lt (by decide) (by omega)]
    rw [decide_eq_true hk, Bool.true_and] at c
    refine ⟨fun e => ?_, fun e => ⟨fun e2 => ?_, fun e2 => ?_⟩⟩
    · rw [show dgt (b k) = false by unfold dgt; simp; omega] at c; exact c
    · rw [show dgt (b k) = false by unfold dgt; simp; omega] at c; exact c
    · rw [show dgt (b k) = true from dgt_iff.mpr (by omega)] at c; exact c
  · rw [if_neg hk]
    rw [decide_eq_false hk, Bool.false_and] at c
    exact ⟨fun _ => c, fun e => absurd (m1_lt (by decide)) e⟩
/-- a word's letters -/
theorem nx_67 {a : Nat} (ha : a ≤ N) (c : ∀ I', fr [(46, [5, 6, 8]), (48, [])] I I' → I' 46 5 = nI (rnE (fun k => ltr (b k)) N a) → I' 46 6 = nI (if rnE (fun k => ltr (b k)) N a - a ≤ 8 then 2 else 1) → I' 46 8 = nI (rnE (fun k => ltr (b k)) N a - a) → (∀ k, k < 8 → k < rnE (fun k => ltr (b k)) N a - a → I' 48 k = nI (b (a + k))) → Q none ((fl, n1, n2, p, q, ad), I', J)) (h : mTp b N I) : ∀ r j, r + (a + j) = N → ∀ I', fr [(46, [5, 6, 8]), (48, [])] I I' → rnE (fun k => ltr (b k)) N a = rnE (fun k => ltr (b k)) N (a + j) → I' 46 8 = nI j → (∀ k, k < 8 → k < j → I' 48 k = nI (b (a + k))) → mm_w Q (mm_wc (d + 1)) bk_176 67 [some (.ref 46), some (.int (nI (a + j))), none, none] [] ((fl, n1, n2, p, q, ad), I', J) := by
  have hN := h.2.1
  have fin : ∀ j, a + j ≤ N → (a + j < N → ltr (b (a + j)) = false) → ∀ I', fr [(46, [5, 6, 8]), (48, [])] I I' → rnE (fun k => ltr (b k)) N a = rnE (fun k => ltr (b k)) N (a + j) → I' 46 8 = nI j → (∀ k, k < 8 → k < j → I' 48 k = nI (b (a + k))) → mm_w Q (mm_wc (d + 1)) bk_176 67 [some (.ref 46), some (.int (nI (a + j))), none, none] [] ((fl, n1, n2, p, q, ad), I', J) := by
    intro j hj hl I' f1 hr h8 hk
    have hT := h.fr f1 rfl rfl
    have he : rnE (fun k => ltr (b k)) N a = a + j := by rw [hr]; exact rnE_f hl
    refine fx_176k_67 (ct_173 hT (by omega) ⟨_, _, _, rfl, rfl, ct_174 hT ⟨_, _, _, rfl, rfl, ?_⟩⟩)
    have e0 : (decide (a + j < N) && ltr (b (a + j))) = false := by
      by_cases e : a + j < N
      · rw [hl e, Bool.and_false]
      · rw [decide_eq_false e, Bool.false_and]
    rw [e0]
    rw [he] at c
    rw [h8, z_le (by omega) (by decide)]
    have ej : a + j - a = j := by omega
    rw [ej] at c
    refine ⟨fun _ => ⟨fun e => fx_176k_137 (fx_176k_247 (c _ ((f1.up rfl).up rfl) ?_ ?_ ?_ ?_)), fun e => fx_176k_137 (fx_176k_247 (c _ ((f1.up rfl).up rfl) ?_ ?_ ?_ ?_))⟩, fun e => absurd rfl e⟩
    · rw [up_k (by decide), up_s]
    · rw [up_s, if_pos e]
    · rw [up_k (by decide), up_k (by decide)]; exact h8
    · intro k k1 k2; rw [up_c (by decide), up_c (by decide)]; exact hk k k1 k2
    · rw [up_k (by decide), up_s]
    · rw [up_s, if_neg e]
    · rw [up_k (by decide), up_k (by decide)]; exact h8
    · intro k k1 k2; rw [up_c (by decide), up_c (by decide)]; exact hk k k1 k2
  intro r
  induction r with
  | zero => intro j hj; exact fin j (by omega) (fun e => by omega)
  | succ r ih =>
    intro j hj I' f1 hr h8 hk
    cases hl : ltr (b (a + j))
    · exact fin j (by omega) (fun _ => hl) I' f1 hr h8 hk
    · have hT := h.fr f1 rfl rfl
      refine fx_176k_67 (ct_173 hT (by omega) ⟨_, _, _, rfl, rfl, ct_174 hT ⟨_, _, _, rfl, rfl, ?_⟩⟩)
      have e0 : (decide (a + j < N) && ltr (b (a + j))) = true := by rw [hl, Bool.and_true]; exact decide_eq_true (by omega)
      rw [e0, h8, z_le (by omega) (by decide), z_le (by decide) (by omega)]
      have hr' : rnE (fun k => ltr (b k)) N a = rnE (fun k => ltr (b k)) N (a + (j + 1)) := by rw [hr]; exact rnE_t (by omega) hl
      refine ⟨fun e => absurd e n10, fun _ => ⟨fun e => fx_176k_101 ?_, fun e => ct_173 hT (by omega) ⟨_, _, _, rfl, rfl, ?_⟩⟩⟩
      · rw [h8, z_add, z_add]
        exact ih (j + 1) (by omega) _ (f1.up rfl) hr' (up_s _ _ _ _) (fun k k1 k2 => by rw [up_c (by decide)]; exact hk k k1 (by omega))
      · refine ⟨z_in (by omega) (by decide), fx_176k_101 ?_⟩
        rw [up_c (by decide), h8, z_add, z_add, z_ix (by omega), if_pos (by omega)]
        refine ih (j + 1) (by omega) _ ((f1.up rfl).up rfl) hr' (up_s _ _ _ _) (fun k k1 k2 => ?_)
        rw [up_c (by decide)]
        by_cases ek : k = j
        · subst ek; rw [up_s]
        · rw [up_k ek]; exact hk k k1 (by omega)
/-- a number's digits -/
theorem nx_152 {a : Nat} (ha : a ≤ N) (c : ∀ I', fr [(46, [5, 6, 7])] I I' → I' 46 5 = nI (rnE (fun k => dgt (b k)) N a) → I' 46 6 = nI (if rnE (fun k => dgt (b k)) N a - a ≤ 3 then 3 else 1) → (rnE (fun k => dgt (b k)) N a - a ≤ 3 → I' 46 7 = nI (wV b a (rnE (fun k => dgt (b k)) N a - a))) → Q none ((fl, n1, n2, p, q, ad), I', J)) (h : mTp b N I) : ∀ r j, r + (a + j) = N → ∀ I', fr [(46, [5, 6, 7])] I I' → rnE (fun k => dgt (b k)) N a = rnE (fun k => dgt (b k)) N (a + j) → (j ≤ 3 → I' 46 7 = nI (wV b a j)) → mm_w Q (mm_wc (d + 1)) bk_176 152 [some (.ref 46), some (.int (nI (a + j))), none, some (.int (nI j))] [] ((fl, n1, n2, p, q, ad), I', J) := by
  have hN := h.2.1
  have fin : ∀ j, a + j ≤ N → (a + j < N → dgt (b (a + j)) = false) → ∀ I', fr [(46, [5, 6, 7])] I I' → rnE (fun k => dgt (b k)) N a = rnE (fun k => dgt (b k)) N (a + j) → (j ≤ 3 → I' 46 7 = nI (wV b a j)) → mm_w Q (mm_wc (d + 1)) bk_176 152 [some (.ref 46), some (.int (nI (a + j))), none, some (.int (nI j))] [] ((fl, n1, n2, p, q, ad), I', J) := by
    intro j hj hl I' f1 hr h7
    have hT := h.fr f1 rfl rfl
    have he : rnE (fun k => dgt (b k)) N a = a + j := by rw [hr]; exact rnE_f hl
    refine fx_176k_152 (ct_173 hT (by omega) ⟨_, _, _, rfl, rfl, ct_175 hT ⟨_, _, _, rfl, rfl, ?_⟩⟩)
    have e0 : (decide (a + j < N) && dgt (b (a + j))) = false := by
      by_cases e : a + j < N
      · rw [hl e, Bool.and_false]
      · rw [decide_eq_false e, Bool.false_and]
    rw [e0]
    rw [he] at c
    rw [z_le (by omega) (by decide)]
    have ej : a + j - a = j := by omega
    rw [ej] at c
    refine ⟨fun _ => ⟨fun e => fx_176k_213 (fx_176k_247 (c _ ((f1.up rfl).up rfl) ?_ ?_ ?_)), fun e => fx_176k_213 (fx_176k_247 (c _ ((f1.up rfl).up rfl) ?_ ?_ ?_))⟩, fun e => absurd rfl e⟩
    · rw [up_k (by decide), up_s]
    · rw [up_s, if_pos e]
    · intro k1; rw [up_k (by decide), up_k (by decide)]; exact h7 k1
    · rw [up_k (by decide), up_s]
    · rw [up_s, if_neg e]
    · intro k1; rw [up_k (by decide), up_k (by decide)]; exact h7 k1
  intro r
  induction r with
  | zero => intro j hj; exact fin j (by omega) (fun e => by omega)
  | succ r ih =>
    intro j hj I' f1 hr h7
    cases hl : dgt (b (a + j))
    · exact fin j (by omega) (fun _ => hl) I' f1 hr h7
    · have hT := h.fr f1 rfl rfl
      refine fx_176k_152 (ct_173 hT (by omega) ⟨_, _, _, rfl, rfl, ct_175 hT ⟨_, _, _, rfl, rfl, ?_⟩⟩)
      have e0 : (decide (a + j < N) && dgt (b (a + j))) = true := by rw [hl, Bool.and_true]; exact decide_eq_true (by omega)
      rw [e0, z_le (by omega) (by decide), z_le (by decide) (by omega)]
      have hr' : rnE (fun k => dgt (b k)) N a = rnE (fun k => dgt (b k)) N (a + (j + 1)) := by rw [hr]; exact rnE_t (by omega) hl
      have hd := dgt_iff.mp hl
      refine ⟨fun e => absurd e n10, fun _ => ⟨fun e => fx_176k_188 ?_, fun e => ct_173 hT (by omega) ⟨_, _, _, rfl, rfl, fx_176k_188 ?_⟩⟩⟩
      · rw [z_add, z_add]
        exact ih (j + 1) (by omega) _ f1 hr' (fun z => by omega)
      · rw [h7 (by omega), if_pos (by omega), z_mul, z_add (10 * wV b a j), z_sub (by omega), z_add, z_add]
        refine ih (j + 1) (by omega) _ (f1.up rfl) hr' (fun _ => ?_)
        rw [up_s, wV]
        congr 1; omega
theorem ct_176 {e : Nat} (h : mTp b N I) (h13 : I 46 13 = nI 0) (h5 : I 46 5 = nI e) (he : e ≤ N) (c : ∀ I', fr nS I I' → mT b N (skp b N e) I' → Q none ((fl, n1, n2, p, q, ad), I', J)) : mm_wc (d + 2) 176 [.ref 46] ((fl, n1, n2, p, q, ad), I, J) Q := by
  have hN := h.2.1
  -- at a, where the token begins
  have st : ∀ a, a ≤ N → skp b N e = a → (a < N → b a ≠ 32) → mm_w Q (mm_wc (d + 1)) bk_176 5 [some (.ref 46), some (.int (nI a)), none, none] [] ((fl, n1, n2, p, q, ad), I, J) := by
    intro a ha hsk h32
    rw [hsk] at c
    refine fx_176k_5 (ct_173 h (by omega) ⟨_, _, _, rfl, rfl, ?_⟩)
    have g32 : ¬ (if a < N then nI (b a) else -1) = nI 32 := by
      split
      · rename_i e1
        have := h.2.2.2.1 a e1
        rw [z_eq (by omega) (by decide)]; exact h32 e1
      · decide
    refine ⟨fun _ => ?_, fun z => absurd z g32⟩
    have f1 : fr nS I (mm_up I 46 4 (nI a)) := fr.rf.up rfl
    have h1 := h.fr f1 rfl rfl
    refine ct_173 h1 (by omega) ⟨_, _, _, rfl, rfl, ?_⟩
    have f2 : fr nS I (mm_up (mm_up (mm_up I 46 4 (nI a)) 46 8 (nI 0)) 46 7 (nI 0)) := ((f1.up rfl).up rfl)
    have h2 := h.fr f2 rfl rfl
    have a13 : mm_up (mm_up (mm_up I 46 4 (nI a)) 46 8 (nI 0)) 46 7 (nI 0) 46 13 = nI 0 := by rw [up_k (by decide), up_k (by decide), up_k (by decide)]; exact h13
    have a4 : mm_up (mm_up (mm_up I 46 4 (nI a)) 46 8 (nI 0)) 46 7 (nI 0) 46 4 = nI a := by rw [up_k (by decide), up_k (by decide), up_s]
    have a8 : mm_up (mm_up (mm_up I 46 4 (nI a)) 46 8 (nI 0)) 46 7 (nI 0) 46 8 = nI 0 := by rw [up_k (by decide), up_s]
    have a7 : mm_up (mm_up (mm_up I 46 4 (nI a)) 46 8 (nI 0)) 46 7 (nI 0) 46 7 = nI 0 := up_s _ _ _ _
    generalize mm_up (mm_up (mm_up I 46 4 (nI a)) 46 8 (nI 0)) 46 7 (nI 0) = I2 at *
    by_cases hN' : a < N
    · have hb := h.2.2.2.1 a hN'
      rw [if_pos hN', z_m1 (by omega)]
      refine ⟨fun _ => ?_, False.elim⟩
      have k1 : mm_wc (d + 1) 174 [.int (nI (b a))] ((fl, 0, 0, p, q, ad), I2, J) (fun v τ => v = some (.int (bI (ltr (b a)))) ∧ τ = ((fl, 0, 0, p, q, ad), I2, J)) := by
        have := ct_174 (d := d) (n1 := 0) (n2 := 0) (fl := fl) (p := p) (q := q) (ad := ad) (J := J) (Q := fun v τ => v = some (.int (bI (ltr (b a)))) ∧ τ = ((fl, 0, 0, p, q, ad), I2, J)) h2 (k := a) (by rw [decide_eq_true hN', Bool.true_and]; exact ⟨rfl, rfl⟩)
        rw [if_pos hN'] at this
        exact this
      refine mm_wcm k1 ?_
      rintro v τ ⟨rfl, rfl⟩
      refine ⟨_, _, _, rfl, rfl, ?_⟩
      rw [bI_0]
      refine ⟨fun el => ?_, fun el => ?_⟩
      · have k2 : mm_wc (d + 1) 175 [.int (nI (b a))] ((fl, 0, 0, p, q, ad), I2, J) (fun v τ => v = some (.int (bI (dgt (b a)))) ∧ τ = ((fl, 0, 0, p, q, ad), I2, J)) := by
          have := ct_175 (d := d) (n1 := 0) (n2 := 0) (fl := fl) (p := p) (q := q) (ad := ad) (J := J) (Q := fun v τ => v = some (.int (bI (dgt (b a)))) ∧ τ = ((fl, 0, 0, p, q, ad), I2, J)) h2 (k := a) (by rw [decide_eq_true hN', Bool.true_and]; exact ⟨rfl, rfl⟩)
          rw [if_pos hN'] at this
          exact this
        refine mm_wcm k2 ?_
        rintro v τ ⟨rfl, rfl⟩
        refine ⟨_, _, _, rfl, rfl, ?_⟩
        rw [bI_0]
        refine ⟨fun ed => ?_, fun ed => ?_⟩
        · -- a sign
          have hE : tkE b N a = a + 1 := by unfold tkE; rw [if_neg (by omega), if_neg (by rw [el]; decide), if_neg (by rw [ed]; decide)]
          have hK : tkK b N a = if b a = 59 then 59 else if b a = 44 then 44 else 1 := by unfold tkK; rw [if_neg (by omega), if_neg (by rw [el]; decide), if_neg (by rw [ed]; decide)]
          rw [z_eq (by omega) (by decide), z_eq (by omega) (by decide), z_add]
          have go : ∀ x, x = nI (tkK b N a) → Q none ((fl, n1, n2, p, q, ad), mm_up (mm_up I2 46 5 (nI (a + 1))) 46 6 x, J) := fun x hx => by
            have hk : tkK b N a = 59 ∨ tkK b N a = 44 ∨ tkK b N a = 1 := by
              rw [hK]; split
              · exact .inl rfl
              · split
                · exact .inr (.inl rfl)
                · exact .inr (.inr rfl)
            refine c _ ((f2.up rfl).up rfl) ⟨h2.fr (L := nS) ((fr.rf.up rfl).up rfl) rfl rfl, ha, ?_, ?_, ?_, ?_, fun z => by omega, fun z => by omega⟩
            · rw [up_k (by decide), up_k (by decide)]; exact a13
            · rw [up_k (by decide), up_k (by decide)]; exact a4
            · rw [up_k (by decide), up_s, hE]
            · rw [up_s]; exact hx
          refine ⟨fun e59 => fx_176k_239 (fx_176k_244 (fx_176k_247 (go _ ?_))), fun e59 => ⟨fun e44 => fx_176k_244 (fx_176k_247 (go _ ?_)), fun e44 => fx_176k_239 (fx_176k_244 (fx_176k_247 (go _ ?_)))⟩⟩
          · rw [hK, if_pos e59, e59]
          · rw [hK, if_neg e59, if_neg e44]
          · rw [hK, if_neg e59, if_pos e44, e44]
        · have ed : dgt (b a) = true := by simpa using ed
          have hE : tkE b N a = rnE (fun k => dgt (b k)) N a := by unfold tkE; rw [if_neg (by omega), if_neg (by rw [el]; decide), if_pos ed]
          have hK : tkK b N a = if rnE (fun k => dgt (b k)) N a - a ≤ 3 then 3 else 1 := by unfold tkK; rw [if_neg (by omega), if_neg (by rw [el]; decide), if_pos ed, hE]
          refine nx_152 ha (fun I3 f3 g5 g6 g7 => ?_) h2 (N - a) 0 (by omega) I2 fr.rf rfl (fun _ => a7)
          refine c _ (f2.tr (f3.sub rfl)) ⟨h2.fr f3 rfl rfl, ha, by rw [f3 46 13 rfl]; exact a13, by rw [f3 46 4 rfl]; exact a4, by rw [g5, hE], by rw [g6, hK], fun z => ?_, fun z => ?_⟩
          · rw [hK] at z
            unfold tv
            rw [hE]
            refine g7 ?_
            split at z
            · assumption
            · cases z
          · rw [hK] at z
            split at z <;> cases z
      · have el : ltr (b a) = true := by simpa using el
        have hE : tkE b N a = rnE (fun k => ltr (b k)) N a := by unfold tkE; rw [if_neg (by omega), if_pos el]
        have hK : tkK b N a = if rnE (fun k => ltr (b k)) N a - a ≤ 8 then 2 else 1 := by unfold tkK; rw [if_neg (by omega), if_pos el, hE]
        refine nx_67 ha (fun I3 f3 g5 g6 g8 gk => ?_) h2 (N - a) 0 (by omega) I2 fr.rf rfl a8 (fun k _ k2 => absurd k2 (Nat.not_lt_zero k))
        refine c _ (f2.tr (f3.sub rfl)) ⟨h2.fr f3 rfl rfl, ha, by rw [f3 46 13 rfl]; exact a13, by rw [f3 46 4 rfl]; exact a4, by rw [g5, hE], by rw [g6, hK], fun z => ?_, fun z => ?_⟩
        · rw [hK] at z
          split at z <;> cases z
        · rw [hK] at z
          rw [hE]
          refine ⟨g8, fun k hk => gk k ?_ hk⟩
          split at z
          · omega
          · cases z
    · have hE : tkE b N a = a := by unfold tkE; rw [if_pos (by omega)]
      have hK : tkK b N a = 0 := by unfold tkK; rw [if_pos (by omega)]
      rw [if_neg hN']
      refine ⟨fun z => absurd rfl z, fun _ => fx_176k_247 (c _ ((f2.up rfl).up rfl) ⟨h2.fr (L := nS) ((fr.rf.up rfl).up rfl) rfl rfl, ha, ?_, ?_, ?_, ?_, fun z => by omega, fun z => by omega⟩)⟩
      · rw [up_k (by decide), up_k (by decide)]; exact a13
      · rw [up_k (by decide), up_k (by decide)]; exact a4
      · rw [up_s, hE]
      · rw [up_k (by decide), up_s, hK]
  have lp : ∀ r k, r + k = N → skp b N e = skp b N k → mm_w Q (mm_wc (d + 1)) bk_176 5 [some (.ref 46), some (.int (nI k)), none, none] [] ((fl, n1, n2, p, q, ad), I, J) := by
    intro r
    induction r with
    | zero =>
      intro k hk hs
      exact st k (by omega) (by rw [hs]; exact rnE_f (fun e => by omega)) (fun e => by omega)
    | succ r ih =>
      intro k hk hs
      by_cases e : b k = 32
      · refine fx_176k_5 (ct_173 h (by omega) ⟨_, _, _, rfl, rfl, ?_⟩)
        rw [if_pos (by omega), e, z_add]
        exact ⟨fun z => absurd rfl z, fun _ => ih (k + 1) (by omega) (by rw [hs]; exact rnE_t (by omega) (by simpa using e))⟩
      · exact st k (by omega) (by rw [hs]; exact rnE_f (fun _ => by simpa using e)) (fun _ => e)
  refine fx_176k ?_
  rw [h5]
  exact lp (N - e) e (by omega) rfl
end RC
