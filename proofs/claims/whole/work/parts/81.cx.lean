/-! the class: more calls that only read, and those that act -/
def bc (x0 : Int32) : Int32 := ((((((((x0 - ((((x0 : Int32).toUInt32 >>> (((nI 1) : Int32).toUInt32 &&& Int32.toUInt32 31)).toInt32) &&& (nI 1431655765))) &&& (nI 858993459)) + (((((x0 - ((((x0 : Int32).toUInt32 >>> (((nI 1) : Int32).toUInt32 &&& Int32.toUInt32 31)).toInt32) &&& (nI 1431655765))) : Int32).toUInt32 >>> (((nI 2) : Int32).toUInt32 &&& Int32.toUInt32 31)).toInt32) &&& (nI 858993459))) + ((((((x0 - ((((x0 : Int32).toUInt32 >>> (((nI 1) : Int32).toUInt32 &&& Int32.toUInt32 31)).toInt32) &&& (nI 1431655765))) &&& (nI 858993459)) + (((((x0 - ((((x0 : Int32).toUInt32 >>> (((nI 1) : Int32).toUInt32 &&& Int32.toUInt32 31)).toInt32) &&& (nI 1431655765))) : Int32).toUInt32 >>> (((nI 2) : Int32).toUInt32 &&& Int32.toUInt32 31)).toInt32) &&& (nI 858993459))) : Int32).toUInt32 >>> (((nI 4) : Int32).toUInt32 &&& Int32.toUInt32 31)).toInt32)) &&& (nI 252645135)) + ((((((((x0 - ((((x0 : Int32).toUInt32 >>> (((nI 1) : Int32).toUInt32 &&& Int32.toUInt32 31)).toInt32) &&& (nI 1431655765))) &&& (nI 858993459)) + (((((x0 - ((((x0 : Int32).toUInt32 >>> (((nI 1) : Int32).toUInt32 &&& Int32.toUInt32 31)).toInt32) &&& (nI 1431655765))) : Int32).toUInt32 >>> (((nI 2) : Int32).toUInt32 &&& Int32.toUInt32 31)).toInt32) &&& (nI 858993459))) + ((((((x0 - ((((x0 : Int32).toUInt32 >>> (((nI 1) : Int32).toUInt32 &&& Int32.toUInt32 31)).toInt32) &&& (nI 1431655765))) &&& (nI 858993459)) + (((((x0 - ((((x0 : Int32).toUInt32 >>> (((nI 1) : Int32).toUInt32 &&& Int32.toUInt32 31)).toInt32) &&& (nI 1431655765))) : Int32).toUInt32 >>> (((nI 2) : Int32).toUInt32 &&& Int32.toUInt32 31)).toInt32) &&& (nI 858993459))) : Int32).toUInt32 >>> (((nI 4) : Int32).toUInt32 &&& Int32.toUInt32 31)).toInt32)) &&& (nI 252645135)) : Int32).toUInt32 >>> (((nI 8) : Int32).toUInt32 &&& Int32.toUInt32 31)).toInt32)) + (((((((((x0 - ((((x0 : Int32).toUInt32 >>> (((nI 1) : Int32).toUInt32 &&& Int32.toUInt32 31)).toInt32) &&& (nI 1431655765))) &&& (nI 858993459)) + (((((x0 - ((((x0 : Int32).toUInt32 >>> (((nI 1) : Int32).toUInt32 &&& Int32.toUInt32 31)).toInt32) &&& (nI 1431655765))) : Int32).toUInt32 >>> (((nI 2) : Int32).toUInt32 &&& Int32.toUInt32 31)).toInt32) &&& (nI 858993459))) + ((((((x0 - ((((x0 : Int32).toUInt32 >>> (((nI 1) : Int32).toUInt32 &&& Int32.toUInt32 31)).toInt32) &&& (nI 1431655765))) &&& (nI 858993459)) + (((((x0 - ((((x0 : Int32).toUInt32 >>> (((nI 1) : Int32).toUInt32 &&& Int32.toUInt32 31)).toInt32) &&& (nI 1431655765))) : Int32).toUInt32 >>> (((nI 2) : Int32).toUInt32 &&& Int32.toUInt32 31)).toInt32) &&& (nI 858993459))) : Int32).toUInt32 >>> (((nI 4) : Int32).toUInt32 &&& Int32.toUInt32 31)).toInt32)) &&& (nI 252645135)) + ((((((((x0 - ((((x0 : Int32).toUInt32 >>> (((nI 1) : Int32).toUInt32 &&& Int32.toUInt32 31)).toInt32) &&& (nI 1431655765))) &&& (nI 858993459)) + (((((x0 - ((((x0 : Int32).toUInt32 >>> (((nI 1) : Int32).toUInt32 &&& Int32.toUInt32 31)).toInt32) &&& (nI 1431655765))) : Int32).toUInt32 >>> (((nI 2) : Int32).toUInt32 &&& Int32.toUInt32 31)).toInt32) &&& (nI 858993459))) + ((((((x0 - ((((x0 : Int32).toUInt32 >>> (((nI 1) : Int32).toUInt32 &&& Int32.toUInt32 31)).toInt32) &&& (nI 1431655765))) &&& (nI 858993459)) + (((((x0 - ((((x0 : Int32).toUInt32 >>> (((nI 1) : Int32).toUInt32 &&& Int32.toUInt32 31)).toInt32) &&& (nI 1431655765))) : Int32).toUInt32 >>> (((nI 2) : Int32).toUInt32 &&& Int32.toUInt32 31)).toInt32) &&& (nI 858993459))) : Int32).toUInt32 >>> (((nI 4) : Int32).toUInt32 &&& Int32.toUInt32 31)).toInt32)) &&& (nI 252645135)) : Int32).toUInt32 >>> (((nI 8) : Int32).toUInt32 &&& Int32.toUInt32 31)).toInt32)) : Int32).toUInt32 >>> (((nI 16) : Int32).toUInt32 &&& Int32.toUInt32 31)).toInt32)) &&& (nI 63))
theorem bc_ok : ∀ n, n < 2048 → bc (nI n) = nI (zcnt n) := by decide +kernel
section CX
variable {d n1 n2 : Nat} {fl : Nat → Bool} {p q : Bool} {ad : Nat → Nat} {I : mmI} {J : mmJ} {Q : mmQ} {K : Nat → Nat}
theorem ct_278 {s : Nat} (hs : s < 2048) (k : Q (some (.int (nI (zcnt s)))) ((fl, n1, n2, p, q, ad), I, J)) : mm_wc (d + 1) 278 [.int (nI s)] ((fl, n1, n2, p, q, ad), I, J) Q := by
  refine fx_278 ?_
  change Q (some (.int (bc (nI s)))) _
  rw [bc_ok s hs]; exact k
theorem ct_18 {m : Nat} (hm : m / 8 < 2 ^ 11) (k : Q (some (.int (nI (zcnt (m / 8))))) ((fl, n1, n2, p, q, ad), I, J)) : mm_wc (d + 2) 18 [.ref 6, .int (nI m)] ((fl, n1, n2, p, q, ad), I, J) Q := by
  refine fx_18 ?_
  rw [z_shr (by omega) (by decide)]
  exact ct_278 hm ⟨_, _, _, rfl, rfl, k⟩
theorem ct_15 (h : cK I p K) (k : Q (some (.int (nI (2 ^ K 3 - 1)))) ((fl, n1, n2, p, q, ad), I, J)) : mm_wc (d + 1) 15 [.ref 6] ((fl, n1, n2, p, q, ad), I, J) Q := by
  refine fx_15 ?_
  have := h.1.c
  rw [h.2.1, z_bit (by omega), z_sub (Nat.one_le_two_pow)]
  exact k
theorem ct_16 (h : cK I p K) (hD : bD I K) (k : Q (some (.int (nI (zall K)))) ((fl, n1, n2, p, q, ad), I, J)) : mm_wc (d + 2) 16 [.ref 6] ((fl, n1, n2, p, q, ad), I, J) Q := by
  refine fx_16 (ct_15 h ⟨_, _, _, rfl, rfl, ct_23 hD (z := 0) (by decide) ⟨_, _, _, rfl, rfl, ?_⟩⟩)
  have ec : cde (ofK K 3) 0 (K 3) = 0 := by
    apply Nat.eq_of_testBit_eq
    intro t
    rw [Nat.zero_testBit]
    cases hb : (cde (ofK K 3) 0 (K 3)).testBit t
    · rfl
    · obtain ⟨c, -, -, h4, -⟩ := (cde_tb _ _ _ _).mp hb
      rw [Nat.zero_testBit] at h4; cases h4
  rw [ec]
  exact k
theorem ct_19 (hD : bD I K) {m : Nat} (hm : m < 2 ^ 31) (k : Q (some (.int (nI (dzK K m)))) ((fl, n1, n2, p, q, ad), I, J)) : mm_wc (d + 1) 19 [.ref 6, .int (nI m)] ((fl, n1, n2, p, q, ad), I, J) Q := by
  refine fx_19 ?_
  have e7 : m &&& 7 = m % 8 := by rw [show (7 : Nat) = 2 ^ 3 - 1 from rfl, Nat.and_two_pow_sub_one_eq_mod]
  have h8 : m % 8 < 8 := Nat.mod_lt _ (by decide)
  rw [z_and, e7, z_ix (by omega), hD.2.2.2.2.2.2.1 _ h8]
  exact ⟨z_in h8 (by decide), k⟩
theorem ct_20 {m c : Nat} (hm : m / 8 < 2 ^ 11) (hc : c < 32) (k : Q (some (.int (bI ((m / 8).testBit c)))) ((fl, n1, n2, p, q, ad), I, J)) : mm_wc (d + 2) 20 [.ref 6, .int (nI m), .int (nI c)] ((fl, n1, n2, p, q, ad), I, J) Q := by
  refine fx_20 (ct_17 (by omega) ⟨_, _, _, rfl, rfl, ?_⟩)
  have e : m / 8 / 2 ^ c &&& 1 = ((m / 8).testBit c).toNat := by rw [Nat.and_one_is_mod, tb_div]
  rw [z_shr (by omega) hc, z_and, e]
  cases hb : (m / 8).testBit c
  · rw [hb] at k; exact ⟨fun _ => k, fun z => absurd rfl z⟩
  · rw [hb] at k; exact ⟨fun z => absurd z n10, fun _ => k⟩
theorem ct_21 (hD : bD I K) {m c : Nat} (hv : vm K False m) (hc : c < K 3) (k : Q (some (.int (nI (zlit m c)))) ((fl, n1, n2, p, q, ad), I, J)) : mm_wc (d + 2) 21 [.ref 6, .int (nI m), .int (nI c)] ((fl, n1, n2, p, q, ad), I, J) Q := by
  have ok := hD.1
  have h3 := ok.c
  have hm := hv.lt ok
  have hdl := lt_p11 ok (dzK_lt K m)
  refine fx_21 (ct_17 (by omega) ⟨_, _, _, rfl, rfl, ct_19 hD (by omega) ⟨_, _, _, rfl, rfl, ?_⟩⟩)
  rw [z_bit (by omega), z_or]
  refine ct_23 hD (by omega) ⟨_, _, _, rfl, rfl, ?_⟩
  have : cde (ofK K 3) (dzK K m) (K 3) = m % 8 := hv.2.1.symm
  rw [this]
  exact k
theorem ct_24n (hD : bD I K) (hms : I 6 13 = nI 0) {m b : Nat} (hv : vm K False m) (k : Q (some (.int (nI (zst K m b)))) ((fl, n1, n2, p, q, ad), I, J)) : mm_wc (d + 2) 24 [.ref 6, .int (nI m), .int (nI (fanK K b))] ((fl, n1, n2, p, q, ad), I, J) Q := by
  have ok := hD.1
  refine ct_24 (ms := 0) (gl := 0) hD (hv.lt ok) (hv.lt2 ok) hms (fun z => ?_) k
  rcases hv.1 10 z with y | y
  · have := ok.c; omega
  · exact y.1.elim
theorem ct_25 (hD : bD I K) (hms : I 6 13 = nI 0) {m b : Nat} (hv : vm K False m) (k : Q (some (.int (gn K m b))) ((fl, n1, n2, p, q, ad), I, J)) : mm_wc (d + 3) 25 [.ref 6, .int (nI m), .int (nI (fanK K b))] ((fl, n1, n2, p, q, ad), I, J) Q := by
  have ok := hD.1
  exact fx_25 (ct_18 (hv.lt ok) ⟨_, _, _, rfl, rfl, ct_24n hD hms hv ⟨_, _, _, rfl, rfl, ct_18 ((zst_vm ok hv b).lt ok) ⟨_, _, _, rfl, rfl, k⟩⟩⟩)
theorem zcnt_le (s : Nat) : zcnt s ≤ 14 := popc_le s 14
theorem gn_100 (K : Nat → Nat) (m b : Nat) : ¬ gn K m b ≤ -100 := by
  have h1 := zcnt_le (m / 8)
  have h2 := zcnt_le (zst K m b / 8)
  rw [Int32.le_iff_toInt_le]
  unfold gn
  rw [pk_sub_toInt (by omega) (by omega), show (-100 : Int32).toInt = -100 from rfl]
  omega
theorem ct_26 (hD : bD I K) (hms : I 6 13 = nI 0) {m : Nat} (hv : vm K False m) (k : ∀ b, isGr K m (nB K) b → Q (some (.int (nI b))) ((fl, n1, n2, p, q, ad), I, J)) : mm_wc (d + 4) 26 [.ref 6, .int (nI m)] ((fl, n1, n2, p, q, ad), I, J) Q := by
  have ok := hD.1
  have hB := nB_le ok
  have hBp := nB_pos ok
  have lp : ∀ n b, n + b = nB K → ∀ c, isGr K m b c → mm_w Q (mm_wc (d + 3)) bk_26 8 [some (.ref 6), some (.int (nI m)), some (.int (nI c)), some (.int (gn K m c)), some (.int (nI b)), none] [] ((fl, n1, n2, p, q, ad), I, J) := by
    intro n
    induction n with
    | zero =>
      intro b hb c hg
      refine fx_26_8 ?_
      rw [hD.2.1, z_le (by omega) (by omega)]
      have : b = nB K := by omega
      subst this
      exact ⟨fun _ => k c hg, fun e => absurd (Nat.le_refl _) e⟩
    | succ n ih =>
      intro b hb c hg
      refine fx_26_8 ?_
      rw [hD.2.1, z_le (by omega) (by omega), z_ix (by omega), hD.2.2.1 b (by omega)]
      refine ⟨fun e => absurd e (by omega), fun _ => ⟨z_in (by omega) (by decide), ct_25 hD hms hv ⟨_, _, _, rfl, rfl, ?_⟩⟩⟩
      rw [z_add]
      exact ⟨fun e => ih (b + 1) (by omega) c (hg.old e), fun e => ih (b + 1) (by omega) b (hg.new e)⟩
  refine fx_26 (fx_26_8 ?_)
  rw [hD.2.1, z_le (by omega) (by decide), z_ix (by decide), hD.2.2.1 0 (by omega)]
  refine ⟨fun e => absurd e (by omega), fun _ => ⟨z_in (by decide) (by decide), ct_25 hD hms hv ⟨_, _, _, rfl, rfl, fun e => absurd e (gn_100 K m 0), fun _ => ?_⟩⟩⟩
  refine lp (nB K - 1) 1 (by omega) 0 ⟨by decide, fun c hc => ?_, fun c hc => absurd hc (by omega)⟩
  have : c = 0 := by omega
  subst this
  intro z; rw [Int32.lt_iff_toInt_lt] at z; omega
theorem ct_27 (h : cK I p K) (hD : bD I K) (hms : I 6 13 = nI 0) {m : Nat} (hv : vm K False m) (k : ∀ r, geR K (K 2) m r → vm K False r → Q (some (.int (nI r))) ((fl, n1, n2, p, q, ad), I, J)) : mm_wc (d + 5) 27 [.ref 6, .int (nI m)] ((fl, n1, n2, p, q, ad), I, J) Q := by
  have ok := hD.1
  have hB := nB_le ok
  have hwx := ok.2.2.2.2.2.1
  have h8 := h.2.2.2.2.2.2.1
  have lp : ∀ n j, n + j = K 2 → ∀ m', vm K False m' → (∀ r, geR K n m' r → geR K (K 2) m r) → mm_w Q (mm_wc (d + 4)) bk_27 4 [some (.ref 6), none, some (.int (nI m')), some (.int (nI j)), none] [] ((fl, n1, n2, p, q, ad), I, J) := by
    intro n
    induction n with
    | zero =>
      intro j hj m' hv' hg
      refine fx_27_4 ?_
      rw [h8, z_le (by omega) (by omega)]
      exact ⟨fun _ => k m' (hg m' rfl) hv', fun e => absurd (by omega) e⟩
    | succ n ih =>
      intro j hj m' hv' hg
      refine fx_27_4 ?_
      rw [h8, z_le (by omega) (by omega)]
      refine ⟨fun e => absurd e (by omega), fun _ => ct_26 hD hms hv' (fun b hb => ⟨_, _, _, rfl, rfl, ?_⟩)⟩
      have hb1 := hb.1
      rw [z_ix (by omega), hD.2.2.1 b hb1]
      refine ⟨z_in (by omega) (by decide), ct_25 hD hms hv' ⟨_, _, _, rfl, rfl, fun e => ct_24n hD hms hv' ⟨_, _, _, rfl, rfl, ?_⟩, fun e => k m' (hg m' ⟨b, hb, .inl ⟨e, rfl⟩⟩) hv'⟩⟩
      rw [z_add]
      exact ih (j + 1) (by omega) (zst K m' b) (zst_vm ok hv' b) (fun r hr => hg r ⟨b, hb, .inr ⟨e, hr⟩⟩)
  exact fx_27 (lp (K 2) 0 (by omega) m hv (fun r hr => hr))
theorem nf_eq (fan : Nat → Nat) : ∀ B, cntB (newB fan) B = cntB (fun b => (fan b != 0) && newB fan b) B + (if ∃ b, b < B ∧ fan b = 0 then 1 else 0)
  | 0 => by
    rw [if_neg (by rintro ⟨b, hb, -⟩; omega)]; rfl
  | B + 1 => by
    have ih := nf_eq fan B
    by_cases h0 : fan B = 0
    · by_cases hx : ∃ b, b < B ∧ fan b = 0
      · have hn : newB fan B = false := by
          obtain ⟨b, hb, eb⟩ := hx
          exact decide_eq_false (fun z => z b hb (eb.trans h0.symm))
        rw [cntB_f hn, cntB_f (by simp [hn]), ih, if_pos hx, if_pos ⟨B, by omega, h0⟩]
      · have hn : newB fan B = true := decide_eq_true (fun b hb z => hx ⟨b, hb, z.trans h0⟩)
        rw [cntB_t hn, cntB_f (by simp [h0]), ih, if_neg hx, if_pos ⟨B, by omega, h0⟩]
    · have e1 : (∃ b, b < B + 1 ∧ fan b = 0) ↔ ∃ b, b < B ∧ fan b = 0 := by
        constructor
        · rintro ⟨b, hb, eb⟩
          exact ⟨b, by have : b ≠ B := fun z => h0 (z ▸ eb)
                       omega, eb⟩
        · rintro ⟨b, hb, eb⟩; exact ⟨b, by omega, eb⟩
      have e2 : (if ∃ b, b < B + 1 ∧ fan b = 0 then 1 else 0) = if ∃ b, b < B ∧ fan b = 0 then 1 else 0 := by
        by_cases hx : ∃ b, b < B ∧ fan b = 0
        · rw [if_pos hx, if_pos (e1.mpr hx)]
        · rw [if_neg hx, if_neg (fun z => hx (e1.mp z))]
      rw [e2]
      cases hn : newB fan B
      · rw [cntB_f hn, cntB_f (by simp [hn]), ih]
      · rw [cntB_t hn, cntB_t (by simp [hn, h0]), ih]; omega
theorem ct_13 (hD : bD I K) (k : Q (some (.int (nI (nfan K (nB K))))) ((fl, n1, n2, p, q, ad), I, J)) : mm_wc (d + 1) 13 [.ref 6] ((fl, n1, n2, p, q, ad), I, J) Q := by
  obtain ⟨ok, -, -, ⟨u, un, uo, h1, h2, h3, h4, h5, h6, h7, h8, h9⟩, -⟩ := hD
  have hB := nB_le ok
  have hnf := nf_eq (fanK K) (nB K)
  refine fx_13 ?_
  rw [h1]
  rcases h8 0 (by decide) with ⟨f, hf, e1, e2⟩ | ⟨e1, e2⟩
  · obtain ⟨b, hb, eb⟩ := h6 f hf
    rw [if_pos ⟨b, hb, eb.trans e1⟩, ← h9] at hnf
    rw [e2, z_eq (by omega) (by decide), z_sub (by omega), show u - 1 = nfan K (nB K) by unfold nfan; omega]
    exact ⟨fun _ => k, fun z => absurd z (by omega)⟩
  · rw [if_neg (by rintro ⟨b, hb, eb⟩; exact e1 (uo b) (h5 b hb).2.1 ((h5 b hb).2.2.trans eb)), ← h9] at hnf
    rw [e2, show u = nfan K (nB K) by unfold nfan; omega]
    exact ⟨fun z => absurd rfl z, fun _ => k⟩
theorem cntB_0i {P : Nat → Bool} {B : Nat} : cntB P B = 0 ↔ ∀ b, b < B → P b = false := by
  refine ⟨fun h => ?_, cntB_0⟩
  induction B with
  | zero => exact fun b hb => absurd hb (by omega)
  | succ B ih =>
    rw [cntB] at h
    intro b hb
    by_cases e : b = B
    · subst e
      cases hp : P b
      · rfl
      · rw [hp] at h; simp at h
    · exact ih (by omega) b (by omega)
theorem ct_14 (h : cK I p K) (hD : bD I K) (k : Q (some (.int (nI (sprK K (nB K))))) ((fl, n1, n2, p, q, ad), I, J)) : mm_wc (d + 2) 14 [.ref 6] ((fl, n1, n2, p, q, ad), I, J) Q := by
  obtain ⟨ok, -, -, ⟨u, un, uo, h1, h2, h3, h4, h5, h6, h7, h8, h9⟩, -⟩ := hD
  have hB := nB_le ok
  have lp : ∀ n g, n + g = u → ∀ a, (∀ i, a.testBit i = true ↔ ∃ j, j < g ∧ (un j).testBit i = true) → mm_w Q (mm_wc (d + 1)) bk_14 4 [some (.ref 6), some (.int (nI a)), some (.int (nI g))] [] ((fl, n1, n2, p, q, ad), I, J) := by
    intro n
    induction n with
    | zero =>
      intro g hg a ha
      refine fx_14_4 ?_
      rw [h1, z_le (by omega) (by omega)]
      refine ⟨fun _ => ct_15 h ⟨_, _, _, rfl, rfl, ?_⟩, fun e => absurd (by omega) e⟩
      have e : sd (2 ^ K 3 - 1) a = sprK K (nB K) := by
        apply Nat.eq_of_testBit_eq
        intro i
        unfold sprK
        rw [sd_tb, Nat.testBit_two_pow_sub_one, bset_tb]
        congr 1
        rw [Bool.eq_iff_iff, beq_iff_eq, cntB_0i, Bool.not_eq_true']
        constructor
        · intro hz b hb
          cases hf : (fanK K b).testBit i
          · rfl
          · have := (ha i).mpr ⟨uo b, by have := (h5 b hb).2.1; omega, by rw [(h5 b hb).2.2]; exact hf⟩
            rw [hz] at this; cases this
        · intro hz
          cases hb : a.testBit i
          · rfl
          · obtain ⟨j, hj, ej⟩ := (ha i).mp hb
            obtain ⟨b, hb', eb⟩ := h6 j (by omega)
            have := hz b hb'
            rw [eb, ej] at this; cases this
      rw [z_andn, e]; exact k
    | succ n ih =>
      intro g hg a ha
      refine fx_14_4 ?_
      rw [h1, z_le (by omega) (by omega), z_ix (by omega), h3 g (by omega), z_or, z_add]
      refine ⟨fun e => absurd e (by omega), fun _ => ⟨z_in (by omega) (by decide), ih (g + 1) (by omega) _ (fun i => ?_)⟩⟩
      rw [Nat.testBit_or, Bool.or_eq_true, ha i]
      constructor
      · rintro (⟨j, hj, ej⟩ | z)
        · exact ⟨j, by omega, ej⟩
        · exact ⟨g, by omega, z⟩
      · rintro ⟨j, hj, ej⟩
        by_cases e : j = g
        · subst e; exact .inr ej
        · exact .inl ⟨j, by omega, ej⟩
  refine fx_14 (lp u 0 (by omega) 0 (fun i => ?_))
  rw [Nat.zero_testBit]
  exact ⟨fun z => (Bool.noConfusion z), fun ⟨j, hj, _⟩ => absurd hj (by omega)⟩
end CX
