/-! the class: the cake's cells, fans, nearness -/
def noR (lo hi : Nat) (L : List (Nat × List Nat)) : Bool := L.all fun e => decide (e.1 < lo) || decide (hi ≤ e.1)
theorem inS_no {lo hi : Nat} {L : List (Nat × List Nat)} (h : noR lo hi L = true) {r k : Nat} (h1 : lo ≤ r) (h2 : r < hi) : inS L r k = false := by
  cases hb : inS L r k
  · rfl
  · obtain ⟨e, he, h3⟩ := List.any_eq_true.mp hb
    have h4 := List.all_eq_true.mp h e he
    simp only [Bool.and_eq_true, beq_iff_eq] at h3
    simp only [Bool.or_eq_true, decide_eq_true_eq] at h4
    omega
theorem ck_in (p : Bool) {j : Nat} (h : j < 14) : 18 ≤ mm_ck p j ∧ mm_ck p j < 46 := by
  cases p
  · show 18 ≤ 32 + j ∧ 32 + j < 46; omega
  · show 18 ≤ 18 + j ∧ 18 + j < 46; omega
theorem fr.ck {L : List (Nat × List Nat)} {I I' : mmI} (h : fr L I I') (hL : noR 18 46 L = true) (p : Bool) {j : Nat} (hj : j < 14) (k : Nat) : I' (mm_ck p j) k = I (mm_ck p j) k := h _ _ (inS_no hL (ck_in p hj).1 (ck_in p hj).2)
def cK (I : mmI) (p : Bool) (K : Nat → Nat) : Prop :=
  okR K ∧ I (mm_ck p 1) 3 = nI (K 3) ∧ I (mm_ck p 5) 3 = nI (K 4) ∧ I (mm_ck p 8) 3 = nI (K 5) ∧ I (mm_ck p 0) 6 = nI (K 6) ∧ I (mm_ck p 0) 7 = nI (K 1) ∧ I (mm_ck p 0) 8 = nI (K 2) ∧ I (mm_ck p 0) 10 = nI (K 7) ∧ I (mm_ck p 0) 11 = (if K 8 = 1 then nI (K 9) else -2) ∧
  (∀ c, c < K 3 → I (mm_ck p 2) c = nI (K (13 + c))) ∧ (∀ c, c < K 3 → I (mm_ck p 3) c = nI (K (24 + c))) ∧ (∀ c, c < K 3 → I (mm_ck p 4) c = nI (K (35 + c))) ∧
  (∀ c, c < K 4 → I (mm_ck p 6) c = nI (K (46 + c))) ∧ (∀ c, c < K 4 → I (mm_ck p 7) c = nI (K (51 + c))) ∧ (∀ c, c < K 5 → I (mm_ck p 9) c = nI (K (56 + c))) ∧ (∀ c, c < K 5 → I (mm_ck p 10) c = nI (K (60 + c))) ∧
  (∀ c, c < K 6 → I (mm_ck p 11) c = nI (K (64 + c))) ∧ (∀ c, c < K 6 → I (mm_ck p 12) c = nI (K (68 + c))) ∧ (∀ k, k < 3 → I (mm_ck p 13) k = nI (if K 7 = 1 then K (10 + k) else if k = 1 then 1 else 0))
theorem cK.of {I I' : mmI} {p : Bool} {K : Nat → Nat} (h : cK I p K) (hf : ∀ j k, j < 14 → I' (mm_ck p j) k = I (mm_ck p j) k) : cK I' p K := by
  unfold cK at h ⊢
  simp (disch := decide) only [hf]
  exact h
theorem cK.fr {I I' : mmI} {p : Bool} {K : Nat → Nat} (h : cK I p K) {L : List (Nat × List Nat)} (hf : fr L I I') (hL : noR 18 46 L = true) : cK I' p K := h.of (fun _ k hj => hf.ck hL p hj k)
theorem bset_t {P : Nat → Bool} {n : Nat} (h : P n = true) : bset P (n + 1) = bset P n ||| 2 ^ n := by rw [bset, if_pos h]
theorem bset_f {P : Nat → Bool} {n : Nat} (h : P n = false) : bset P (n + 1) = bset P n := by
  rw [bset, if_neg]; rw [h]; decide
section CA
variable {d n1 n2 : Nat} {fl : Nat → Bool} {p q : Bool} {ad : Nat → Nat} {I : mmI} {J : mmJ} {Q : mmQ} {K : Nat → Nat}
theorem ct_7 (h : cK I p K) {c x y : Nat} (hc : c < K 3) (k : Q (some (.int (bI (nrXY K c x y)))) ((fl, n1, n2, p, q, ad), I, J)) : mm_wc (d + 1) 7 [.ref 6, .int (nI c), .int (nI x), .int (nI y)] ((fl, n1, n2, p, q, ad), I, J) Q := by
  obtain ⟨ok, h1, -, -, -, h5, -, -, -, hx, hy, -⟩ := h
  have h3 := ok.c
  refine fx_7 ?_
  rw [z_ix (by omega), hx c hc, hy c hc, h5]
  unfold nrXY at k
  refine ⟨z_in (by omega) (by decide), z_in (by omega) (by decide), fun e => ?_, fun e => ?_⟩
  · rw [decide_eq_false (fun z => z e)] at k; exact k
  · rw [decide_eq_true e] at k; exact k
def litB (K : Nat → Nat) (c : Nat) : Nat := bset (fun o => (K (35 + o) == 2) && nrM K o c) (K 3)
theorem lp_6 (h : cK I p K) {c : Nat} (hc : c < K 3) (k : Q (some (.int (nI (litB K c)))) ((fl, n1, n2, p, q, ad), I, J)) : ∀ n o, n + o = K 3 → mm_w Q (mm_wc (d + 1)) bk_6 4 [some (.ref 6), some (.int (nI c)), some (.int (nI (bset (fun o => (K (35 + o) == 2) && nrM K o c) o))), some (.int (nI o))] [] ((fl, n1, n2, p, q, ad), I, J) := by
  have h' := h
  obtain ⟨ok, h1, -, -, -, h5, -, -, -, hx, hy, hk, -⟩ := h
  have h3 := ok.c
  intro n
  induction n with
  | zero =>
    intro o ho
    have : o = K 3 := by omega
    subst this
    refine fx_6_4 ⟨fun _ => k, fun e => absurd ?_ e⟩
    rw [h1, z_le (by omega) (by omega)]; exact Nat.le_refl _
  | succ n ih =>
    intro o ho
    have hko := ok.xy (k := 35 + o) (by omega) (by omega)
    have ihc := ih (o + 1) (by omega)
    refine fx_6_4 ?_
    rw [h1, z_le (by omega) (by omega), z_eq (by omega) (by omega), z_ix (by omega), z_ix (by omega), hk o (by omega), hx c hc, hy c hc, z_eq (by omega) (by decide), z_bit (by omega), z_or, z_add]
    refine ⟨fun e => absurd e (by omega), fun _ => ⟨fun e => ?_, fun e => ⟨z_in (by omega) (by decide), fun e2 => ?_, fun e2 => ⟨z_in (by omega) (by decide), z_in (by omega) (by decide), ct_7 h' (by omega) ⟨_, _, _, rfl, rfl, ?_⟩⟩⟩⟩⟩
    · rw [bset_f (by simp [nrM, e])] at ihc; exact ihc
    · rw [bset_f (by simp [e2])] at ihc; exact ihc
    · rw [bI_0]
      refine ⟨fun e3 => ?_, fun e3 => ?_⟩
      · rw [bset_f (by simp [nrM, e3])] at ihc; exact ihc
      · have e3 : nrXY K o (K (13 + c)) (K (24 + c)) = true := by simpa using e3
        rw [bset_t (by simp [nrM, e3, e2, e])] at ihc; exact ihc
theorem ct_6 (h : cK I p K) {c : Nat} (hc : c < K 3) (k : Q (some (.int (nI (litB K c)))) ((fl, n1, n2, p, q, ad), I, J)) : mm_wc (d + 2) 6 [.ref 6, .int (nI c)] ((fl, n1, n2, p, q, ad), I, J) Q := fx_6 (lp_6 h hc k (K 3) 0 (by omega))
theorem lp_8 (h : cK I p K) {c : Nat} (hc : c < K 3) (k : Q (some (.int (nI (nearM K (K 3) c)))) ((fl, n1, n2, p, q, ad), I, J)) : ∀ n o, n + o = K 3 → mm_w Q (mm_wc (d + 1)) bk_8 19 [some (.ref 6), some (.int (nI c)), some (.int (nI (nearM K o c))), some (.int (nI o))] [] ((fl, n1, n2, p, q, ad), I, J) := by
  have h' := h
  obtain ⟨ok, h1, -, -, -, h5, -, -, -, hx, hy, hk, -⟩ := h
  have h3 := ok.c
  intro n
  induction n with
  | zero =>
    intro o ho
    have : o = K 3 := by omega
    subst this
    refine fx_8_19 ⟨fun _ => k, fun e => absurd ?_ e⟩
    rw [h1, z_le (by omega) (by omega)]; exact Nat.le_refl _
  | succ n ih =>
    intro o ho
    have ihc := ih (o + 1) (by omega)
    refine fx_8_19 ?_
    rw [h1, z_le (by omega) (by omega), z_eq (by omega) (by omega), z_ix (by omega), hx o (by omega), hy o (by omega), z_bit (by omega), z_or, z_add]
    refine ⟨fun e => absurd e (by omega), fun _ => ⟨fun e => ?_, fun e => ⟨z_in (by omega) (by decide), z_in (by omega) (by decide), ct_7 h' (by omega) ⟨_, _, _, rfl, rfl, ?_⟩⟩⟩⟩
    · simp only [nearM, bset, nrM, e] at ihc
      simpa [nearM, e] using ihc
    · rw [bI_0]
      refine ⟨fun e3 => ?_, fun e3 => ?_⟩
      · simp only [nearM, bset, nrM, e3] at ihc
        simpa [nearM, nrM] using ihc
      · have e3 : nrXY K c (K (13 + o)) (K (24 + o)) = true := by simpa using e3
        have e' : c ≠ o := fun z => e z.symm
        simp only [nearM, bset, nrM, e3] at ihc
        simpa [nearM, nrM, e'] using ihc
theorem ct_8 (h : cK I p K) {c : Nat} (hc : c < K 3) (k : Q (some (.int (nI (if K (35 + c) = 2 then nearM K (K 3) c else 0)))) ((fl, n1, n2, p, q, ad), I, J)) : mm_wc (d + 2) 8 [.ref 6, .int (nI c)] ((fl, n1, n2, p, q, ad), I, J) Q := by
  have h' := h
  obtain ⟨ok, h1, -, -, -, h5, -, -, -, hx, hy, hk, -⟩ := h
  have h3 := ok.c
  have hkc := ok.xy (k := 35 + c) (by omega) (by omega)
  refine fx_8 ?_
  rw [z_ix (by omega), hk c hc, z_eq (by omega) (by decide)]
  refine ⟨z_in (by omega) (by decide), fun e => ?_, fun e => ?_⟩
  · rw [if_pos e] at k
    exact lp_8 h' hc k (K 3) 0 (by omega)
  · rw [if_neg e] at k; exact k
theorem ct_9 (h : cK I p K) {a b w : Nat} (k : Q (some (.int (nI (16 * (K 4 * a + b) + w)))) ((fl, n1, n2, p, q, ad), I, J)) : mm_wc (d + 1) 9 [.ref 6, .int (nI a), .int (nI b), .int (nI w)] ((fl, n1, n2, p, q, ad), I, J) Q := by
  refine fx_9 ?_
  rw [h.2.2.1]
  simp only [z_mul, z_add]
  exact k
theorem ct_10 {b : Nat} (hb : b < 2 ^ 31) (k : Q (some (.int (nI (b % 16)))) ((fl, n1, n2, p, q, ad), I, J)) : mm_wc (d + 1) 10 [.ref 6, .int (nI b)] ((fl, n1, n2, p, q, ad), I, J) Q := by
  refine fx_10 ?_
  rw [z_rem hb (by decide) (by decide)]
  exact k
theorem ct_11 (h : cK I p K) {b : Nat} (hb : b < 2 ^ 31) (k : Q (some (.int (nI (b / 16 % K 4)))) ((fl, n1, n2, p, q, ad), I, J)) : mm_wc (d + 1) 11 [.ref 6, .int (nI b)] ((fl, n1, n2, p, q, ad), I, J) Q := by
  have h4 := h.1.p
  refine fx_11 ?_
  rw [h.2.2.1, z_div hb (by decide) (by decide), z_rem (by omega) (by omega) (by omega), z_eq (by omega) (by decide)]
  exact ⟨fun _ => ⟨fun e => nI_ne0 (by omega) (by omega) e, k⟩, fun e => absurd e (by omega)⟩
theorem ct_12 (h : cK I p K) {b : Nat} (hb : b < 2 ^ 31) (k : Q (some (.int (nI (b / 16 / K 4)))) ((fl, n1, n2, p, q, ad), I, J)) : mm_wc (d + 1) 12 [.ref 6, .int (nI b)] ((fl, n1, n2, p, q, ad), I, J) Q := by
  have h4 := h.1.p
  refine fx_12 ?_
  rw [h.2.2.1, z_div hb (by decide) (by decide), z_div (by omega) (by omega) (by omega), z_eq (by omega) (by decide)]
  exact ⟨fun _ => ⟨fun e => nI_ne0 (by omega) (by omega) e, k⟩, fun e => absurd e (by omega)⟩
/-- the ways -/
def cWy (I : mmI) : Prop := (∀ j, j < 16 → I 66 j = wX j) ∧ ∀ j, j < 16 → I 67 j = wY j
theorem ct_2 (h : cK I p K) (hw : cWy I) {b x y : Nat} {t : Bool} (hb : b < nB K) (k : Q (some (.int (bI (inXY K b x y t)))) ((fl, n1, n2, p, q, ad), I, J)) : mm_wc (d + 2) 2 [.ref 6, .int (nI b), .int (nI x), .int (nI y), .int (bI t)] ((fl, n1, n2, p, q, ad), I, J) Q := by
  have hK := h
  obtain ⟨ok, -, -, -, -, -, -, -, -, -, -, -, hpx, hpy, -, -, hre, hsp, -⟩ := h
  have hB := nB_le ok
  obtain ⟨b1, b2⟩ := bd_ix ok hb
  have h4 := ok.p
  have h6 := ok.h
  refine fx_2k ?_
  refine ct_11 hK (by omega) ⟨_, _, _, rfl, rfl, ?_⟩
  rw [z_ix (by omega), hpx _ b1, hpy _ b1]
  refine ⟨z_in (by omega) (by decide), z_in (by omega) (by decide), ?_⟩
  unfold inXY at k
  generalize nI x - nI (K (46 + b / 16 % K 4)) = xx at *
  generalize nI y - nI (K (51 + b / 16 % K 4)) = yy at *
  have s0 : ∀ v : Bool, Q (some (.int (bI v))) ((fl, n1, n2, p, q, ad), I, J) → mm_w Q (mm_wc (d + 1)) bk_2 193 [none, none, none, none, none, none, none, none, none, none, none, none, none] [.int (bI v)] ((fl, n1, n2, p, q, ad), I, J) := fun v hv => fx_2k_193 ⟨bI_01 v, hv⟩
  have key : ¬ (xx = nI 0 ∧ yy = nI 0) → mm_w Q (mm_wc (d + 1)) bk_2 53 [some (.ref 6), some (.int (nI b)), none, none, some (.int (bI t)), none, some (.int xx), some (.int yy), none, none, none, none, none] [] ((fl, n1, n2, p, q, ad), I, J) := by
    intro hne
    refine fx_2k_53 ?_
    refine ct_10 (by omega) ⟨_, _, _, rfl, rfl, ?_⟩
    refine ct_12 hK (by omega) ⟨_, _, _, rfl, rfl, ?_⟩
    have h16 : b % 16 < 16 := by omega
    rw [z_ix (by omega), hw.1 _ h16, hw.2 _ h16, bI_0]
    have fin : ∀ (kk : Int32), kk = (if t = true then nI 4 else nI 1) → mm_w Q (mm_wc (d + 1)) bk_2 130 [some (.ref 6), none, none, none, none, none, none, none, none, some (.int (nI (b / 16 / K 4))), some (.int (xx * wX (b % 16) + yy * wY (b % 16))), some (.int (wX (b % 16) * yy - wY (b % 16) * xx)), none] [.int kk, .int (xx * xx + yy * yy)] ((fl, n1, n2, p, q, ad), I, J) := by
      intro kk hkk
      unfold gIn at k
      have e0 : (xx = nI 0 ∧ yy = nI 0) = False := propext ⟨hne, False.elim⟩
      rw [hkk]
      refine fx_2k_130 ⟨fun e => fx_2k_192 (s0 false ?_), fun e => sx_abs ⟨_, _, _, rfl, rfl, ?_⟩⟩
      · rw [decide_eq_false (fun z => z.elim hne (fun z => z.1 e))] at k; exact k
      · rw [z_ix (by omega), hsp _ b2, hre _ b2]
        change Q (some (.int (bI _))) _ at k
        simp only [e0, false_or, e, not_false_eq_true, true_and, gab] at k
        refine ⟨z_in (by omega) (by decide), fun e2 => fx_2k_192 (s0 false ?_), fun e2 => ⟨z_in (by omega) (by decide), z_in (by omega) (by decide), fun e3 => fx_2k_192 (s0 false ?_), fun e3 => s0 true ?_⟩⟩
        · rw [decide_eq_false (fun z => z.1 e2)] at k; exact k
        · rw [decide_eq_false (fun z => z.2 e3)] at k; exact k
        · rw [decide_eq_true ⟨e2, e3⟩] at k; exact k
    refine ⟨z_in h16 (by decide), z_in h16 (by decide), z_in h16 (by decide), z_in h16 (by decide), fun e => fin _ (by rw [e]; rfl), fun e => fin _ (by have e : t = true := by simpa using e
                                                                                                                                                        rw [e]; rfl)⟩
  refine ⟨fun e => key (fun z => e z.1), fun e => ⟨fun e2 => key (fun z => e2 z.2), fun e2 => ?_⟩⟩
  unfold gIn at k
  rw [decide_eq_true (.inl ⟨e, e2⟩)] at k; exact k
end CA
