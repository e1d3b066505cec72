/-! fans and nearness -/
def wX (j : Nat) : Int32 := ([1, 2, 1, 1, 0, -1, -1, -2, -1, -2, -1, -1, 0, 1, 1, 2] : List Int32).getD j 0
def wY (j : Nat) : Int32 := ([0, 1, 1, 2, 1, 2, 1, 1, 0, -1, -1, -2, -1, -2, -1, -1] : List Int32).getD j 0
def gab (z : Int32) : Int32 := if nI 0 ≤ z then z else 0 - z
def gIn (x y wx wy sp re : Int32) (tall : Bool) : Bool :=
  decide ((x = nI 0 ∧ y = nI 0) ∨ (¬ (x * wx + y * wy ≤ nI 0) ∧ ¬ (sp * (x * wx + y * wy) < nI 10 * gab (wx * y - wy * x)) ∧ ¬ (re * re < (x * x + y * y) * (if tall = true then nI 4 else nI 1))))
/-- is what lies at x, y in the fan of the breath b -/
def inXY (R : Nat → Nat) (b x y : Nat) (tall : Bool) : Bool := gIn (nI x - nI (R (46 + b / 16 % R 4))) (nI y - nI (R (51 + b / 16 % R 4))) (wX (b % 16)) (wY (b % 16)) (nI (R (68 + b / 16 / R 4))) (nI (R (64 + b / 16 / R 4))) tall
def inM (R : Nat → Nat) (b c : Nat) : Bool := inXY R b (R (13 + c)) (R (24 + c)) (R (35 + c) == 1)
def nrXY (R : Nat → Nat) (c x y : Nat) : Bool := decide (¬ nI (R 1) * nI (R 1) < (nI (R (13 + c)) - nI x) * (nI (R (13 + c)) - nI x) + (nI (R (24 + c)) - nI y) * (nI (R (24 + c)) - nI y))
def nrM (R : Nat → Nat) (c e : Nat) : Bool := decide (c ≠ e) && nrXY R c (R (13 + e)) (R (24 + e))
def fanM (R : Nat → Nat) (n b : Nat) : Nat := bset (inM R b) n
def nearM (R : Nat → Nat) (n c : Nat) : Nat := bset (nrM R c) n
theorem bd_ix {R : Nat → Nat} (ok : okR R) {b : Nat} (hb : b < nB R) : b / 16 % R 4 < R 4 ∧ b / 16 / R 4 < R 6 := by
  have h4 := ok.p
  refine ⟨Nat.mod_lt _ (by omega), ?_⟩
  unfold nB at hb
  rw [Nat.div_lt_iff_lt_mul (by omega), Nat.div_lt_iff_lt_mul (by omega)]
  rw [Nat.mul_comm (R 6), Nat.mul_comm _ 16, ← Nat.mul_assoc]; exact hb
section MF
variable {d n1 n2 : Nat} {fl : Nat → Bool} {p q : Bool} {ad : Nat → Nat} {I : mmI} {J : mmJ} {Q : mmQ} {R : Nat → Nat}
theorem is_219 {b : Bool} (h : Q (some (.int (bI b))) ((fl, n1, n2, p, q, ad), I, J)) : mm_w Q (mm_wc d) bk_209 219 [none, none, none, none, none, none, none, none, none] [.int (bI b)] ((fl, n1, n2, p, q, ad), I, J) := fx_209k_219 ⟨bI_01 b, h⟩
theorem is_174 (hR : mR I R) {hh : Nat} (hp : hh < R 6) {dt ab fr9 : Int32} (h : Q (some (.int (bI (decide (¬ (nI (R (68 + hh)) * dt < nI 10 * ab) ∧ ¬ (nI (R (64 + hh)) * nI (R (64 + hh)) < fr9)))))) ((fl, n1, n2, p, q, ad), I, J)) :
    mm_w Q (mm_wc d) bk_209 174 [some (.ref 46), none, none, some (.int (nI hh)), none, none, some (.int dt), none, some (.int fr9)] [.int ab, .int (nI 10)] ((fl, n1, n2, p, q, ad), I, J) := by
  have h6 := hR.1.h
  refine fx_209k_174 ?_
  rw [z_add, z_add, z_ix (by omega), z_ix (by omega), hR.2 (68 + hh) (by omega), hR.2 (64 + hh) (by omega)]
  refine ⟨z_in (by omega) (by decide), fun e => fx_209k_218 (is_219 (b := false) ?_), fun e => ⟨z_in (by omega) (by decide), z_in (by omega) (by decide), fun e2 => fx_209k_218 (is_219 (b := false) ?_), fun e2 => is_219 (b := true) ?_⟩⟩
  · rw [decide_eq_false (fun z => z.1 e)] at h; exact h
  · rw [decide_eq_false (fun z => z.2 e2)] at h; exact h
  · rw [decide_eq_true ⟨e, e2⟩] at h; exact h
theorem neg_z (z : Int32) : -z = 0 - z := by simp
theorem ct_209 (hR : mR I R) (hx : ∀ j, j < 16 → I 55 j = wX j) (hy : ∀ j, j < 16 → I 56 j = wY j) {b c : Nat} (hb : b < nB R) (hc : c < 11) (h : Q (some (.int (bI (inM R b c)))) ((fl, n1, n2, p, q, ad), I, J)) : mm_wc (d + 2) 209 [.ref 46, .int (nI b), .int (nI c)] ((fl, n1, n2, p, q, ad), I, J) Q := by
  have hB := nB_le hR.1
  obtain ⟨b1, b2⟩ := bd_ix hR.1 hb
  have h4 := hR.1.p
  have h6 := hR.1.h
  refine fx_209k ?_
  refine ct_207 hR (by omega) ⟨_, _, _, rfl, rfl, ?_⟩
  rw [z_add, z_add, z_ix (by omega), z_ix (by omega)]
  refine ⟨z_in (by omega) (by decide), ct_208 hR (by omega) ⟨_, _, _, rfl, rfl, ?_⟩⟩
  rw [z_add, z_ix (by omega)]
  refine ⟨z_in (by omega) (by decide), z_in (by omega) (by decide), ct_208 hR (by omega) ⟨_, _, _, rfl, rfl, ?_⟩⟩
  rw [z_add, z_ix (by omega), hR.2 (13 + c) (by omega), hR.2 (24 + c) (by omega), hR.2 (46 + b / 16 % R 4) (by omega), hR.2 (51 + b / 16 % R 4) (by omega)]
  refine ⟨z_in (by omega) (by decide), ?_⟩
  unfold inM inXY at h
  generalize nI (R (13 + c)) - nI (R (46 + b / 16 % R 4)) = x at *
  generalize nI (R (24 + c)) - nI (R (51 + b / 16 % R 4)) = y at *
  have key : ¬ (x = nI 0 ∧ y = nI 0) → mm_w Q (mm_wc (d + 1)) bk_209 68 [some (.ref 46), some (.int (nI b)), some (.int (nI c)), some (.int (nI (b / 16 / R 4))), some (.int x), some (.int y), none, none, none] [] ((fl, n1, n2, p, q, ad), I, J) := by
    intro hne
    refine fx_209k_68 ?_
    have hk := hR.1.xy (k := 35 + c) (by omega) (by omega)
    rw [z_rem (by omega) (by decide) (by decide), z_add, z_ix (by omega), z_ix (by omega), hR.2 (35 + c) (by omega), hx _ (by omega), hy _ (by omega), z_eq (by omega) (by decide)]
    have h16 : b % 16 < 16 := by omega
    have fin : ∀ (t : Bool) (kk : Int32), (R (35 + c) == 1) = t → kk = (if t = true then nI 4 else nI 1) → mm_w Q (mm_wc (d + 1)) bk_209 151 [some (.ref 46), none, none, some (.int (nI (b / 16 / R 4))), none, none, some (.int (x * wX (b % 16) + y * wY (b % 16))), some (.int (wX (b % 16) * y - wY (b % 16) * x)), none] [.int kk, .int (x * x + y * y)] ((fl, n1, n2, p, q, ad), I, J) := by
      intro t kk ht hkk
      rw [ht] at h
      unfold gIn at h
      have e0 : (x = nI 0 ∧ y = nI 0) = False := propext ⟨hne, False.elim⟩
      rw [hkk]
      refine fx_209k_151 ⟨fun e => fx_209k_218 (is_219 (b := false) ?_), fun e => ⟨fun e2 => is_174 hR b2 ?_, fun e2 => is_174 hR b2 ?_⟩⟩
      · rw [decide_eq_false (fun z => z.elim hne (fun z => z.1 e))] at h; exact h
      · simp only [e0, false_or, e, not_false_eq_true, true_and, gab, e2, if_true] at h; exact h
      · rw [neg_z]
        simp only [e0, false_or, e, not_false_eq_true, true_and, gab, e2, if_false] at h; exact h
    exact ⟨z_in h16 (by decide), z_in h16 (by decide), z_in h16 (by decide), z_in h16 (by decide), z_in (by omega) (by decide), fun e => fin false _ (by simpa using e) rfl, fun e => fin true _ (by simpa using e) rfl⟩
  refine ⟨fun e => key (fun z => e z.1), fun e => ⟨fun e2 => key (fun z => e2 z.2), fun e2 => ?_⟩⟩
  unfold gIn at h
  rw [decide_eq_true (.inl ⟨e, e2⟩)] at h; exact h
abbrev lfS : List (Nat × List Nat) := [(53, []), (54, [])]
theorem lf_19 {I0 : mmI} (hR0 : mR I0 R) (hx : ∀ j, j < 16 → I0 55 j = wX j) (hy : ∀ j, j < 16 → I0 56 j = wY j) {b : Nat} (hb : b < nB R) (k : ∀ I, fr lfS I0 I → I 53 b = nI (fanM R 11 b) → (∀ b', b' < b → I 53 b' = nI (fanM R 11 b')) → mm_w Q (mm_wc (d + 2)) bk_210 2 [some (.ref 46), some (.int (nI (b + 1))), none, none, none] [] ((fl, n1, n2, p, q, ad), I, J)) :
    ∀ n c, n + c = 11 → ∀ I, fr lfS I0 I → I 53 b = nI (fanM R c b) → (∀ b', b' < b → I 53 b' = nI (fanM R 11 b')) → mm_w Q (mm_wc (d + 2)) bk_210 19 [some (.ref 46), some (.int (nI b)), some (.int (nI c)), none, none] [] ((fl, n1, n2, p, q, ad), I, J) := by
  have hB := nB_le hR0.1
  intro n
  induction n with
  | zero =>
    intro c hc I hf h1 h2
    have : c = 11 := by omega
    subst this
    refine fx_210_19 ⟨fun _ => ?_, fun e => absurd (by rw [z_le (by decide) (by decide)]; omega) e⟩
    rw [z_add]
    exact k I hf h1 h2
  | succ n ih =>
    intro c hc I hf h1 h2
    have hR : mR I R := hR0.of (fun k _ => hf 49 k rfl)
    refine fx_210_19 ?_
    rw [z_le (by decide) (by omega), z_ix (by omega)]
    refine ⟨fun e => absurd e (by omega), fun _ => ⟨z_in (by omega) (by decide), ?_⟩⟩
    refine ct_209 hR (fun j hj => by rw [hf 55 j rfl]; exact hx j hj) (fun j hj => by rw [hf 56 j rfl]; exact hy j hj) hb (by omega) ⟨_, _, _, rfl, rfl, ?_⟩
    rw [bI_0, h1, z_bit (by omega), z_or, z_or, z_add, Nat.or_zero]
    have nxt : ∀ v, v = fanM R (c + 1) b → mm_w Q (mm_wc (d + 2)) bk_210 19 [some (.ref 46), some (.int (nI b)), some (.int (nI (c + 1))), none, none] [] ((fl, n1, n2, p, q, ad), mm_up I 53 b (nI v), J) := fun v hv => ih (c + 1) (by omega) _ (hf.up rfl) (by rw [up_s, hv]) (fun b' hb' => by rw [up_k (by omega)]; exact h2 b' hb')
    refine ⟨fun e => ⟨z_in (by omega) (by decide), nxt _ ?_⟩, fun e => ⟨z_in (by omega) (by decide), nxt _ ?_⟩⟩
    · simp [fanM, bset, e]
    · simp [fanM, bset, e]
theorem lf_2 {I0 : mmI} (hR0 : mR I0 R) (hx : ∀ j, j < 16 → I0 55 j = wX j) (hy : ∀ j, j < 16 → I0 56 j = wY j) (k : ∀ I, fr lfS I0 I → (∀ b, b < nB R → I 53 b = nI (fanM R 11 b)) → mm_w Q (mm_wc (d + 2)) bk_210 64 [some (.ref 46), some (.int (nI 0)), none, none, none] [] ((fl, n1, n2, p, q, ad), I, J)) :
    ∀ n b, n + b = nB R → ∀ I, fr lfS I0 I → (∀ b', b' < b → I 53 b' = nI (fanM R 11 b')) → mm_w Q (mm_wc (d + 2)) bk_210 2 [some (.ref 46), some (.int (nI b)), none, none, none] [] ((fl, n1, n2, p, q, ad), I, J) := by
  have hB := nB_le hR0.1
  intro n
  induction n with
  | zero =>
    intro b hb I hf h1
    have hR : mR I R := hR0.of (fun k _ => hf 49 k rfl)
    refine fx_210_2 (ct_206 hR ⟨_, _, _, rfl, rfl, ?_⟩)
    rw [z_le (by omega) (by omega)]
    exact ⟨fun _ => k I hf (fun b' hb' => h1 b' (by omega)), fun e => absurd (by omega) e⟩
  | succ n ih =>
    intro b hb I hf h1
    have hR : mR I R := hR0.of (fun k _ => hf 49 k rfl)
    refine fx_210_2 (ct_206 hR ⟨_, _, _, rfl, rfl, ?_⟩)
    rw [z_le (by omega) (by omega), z_ix (by omega)]
    refine ⟨fun e => absurd e (by omega), fun _ => ⟨z_in (by omega) (by decide), ?_⟩⟩
    refine lf_19 hR0 hx hy (by omega) (fun I hf h2 h3 => ih (b + 1) (by omega) I hf (fun b' hb' => ?_)) 11 0 rfl _ (hf.up rfl) (by rw [up_s]; rfl) (fun b' hb' => by rw [up_k (by omega)]; exact h1 b' hb')
    by_cases e : b' = b
    · subst e; exact h2
    · exact h3 b' (by omega)
theorem lf_79 {I0 : mmI} (hR0 : mR I0 R) {c : Nat} (hc : c < 11) (k : ∀ I, fr lfS I0 I → I 54 c = nI (nearM R 11 c) → (∀ c', c' < c → I 54 c' = nI (nearM R 11 c')) → (∀ b, I 53 b = I0 53 b) → mm_w Q (mm_wc (d + 2)) bk_210 64 [some (.ref 46), some (.int (nI (c + 1))), none, none, none] [] ((fl, n1, n2, p, q, ad), I, J)) :
    ∀ n e, n + e = 11 → ∀ I, fr lfS I0 I → I 54 c = nI (nearM R e c) → (∀ c', c' < c → I 54 c' = nI (nearM R 11 c')) → (∀ b, I 53 b = I0 53 b) → mm_w Q (mm_wc (d + 2)) bk_210 79 [some (.ref 46), some (.int (nI c)), some (.int (nI e)), none, none] [] ((fl, n1, n2, p, q, ad), I, J) := by
  intro n
  induction n with
  | zero =>
    intro e he I hf h1 h2 h3
    have : e = 11 := by omega
    subst this
    refine fx_210_79 ⟨fun _ => ?_, fun e => absurd (by rw [z_le (by decide) (by decide)]; omega) e⟩
    rw [z_add]
    exact k I hf h1 h2 h3
  | succ n ih =>
    intro e he I hf h1 h2 h3
    have hR : mR I R := hR0.of (fun k _ => hf 49 k rfl)
    refine fx_210_79 ?_
    simp (disch := omega) only [z_le, z_add, z_ix, hR.2, z_eq, h1, z_bit, z_or, Nat.or_zero]
    have nxt : ∀ v, v = nearM R (e + 1) c → mm_w Q (mm_wc (d + 2)) bk_210 79 [some (.ref 46), some (.int (nI c)), some (.int (nI (e + 1))), none, none] [] ((fl, n1, n2, p, q, ad), mm_up I 54 c (nI v), J) := fun v hv => ih (e + 1) (by omega) _ (hf.up rfl) (by rw [up_s, hv]) (fun b' hb' => by rw [up_k (by omega)]; exact h2 b' hb') (fun b => by rw [up_c (by decide)]; exact h3 b)
    have hi : ∀ j, j < 11 → vp_in (nI j) 11 := fun j hj => z_in hj (by decide)
    refine ⟨fun e => absurd e (by omega), fun _ => ⟨z_in (by omega) (by decide), z_in (by omega) (by decide), z_in (by omega) (by decide), z_in (by omega) (by decide), hi c hc, fun g => ⟨hi c hc, nxt _ ?_⟩, fun g => ⟨fun g2 => ⟨hi c hc, nxt _ ?_⟩, fun g2 => ⟨hi c hc, nxt _ ?_⟩⟩⟩⟩
    · simp [nearM, bset, nrM, g]
    · simp [nearM, bset, nrM, nrXY, g, g2]
    · simp [nearM, bset, nrM, nrXY, g, g2]
theorem lf_64 {I0 : mmI} (hR0 : mR I0 R) (k : ∀ I, fr lfS I0 I → (∀ c, c < 11 → I 54 c = nI (nearM R 11 c)) → (∀ b, I 53 b = I0 53 b) → Q none ((fl, n1, n2, p, q, ad), I, J)) :
    ∀ n c, n + c = 11 → ∀ I, fr lfS I0 I → (∀ c', c' < c → I 54 c' = nI (nearM R 11 c')) → (∀ b, I 53 b = I0 53 b) → mm_w Q (mm_wc (d + 2)) bk_210 64 [some (.ref 46), some (.int (nI c)), none, none, none] [] ((fl, n1, n2, p, q, ad), I, J) := by
  intro n
  induction n with
  | zero =>
    intro c hc I hf h1 h2
    refine fx_210_64 ?_
    rw [z_le (by decide) (by omega)]
    exact ⟨fun _ => k I hf (fun c' hc' => h1 c' (by omega)) h2, fun e => absurd (by omega) e⟩
  | succ n ih =>
    intro c hc I hf h1 h2
    refine fx_210_64 ?_
    rw [z_le (by decide) (by omega), z_ix (by omega)]
    refine ⟨fun e => absurd e (by omega), fun _ => ⟨z_in (by omega) (by decide), ?_⟩⟩
    refine lf_79 hR0 (by omega) (fun I hf g1 g2 g3 => ih (c + 1) (by omega) I hf (fun c' hc' => ?_) g3) 11 0 rfl _ (hf.up rfl) (by rw [up_s]; rfl) (fun b' hb' => by rw [up_k (by omega)]; exact h1 b' hb') (fun b => by rw [up_c (by decide)]; exact h2 b)
    by_cases e : c' = c
    · subst e; exact g1
    · exact g2 c' (by omega)
theorem ct_210 {I0 : mmI} (hR0 : mR I0 R) (hx : ∀ j, j < 16 → I0 55 j = wX j) (hy : ∀ j, j < 16 → I0 56 j = wY j) (k : ∀ I, fr lfS I0 I → (∀ b, b < nB R → I 53 b = nI (fanM R 11 b)) → (∀ c, c < 11 → I 54 c = nI (nearM R 11 c)) → Q none ((fl, n1, n2, p, q, ad), I, J)) : mm_wc (d + 3) 210 [.ref 46] ((fl, n1, n2, p, q, ad), I0, J) Q := by
  refine fx_210 (lf_2 hR0 hx hy (fun I hf h1 => ?_) (nB R) 0 (by omega) I0 fr.rf (fun b hb => absurd hb (by omega)))
  refine lf_64 (I0 := I) (hR0.of (fun k _ => hf 49 k rfl)) (fun I' hf' g1 g2 => k I' (hf.tr hf') (fun b hb => by rw [g2 b]; exact h1 b hb) g1) 11 0 rfl I fr.rf (fun c hc => absurd hc (by omega)) (fun _ => rfl)
end MF
