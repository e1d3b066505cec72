/-! the model's teams -/
section TM
variable {d n1 n2 : Nat} {fl : Nat → Bool} {p q : Bool} {ad : Nat → Nat} {J : mmJ} {Q : mmQ} {R F N K : Nat → Nat} {th s : Nat} {I : mmI}
/-- what is marked can be -/
def tS (K : Nat → Nat) (s : Nat) (I : mmI) : Prop := ∀ S z, S < 2 ^ K 6 → z < 16384 → I 62 (16384 * S + z) = nI 0 ∨ (I 62 (16384 * S + z) = nI 1 ∧ ∃ m, tch K s S m ∧ std m = z)
/-- before (S, z, h, b) -/
def tD (S0 z0 h0 b0 S z h b : Nat) : Prop := S < S0 ∨ (S = S0 ∧ (z < z0 ∨ (z = z0 ∧ (h < h0 ∨ (h = h0 ∧ b < b0)))))
def tC (K : Nat → Nat) (s : Nat) (I : mmI) (S0 z0 h0 b0 : Nat) : Prop := I 62 (std s) = nI 1 ∧ ∀ S m h b, tD S0 z0 h0 b0 S (std m) h b → S < 2 ^ K 6 → tch K s S m → h < K 6 → S.testBit h = false → b < nB K → b / 16 / K 4 = h → I 62 (16384 * (S ||| 2 ^ h) + std (zst K m b)) = nI 1
/-- the best so far -/
def tB (K : Nat → Nat) (s S0 z0 : Nat) (r : Int32) : Prop := (∃ S, r = nI S ∧ S ≤ S0 ∧ tdone K s S ∧ (∀ S', S' < S0 → tdone K s S' → zcnt S < zcnt S' ∨ (zcnt S = zcnt S' ∧ S ≤ S')) ∧ (z0 = 0 ∨ (tdone K s S0 → zcnt S ≤ zcnt S0)) ∧ (z0 = 0 → S < S0)) ∨ (r = -2 ∧ (∀ S', S' < S0 → ¬ tdone K s S') ∧ (z0 = 0 ∨ ¬ tdone K s S0))
theorem tC_all {S0 z0 h0 b0 : Nat} (h : tC K s I S0 z0 h0 b0) (hS : S0 < 2 ^ K 6) {m : Nat} (hm : tch K s S0 m) : I 62 (16384 * S0 + std m) = nI 1 := by
  by_cases e : S0 = 0
  · subst e
    rw [tch_0.mp hm, Nat.mul_zero, Nat.zero_add]
    exact h.1
  · obtain ⟨g, m', b, h1, h2, h3, h4, h5, rfl⟩ := (tch_s e).mp hm
    have hl := sd_ls h2
    have := h.2 (sd S0 (2 ^ g)) m' g b (.inl hl) (by omega) h3 h1 (by rw [sd_tb, tb_2pow]; simp) h4 h5
    rw [sd_or h2] at this
    exact this
theorem tC_wk {S0 z0 h0 b0 S1 z1 h1 b1 : Nat} (h : tC K s I S0 z0 h0 b0) (hw : ∀ S m g b, tD S1 z1 h1 b1 S (std m) g b → S < 2 ^ K 6 → tch K s S m → g < K 6 → S.testBit g = false → b < nB K → b / 16 / K 4 = g → tD S0 z0 h0 b0 S (std m) g b) : tC K s I S1 z1 h1 b1 :=
  ⟨h.1, fun S m g b a1 a2 a3 a4 a5 a6 a7 => h.2 S m g b (hw S m g b a1 a2 a3 a4 a5 a6 a7) a2 a3 a4 a5 a6 a7⟩
theorem tm_b {I4 : mmI} {a1 : Int32} {S0 m0 h0 : Nat} (ok : okR K) (hv : vm K False s) (hW : mW I4 R F N th) (hB : nB R = nB K) (e4 : R 4 = K 4) (hz : ∀ b, b < nB K → ∀ m, vm K False m → zstp R th N (F b) m = zst K m b) (hS : S0 < 2 ^ K 6) (hm : tch K s S0 m0) (hh : h0 < K 6) (hb : S0.testBit h0 = false)
    (next : ∀ I', fr [(62, [])] I4 I' → tS K s I' → tC K s I' S0 (std m0) (h0 + 1) 0 → mm_w Q (mm_wc (d + 3)) bk_251 126 [some (.ref 46), some (.int a1), some (.int (nI (2 ^ K 6))), some (.int (nI S0)), some (.int (nI (std m0))), some (.int (nI (h0 + 1))), none] [] ((fl, n1, n2, p, q, ad), I', J)) :
    ∀ n b, n + b = 16 * K 4 * (h0 + 1) → 16 * K 4 * h0 ≤ b → ∀ I', fr [(62, [])] I4 I' → tS K s I' → tC K s I' S0 (std m0) h0 b → mm_w Q (mm_wc (d + 3)) bk_251 164 [some (.ref 46), some (.int a1), some (.int (nI (2 ^ K 6))), some (.int (nI S0)), some (.int (nI (std m0))), some (.int (nI h0)), some (.int (nI b))] [] ((fl, n1, n2, p, q, ad), I', J) := by
  have h4 := ok.p
  have h6 := ok.h
  have vm0 := tch_V ok hv hm
  have hm0 := vm0.lt ok
  have hsl := std_lt hm0
  have hnB : 16 * K 4 * (h0 + 1) ≤ nB K := Nat.mul_le_mul_left _ (by omega)
  have hBl := nB_le ok
  have hp6 : 2 ^ K 6 ≤ 2 ^ 4 := Nat.pow_le_pow_right (by decide) (by omega)
  have e49 : ∀ I', fr [(62, [])] I4 I' → I' 49 4 = nI (K 4) := fun I' hf => by rw [hf 49 4 rfl, hW.1.2 4 (by decide), e4]
  intro n
  induction n with
  | zero =>
    intro b hb1 hb2 I' hf hs hc
    refine fx_251_164 ?_
    rw [e49 I' hf, z_mul, z_add, z_mul, z_le (by omega) (by omega)]
    refine ⟨fun _ => next I' hf hs (tC_wk hc (fun S m g b' a1 a2 a3 a4 a5 a6 a7 => ?_)), fun e => absurd (by omega) e⟩
    have := bh_lo (by omega) a7
    rcases a1 with z | ⟨z1, z2 | ⟨z2, z3 | ⟨z3, z4⟩⟩⟩
    · exact .inl z
    · exact .inr ⟨z1, .inl z2⟩
    · by_cases eg : g = h0
      · subst eg; exact .inr ⟨z1, .inr ⟨z2, .inr ⟨rfl, by omega⟩⟩⟩
      · exact .inr ⟨z1, .inr ⟨z2, .inl (by omega)⟩⟩
    · omega
  | succ n ih =>
    intro b hb1 hb2 I' hf hs hc
    have hbB : b < nB K := by omega
    have v1 : vm K False (zst K m0 b) := cstp_vm ok vm0 (fun i hi => by rw [Nat.zero_testBit] at hi; cases hi)
    have hs1 := std_lt (v1.lt ok)
    have ho := or_lt hS hh
    have hbo : (S0 ||| 2 ^ h0).testBit h0 = true := by rw [Nat.testBit_or, tb_2pow]; simp
    have hW' : mW I' R F N th := hW.of (fun k _ => hf 49 k rfl) (fun k _ => hf 54 k rfl) (hf 46 27 rfl) (fun k _ => hf 53 k rfl)
    have bh : b / 16 / K 4 = h0 := bh_hi (by omega) hb2 (by omega)
    refine fx_251_164 ?_
    rw [e49 I' hf, z_mul, z_add h0 1, z_mul, z_le (by omega) (by omega)]
    refine ⟨fun e => absurd e (by omega), fun _ => ct_238 hW' hm0 (by omega) ⟨_, _, _, rfl, rfl, ?_⟩⟩
    rw [hz b hbB m0 vm0, z_bit (by omega), z_or, z_mul, z_add, z_ix (by omega), z_add]
    refine ⟨z_in (by omega) (by decide), ih (b + 1) (by omega) (by omega) _ (hf.up rfl) (fun S z hS' hz' => ?_) ⟨?_, fun S m g b' a1 a2 a3 a4 a5 a6 a7 => ?_⟩⟩
    · by_cases e : 16384 * S + z = 16384 * (S0 ||| 2 ^ h0) + std (zst K m0 b)
      · have e1 : S = S0 ||| 2 ^ h0 := by omega
        have e2 : z = std (zst K m0 b) := by omega
        rw [e]
        refine .inr ⟨up_s _ _ _ _, zst K m0 b, ?_, e2.symm⟩
        rw [e1]
        refine (tch_s (fun z => ?_)).mpr ⟨h0, m0, b, hh, hbo, by rw [or_sd hb]; exact hm, hbB, bh, rfl⟩
        rw [z, Nat.zero_testBit] at hbo; cases hbo
      · rw [up_k e]; exact hs S z hS' hz'
    · by_cases e : std s = 16384 * (S0 ||| 2 ^ h0) + std (zst K m0 b)
      · rw [e]; exact up_s _ _ _ _
      · rw [up_k e]; exact hc.1
    · by_cases e : 16384 * (S ||| 2 ^ g) + std (zst K m b') = 16384 * (S0 ||| 2 ^ h0) + std (zst K m0 b)
      · rw [e]; exact up_s _ _ _ _
      · rw [up_k e]
        refine hc.2 S m g b' ?_ a2 a3 a4 a5 a6 a7
        rcases a1 with z | ⟨z1, z2 | ⟨z2, z3 | ⟨z3, z4⟩⟩⟩
        · exact .inl z
        · exact .inr ⟨z1, .inl z2⟩
        · exact .inr ⟨z1, .inr ⟨z2, .inl z3⟩⟩
        · by_cases eb : b' = b
          · exfalso
            apply e
            have : m = m0 := std_inj ((tch_V ok hv a3).lt ok) hm0 z2
            rw [z1, z3, eb, this]
          · exact .inr ⟨z1, .inr ⟨z2, .inr ⟨z3, by omega⟩⟩⟩
theorem tm_h {I4 : mmI} {a1 : Int32} {S0 m0 : Nat} (ok : okR K) (hv : vm K False s) (hW : mW I4 R F N th) (hB : nB R = nB K) (e4 : R 4 = K 4) (e6 : R 6 = K 6) (hz : ∀ b, b < nB K → ∀ m, vm K False m → zstp R th N (F b) m = zst K m b) (hS : S0 < 2 ^ K 6) (hm : tch K s S0 m0)
    (next : ∀ I', fr [(62, [])] I4 I' → tS K s I' → tC K s I' S0 (std m0 + 1) 0 0 → mm_w Q (mm_wc (d + 3)) bk_251 69 [some (.ref 46), some (.int a1), some (.int (nI (2 ^ K 6))), some (.int (nI S0)), some (.int (nI (std m0 + 1))), none, none] [] ((fl, n1, n2, p, q, ad), I', J)) :
    ∀ n h, n + h = K 6 → ∀ I', fr [(62, [])] I4 I' → tS K s I' → tC K s I' S0 (std m0) h 0 → mm_w Q (mm_wc (d + 3)) bk_251 126 [some (.ref 46), some (.int a1), some (.int (nI (2 ^ K 6))), some (.int (nI S0)), some (.int (nI (std m0))), some (.int (nI h)), none] [] ((fl, n1, n2, p, q, ad), I', J) := by
  have h4 := ok.p
  have h6 := ok.h
  have hp6 : 2 ^ K 6 ≤ 2 ^ 4 := Nat.pow_le_pow_right (by decide) (by omega)
  have hsl := std_lt ((tch_V ok hv hm).lt ok)
  have e49 : ∀ I', fr [(62, [])] I4 I' → I' 49 6 = nI (K 6) := fun I' hf => by rw [hf 49 6 rfl, hW.1.2 6 (by decide), e6]
  have e44 : ∀ I', fr [(62, [])] I4 I' → I' 49 4 = nI (K 4) := fun I' hf => by rw [hf 49 4 rfl, hW.1.2 4 (by decide), e4]
  intro n
  induction n with
  | zero =>
    intro h hh I' hf hs hc
    refine fx_251_126 ?_
    rw [e49 I' hf, z_le (by omega) (by omega), z_add]
    refine ⟨fun _ => next I' hf hs (tC_wk hc (fun S m g b' a1 a2 a3 a4 a5 a6 a7 => ?_)), fun e => absurd (by omega) e⟩
    rcases a1 with z | ⟨z1, z2 | ⟨z2, z3 | ⟨z3, z4⟩⟩⟩
    · exact .inl z
    · by_cases ez : std m = std m0
      · exact .inr ⟨z1, .inr ⟨ez, .inl (by omega)⟩⟩
      · exact .inr ⟨z1, .inl (by omega)⟩
    · omega
    · omega
  | succ n ih =>
    intro h hh I' hf hs hc
    refine fx_251_126 ?_
    rw [e49 I' hf, z_le (by omega) (by omega)]
    refine ⟨fun e => absurd e (by omega), fun _ => ct_170 (by omega) (by omega) ⟨_, _, _, rfl, rfl, ?_⟩⟩
    rw [bI_0, e44 I' hf, z_mul, z_mul]
    refine ⟨fun e => tm_b ok hv hW hB e4 hz hS hm (by omega) e (fun I2 f2 s2 c2 => ih (h + 1) (by omega) I2 f2 s2 c2) (16 * K 4 * (h + 1) - 16 * K 4 * h) (16 * K 4 * h) ?_ (Nat.le_refl _) I' hf hs (tC_wk hc (fun S m g b' a1 a2 a3 a4 a5 a6 a7 => ?_)), fun e => ?_⟩
    · have : 16 * K 4 * h ≤ 16 * K 4 * (h + 1) := Nat.mul_le_mul_left _ (by omega)
      omega
    · have := bh_lo (by omega) a7
      rcases a1 with z | ⟨z1, z2 | ⟨z2, z3 | ⟨z3, z4⟩⟩⟩
      · exact .inl z
      · exact .inr ⟨z1, .inl z2⟩
      · exact .inr ⟨z1, .inr ⟨z2, .inl z3⟩⟩
      · rw [z3] at this; omega
    · rw [z_add]
      refine ih (h + 1) (by omega) I' hf hs (tC_wk hc (fun S m g b' a1 a2 a3 a4 a5 a6 a7 => ?_))
      have et : S0.testBit h = true := by simpa using e
      rcases a1 with z | ⟨z1, z2 | ⟨z2, z3 | ⟨z3, z4⟩⟩⟩
      · exact .inl z
      · exact .inr ⟨z1, .inl z2⟩
      · by_cases eg : g = h
        · rw [z1, eg, et] at a5; cases a5
        · exact .inr ⟨z1, .inr ⟨z2, .inl (by omega)⟩⟩
      · omega
theorem tm_z {I4 : mmI} {S0 : Nat} (ok : okR K) (hv : vm K False s) (hW : mW I4 R F N th) (hB : nB R = nB K) (e4 : R 4 = K 4) (e6 : R 6 = K 6) (hz : ∀ b, b < nB K → ∀ m, vm K False m → zstp R th N (F b) m = zst K m b) (hS : S0 < 2 ^ K 6)
    (next : ∀ I' r, fr [(62, [])] I4 I' → tS K s I' → tC K s I' (S0 + 1) 0 0 0 → tB K s (S0 + 1) 0 r → mm_w Q (mm_wc (d + 3)) bk_251 61 [some (.ref 46), some (.int r), some (.int (nI (2 ^ K 6))), some (.int (nI (S0 + 1))), none, none, none] [] ((fl, n1, n2, p, q, ad), I', J)) :
    ∀ n z, n + z = 16384 → ∀ I' r, fr [(62, [])] I4 I' → tS K s I' → tC K s I' S0 z 0 0 → tB K s S0 z r → mm_w Q (mm_wc (d + 3)) bk_251 69 [some (.ref 46), some (.int r), some (.int (nI (2 ^ K 6))), some (.int (nI S0)), some (.int (nI z)), none, none] [] ((fl, n1, n2, p, q, ad), I', J) := by
  have h6 := ok.h
  have hp6 : 2 ^ K 6 ≤ 2 ^ 4 := Nat.pow_le_pow_right (by decide) (by omega)
  intro n
  induction n with
  | zero =>
    intro z hn I' r hf hs hc hb
    refine fx_251_69 ?_
    rw [z_le (by decide) (by omega), z_add]
    refine ⟨fun _ => next I' r hf hs (tC_wk hc (fun S m g b' a1 a2 a3 a4 a5 a6 a7 => ?_)) ?_, fun e => absurd (by omega) e⟩
    · have hm := std_lt ((tch_V ok hv a3).lt ok)
      rcases a1 with w | ⟨w1, w2 | ⟨w2, w3 | ⟨w3, w4⟩⟩⟩
      · by_cases eS : S = S0
        · exact .inr ⟨eS, .inl (by omega)⟩
        · exact .inl (by omega)
      · omega
      · omega
      · omega
    · rcases hb with ⟨S, b1, b2, b3, b4, b5, b6⟩ | ⟨b1, b2, b3⟩
      · refine .inl ⟨S, b1, by omega, b3, fun S' h1 h2 => ?_, .inl rfl, fun _ => by omega⟩
        by_cases eS : S' = S0
        · subst eS
          have := b5.resolve_left (by omega) h2
          omega
        · exact b4 S' (by omega) h2
      · refine .inr ⟨b1, fun S' h1 h2 => ?_, .inl rfl⟩
        by_cases eS : S' = S0
        · subst eS; exact b3.resolve_left (by omega) h2
        · exact b2 S' (by omega) h2
  | succ n ih =>
    intro z hn I' r hf hs hc hb
    -- further, once the best is known
    have go : ∀ m0, tch K s S0 m0 → std m0 = z → ∀ r', tB K s S0 (z + 1) r' → mm_w Q (mm_wc (d + 3)) bk_251 126 [some (.ref 46), some (.int r'), some (.int (nI (2 ^ K 6))), some (.int (nI S0)), some (.int (nI z)), some (.int (nI 0)), none] [] ((fl, n1, n2, p, q, ad), I', J) := by
      intro m0 hm e r' hb'
      subst e
      exact tm_h ok hv hW hB e4 e6 hz hS hm (fun I2 f2 s2 c2 => ih _ (by omega) I2 r' f2 s2 c2 hb') (K 6) 0 (by omega) I' hf hs hc
    have nz : z ≠ 0 → tB K s S0 (z + 1) r := fun h0 => by
      rcases hb with ⟨S, b1, b2, b3, b4, b5, b6⟩ | ⟨b1, b2, b3⟩
      · exact .inl ⟨S, b1, b2, b3, b4, .inr (b5.resolve_left h0), fun w => absurd w (by omega)⟩
      · exact .inr ⟨b1, b2, .inr (b3.resolve_left h0)⟩
    have s0 : std 0 = 0 := rfl
    refine fx_251_69 ?_
    rw [z_le (by decide) (by omega), z_mul, z_add (16384 * S0) z, z_ix (by omega), z_add z 1]
    refine ⟨fun e => absurd e (by omega), fun _ => ⟨z_in (by omega) (by decide), fun e => ?_, fun e => ?_⟩⟩
    · obtain ⟨m0, hm, em⟩ : ∃ m, tch K s S0 m ∧ std m = z := by
        rcases hs S0 z hS (by omega) with w | w
        · exact absurd w e
        · exact w.2
      have vm0 := tch_V ok hv hm
      refine ct_237 ⟨_, _, _, rfl, rfl, fun e2 => ?_, fun e2 => ?_⟩
      · refine go m0 hm em r (nz (fun h0 => e2 ?_))
        rw [h0]
      · rw [← em, (std_b (vm0.lt ok)).1, z_eq (by have := vm0.lt ok; omega) (by decide)] at e2
        have em0 := vm_0 ok vm0 e2
        rw [em0, s0] at em
        subst em
        rw [em0] at hm
        have td : tdone K s S0 := ⟨0, hm, rfl⟩
        rcases hb with ⟨S, b1, b2, b3, b4, b5, b6⟩ | ⟨b1, b2, b3⟩
        · have b6 := b6 rfl
          rw [b1]
          refine ⟨fun w => absurd w (by rw [z_m2 (by omega)]; exact id), fun _ => ct_171 (by omega) ⟨_, _, _, rfl, rfl, ct_171 (by omega) ⟨_, _, _, rfl, rfl, ?_⟩⟩⟩
          have z1 : zcnt S ≤ 14 := popc_le _ _
          have z2 : zcnt S0 ≤ 14 := popc_le _ _
          rw [z_le (by omega) (by omega)]
          refine ⟨fun w => go 0 hm s0 _ (.inl ⟨S, rfl, b2, b3, b4, .inr (fun _ => w), fun y => absurd y (by omega)⟩), fun w => go 0 hm s0 _ (.inl ⟨S0, rfl, Nat.le_refl _, td, fun S' h1 h2 => ?_, .inr (fun _ => Nat.le_refl _), fun y => absurd y (by omega)⟩)⟩
          have := b4 S' h1 h2
          omega
        · rw [b1]
          exact ⟨fun _ => go 0 hm s0 _ (.inl ⟨S0, rfl, Nat.le_refl _, td, fun S' h1 h2 => absurd h2 (b2 S' h1), .inr (fun _ => Nat.le_refl _), fun y => absurd y (by omega)⟩), fun w => absurd rfl w⟩
    · have hno : ∀ m, tch K s S0 m → std m ≠ z := fun m hm em => by
        have := tC_all hc hS hm
        rw [em] at this
        exact n10 (this.symm.trans e)
      refine ih (z + 1) (by omega) I' r hf hs (tC_wk hc (fun S m g b' a1 a2 a3 a4 a5 a6 a7 => ?_)) ?_
      · rcases a1 with w | ⟨w1, w2 | ⟨w2, w3 | ⟨w3, w4⟩⟩⟩
        · exact .inl w
        · by_cases ez : std m = z
          · rw [w1] at a3; exact absurd ez (hno m a3)
          · exact .inr ⟨w1, .inl (by omega)⟩
        · omega
        · omega
      · by_cases h0 : z = 0
        · subst h0
          have nd : ¬ tdone K s S0 := fun w => hno 0 ((tdone_iff ok hv).mp w) s0
          rcases hb with ⟨S, b1, b2, b3, b4, b5, b6⟩ | ⟨b1, b2, b3⟩
          · exact .inl ⟨S, b1, b2, b3, b4, .inr (fun w => absurd w nd), fun w => absurd w (by omega)⟩
          · exact .inr ⟨b1, b2, .inr nd⟩
        · exact nz h0
theorem tm_S {I4 : mmI} (ok : okR K) (hv : vm K False s) (hW : mW I4 R F N th) (hB : nB R = nB K) (e4 : R 4 = K 4) (e6 : R 6 = K 6) (hz : ∀ b, b < nB K → ∀ m, vm K False m → zstp R th N (F b) m = zst K m b)
    (fin : ∀ I' r, fr [(62, [])] I4 I' → isT K s r → Q (some (.int r)) ((fl, n1, n2, p, q, ad), I', J)) :
    ∀ n S, n + S = 2 ^ K 6 → ∀ I' r, fr [(62, [])] I4 I' → tS K s I' → tC K s I' S 0 0 0 → tB K s S 0 r → mm_w Q (mm_wc (d + 3)) bk_251 61 [some (.ref 46), some (.int r), some (.int (nI (2 ^ K 6))), some (.int (nI S)), none, none, none] [] ((fl, n1, n2, p, q, ad), I', J) := by
  have h6 := ok.h
  have hp6 : 2 ^ K 6 ≤ 2 ^ 4 := Nat.pow_le_pow_right (by decide) (by omega)
  intro n
  induction n with
  | zero =>
    intro S hn I' r hf hs hc hb
    refine fx_251_61 ?_
    rw [z_le (by omega) (by omega)]
    refine ⟨fun _ => fin I' r hf ?_, fun e => absurd (by omega) e⟩
    rcases hb with ⟨S', b1, b2, b3, b4, b5, b6⟩ | ⟨b1, b2, b3⟩
    · exact .inl ⟨S', by have := b6 rfl; omega, b1, b3, fun S'' h1 h2 => b4 S'' (by omega) h2⟩
    · exact .inr ⟨b1, fun S' h1 => b2 S' (by omega)⟩
  | succ n ih =>
    intro S hn I' r hf hs hc hb
    refine fx_251_61 ?_
    rw [z_le (by omega) (by omega)]
    exact ⟨fun e => absurd e (by omega), fun _ => tm_z ok hv hW hB e4 e6 hz (by omega) (fun I2 r2 f2 s2 c2 b2 => ih (S + 1) (by omega) I2 r2 f2 s2 c2 b2) 16384 0 rfl I' r hf hs hc hb⟩
theorem tm_fill {I0 : mmI} {a1 : Int32} {B : Nat} (hBB : B ≤ 16) (h : ∀ I, fr [(62, [])] I0 I → (∀ j, j < B * 16384 → I 62 j = nI 0) → mm_w Q (mm_wc d) bk_251 19 [some (.ref 46), some (.int a1), some (.int (nI B)), some (.int (nI (B * 16384))), none, none, none] [] ((fl, n1, n2, p, q, ad), I, J)) :
    ∀ n k, n + k = B * 16384 → ∀ I, fr [(62, [])] I0 I → (∀ j, j < k → I 62 j = nI 0) → mm_w Q (mm_wc d) bk_251 19 [some (.ref 46), some (.int a1), some (.int (nI B)), some (.int (nI k)), none, none, none] [] ((fl, n1, n2, p, q, ad), I, J) := by
  intro n
  induction n with
  | zero =>
    intro k hk I hf hl
    have : k = B * 16384 := by omega
    subst this
    exact h I hf hl
  | succ n ih =>
    intro k hk I hf hl
    refine fx_251_19 ?_
    rw [z_mul, z_le (by omega) (by omega), z_ix (by omega), z_add]
    refine ⟨fun e => absurd e (by omega), fun _ => ⟨z_in (by omega) (by decide), ih (k + 1) (by omega) _ (hf.up rfl) (fun j hj => ?_)⟩⟩
    by_cases e : j = k
    · subst e; exact up_s _ _ _ _
    · rw [up_k e]; exact hl j (by omega)
variable {T : zT} {to : Bool} {P : zP} {tr : Nat} {f : zF}
abbrev tmS : List (Nat × List Nat) := [(46, [27]), (62, [])]
theorem ct_251 (h : MI T to K P tr f I) (ht : to = true) (k : ∀ I' r, fr tmS I I' → isT K P.1 r → Q (some (.int r)) ((fl, n1, n2, p, q, ad), I', J)) : mm_wc (d + 4) 251 [.ref 46] ((fl, n1, n2, p, q, ad), I, J) Q := by
  have hv := (h.vms ht).1
  obtain ⟨ok, R, ag, mb⟩ := h.cake ht
  have e3 := ag 3 (by decide) (by decide) (by decide)
  have e4 := ag 4 (by decide) (by decide) (by decide)
  have e6 := ag 6 (by decide) (by decide) (by decide)
  have h6 := ok.h
  have hB := agR_nB ag
  have hp6 : 2 ^ K 6 ≤ 2 ^ 4 := Nat.pow_le_pow_right (by decide) (by omega)
  have hpp : 0 < 2 ^ K 6 := Nat.two_pow_pos _
  refine fx_251 (ct_224 mb.1 ⟨_, _, rfl, rfl, ?_⟩)
  have f1 : fr tmS I (mm_up I 46 27 (nI (2 ^ R 3 - 1 ||| 1024))) := fr.rf.up rfl
  have mb2 : mB (mm_up I 46 27 (nI (2 ^ R 3 - 1 ||| 1024))) R := mb.of (fun k _ => up_c (by decide)) (fun k => up_c (by decide)) (fun k => up_c (by decide))
  have hW : mW (mm_up I 46 27 (nI (2 ^ R 3 - 1 ||| 1024))) R (fanM R 11) (nearM R 11) (2 ^ R 3 - 1 ||| 1024) := ⟨mb2.1, mb2.2.2, fun c _ => bset_lt _ _, up_s _ _ _ _, mb2.2.1, fun b _ => bset_lt _ _⟩
  obtain ⟨m1, m2, -, -⟩ := h.mem ht
  have m1' : mm_up I 46 27 (nI (2 ^ R 3 - 1 ||| 1024)) 46 17 = nI (P.1 / 8) := by rw [up_k (by decide)]; exact m1
  have m2' : mm_up I 46 27 (nI (2 ^ R 3 - 1 ||| 1024)) 46 18 = nI (dzK K P.1) := by rw [up_k (by decide)]; exact m2
  generalize mm_up I 46 27 (nI (2 ^ R 3 - 1 ||| 1024)) = I1 at f1 hW m1' m2' ⊢
  have hz : ∀ b, b < nB K → ∀ m, vm K False m → zstp R (2 ^ R 3 - 1 ||| 1024) (nearM R 11) (fanM R 11 b) m = zst K m b := fun b hb m hm => zcK ag ok hb hm (fun i _ => Nat.zero_testBit i) (fun i hi => by rw [e3, th_tb hi]; simp)
  rw [hW.1.2 6 (by decide), e6, z_bit (by omega)]
  refine tm_fill (by omega) (fun I2 f2 h0 => ?_) (2 ^ K 6 * 16384) 0 (by omega) I1 fr.rf (fun j hj => absurd hj (Nat.not_lt_zero _))
  refine fx_251_19 ?_
  rw [z_mul, z_le (by omega) (by omega)]
  refine ⟨fun _ => ?_, fun e => absurd (Nat.le_refl _) e⟩
  rw [f2 46 17 rfl, f2 46 18 rfl, m1', m2']
  have hs := hv.lt ok
  have hW2 : mW I2 R (fanM R 11) (nearM R 11) (2 ^ R 3 - 1 ||| 1024) := hW.of (fun k _ => f2 49 k rfl) (fun k _ => f2 54 k rfl) (f2 46 27 rfl) (fun k _ => f2 53 k rfl)
  refine ct_235 hW2.1 (Nat.lt_trans (lt_p11 ok (dzK_lt K P.1)) (by decide)) ⟨_, _, _, rfl, rfl, ?_⟩
  have hst : P.1 / 8 ||| cde (ofK R 3) (dzK K P.1) (R 3) * 2 ^ 11 = std P.1 := by
    rw [or_mul hs, ofK_ag ag ok, e3, show cde (ofK K 3) (dzK K P.1) (K 3) = P.1 % 8 from hv.2.1.symm]; rfl
  have hsl := std_lt hs
  rw [hst, z_ix (by omega)]
  refine ⟨z_in (by omega) (by decide), tm_S (I4 := I1) ok hv hW hB e4 e6 hz (fun I' r f' ht' => k I' r (f1.tr (f'.sub rfl)) ht') (2 ^ K 6) 0 (by omega) _ (-2) (f2.up rfl) (fun S z hS hz' => ?_) ⟨up_s _ _ _ _, fun S m g b a1 => ?_⟩ (.inr ⟨rfl, fun S' h => absurd h (Nat.not_lt_zero _), .inl rfl⟩)⟩
  · by_cases e : 16384 * S + z = std P.1
    · rw [e]
      have eS : S = 0 := by omega
      subst eS
      exact .inr ⟨up_s _ _ _ _, P.1, tch_0.mpr rfl, by omega⟩
    · rw [up_k e]
      exact .inl (h0 _ (by have : S + 1 ≤ 2 ^ K 6 := hS; omega))
  · rcases a1 with w | ⟨w1, w2 | ⟨w2, w3 | ⟨w3, w4⟩⟩⟩ <;> omega
theorem MI_tm {I' : mmI} (h : MI T to K P tr f I) (hf : fr tmS I I') : MI T to K P tr f I' :=
  h.tr hf (by rintro k (rfl | rfl | rfl | rfl | rfl | rfl | rfl | rfl) <;> rfl) rfl rfl rfl (by rw [hf 46 11 rfl]; exact h.2.2.2.2.2.1) h.1.2.2.2.2.2.2.1 id
def va_each (K : Nat → Nat) (P : zP) (v : Int32) : Prop := ∃ r, isT K P.1 r ∧ ((r = -2 ∧ v = -2) ∨ ∃ S, S < 2 ^ K 6 ∧ r = nI S ∧ v = nI (zcnt S))
theorem md_253 (h : MI T to K P tr f I) (k : ∀ I' v t, frM I I' → MI T to K P t f I' → rf (to = true) (isT K P.1) v t → Q (some (.int v)) ((fl, n1, n2, p, q, ad), I', J)) : mm_wc (d + 5) 253 [.ref 46] ((fl, n1, n2, p, q, ad), I, J) Q := by
  refine fx_253 (ct_166 h (fun I1 f1 h1 => ⟨_, _, rfl, rfl, ?_⟩))
  rw [h1.told, bI_0]
  refine ⟨fun e => ct_167 h1 (by decide) (by decide) (fun I' f' h' => ⟨_, _, _, rfl, rfl, k I' _ _ (f1.tr f') h' (.inr ⟨by rw [e]; decide, rfl, rfl⟩)⟩), fun e => ?_⟩
  have ht : to = true := by simpa using e
  exact ct_251 h1 ht (fun I' r f' hr => ⟨_, _, _, rfl, rfl, k I' _ _ (f1.tr (f'.M rfl)) (MI_tm h1 f') (.inl ⟨ht, hr, rfl⟩)⟩)
theorem md_252 (h : MI T to K P tr f I) (k : ∀ I' v t, frM I I' → MI T to K P t f I' → rf (to = true) (va_each K P) v t → Q (some (.int v)) ((fl, n1, n2, p, q, ad), I', J)) : mm_wc (d + 5) 252 [.ref 46] ((fl, n1, n2, p, q, ad), I, J) Q := by
  refine fx_252 (ct_166 h (fun I1 f1 h1 => ⟨_, _, rfl, rfl, ?_⟩))
  rw [h1.told, bI_0]
  refine ⟨fun e => ?_, fun e => ct_167 h1 (by decide) (by decide) (fun I' f' h' => ⟨_, _, _, rfl, rfl, k I' _ _ (f1.tr f') h' (.inr ⟨by rw [e]; decide, rfl, rfl⟩)⟩)⟩
  have ht : to = true := by simpa using e
  have h6 := (h1.cake ht).1.h
  have hp6 : 2 ^ K 6 ≤ 2 ^ 4 := Nat.pow_le_pow_right (by decide) (by omega)
  refine ct_251 h1 ht (fun I' r f' hr => ⟨_, _, _, rfl, rfl, fun e => ?_, fun e => k I' _ _ (f1.tr (f'.M rfl)) (MI_tm h1 f') (.inl ⟨ht, ⟨r, hr, .inl ⟨e, rfl⟩⟩, rfl⟩)⟩)
  rcases id hr with ⟨S, a1, a2, -⟩ | ⟨a2, -⟩
  · rw [a2]
    exact ct_171 (by omega) ⟨_, _, _, rfl, rfl, k I' _ _ (f1.tr (f'.M rfl)) (MI_tm h1 f') (.inl ⟨ht, ⟨r, hr, .inr ⟨S, a1, a2, rfl⟩⟩, rfl⟩)⟩
  · exact absurd a2 e
end TM
