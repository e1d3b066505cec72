/-! what was seen: abstract; the model -/
def sumB (f : Nat → Nat) : Nat → Nat
  | 0 => 0
  | n + 1 => sumB f n + f n
theorem sumB_le {f : Nat → Nat} {B : Nat} : ∀ {n : Nat}, (∀ b, b < n → f b ≤ B) → sumB f n ≤ n * B
  | 0, _ => Nat.zero_le _
  | n + 1, h => by
    have h1 := sumB_le (n := n) (fun b hb => h b (by omega))
    have h2 := h n (by omega)
    rw [sumB, Nat.succ_mul]; omega
theorem sumB_mono {f : Nat → Nat} : ∀ {n m : Nat}, n ≤ m → sumB f n ≤ sumB f m
  | n, 0, h => by rw [show n = 0 by omega]; exact Nat.le_refl _
  | n, m + 1, h => by
    by_cases e : n = m + 1
    · rw [e]; exact Nat.le_refl _
    · have := sumB_mono (f := f) (n := n) (m := m) (by omega)
      rw [sumB]; omega
theorem sumB_cg {f g : Nat → Nat} : ∀ {n : Nat}, (∀ b, b < n → f b = g b) → sumB f n = sumB g n
  | 0, _ => rfl
  | n + 1, h => by rw [sumB, sumB, sumB_cg (n := n) (fun b hb => h b (by omega)), h n (by omega)]
theorem sumB_add (f g : Nat → Nat) : ∀ n, sumB (fun i => f i + g i) n = sumB f n + sumB g n
  | 0 => rfl
  | n + 1 => by rw [sumB, sumB, sumB, sumB_add f g n]; omega
theorem sumB_z {f : Nat → Nat} : ∀ {n : Nat}, (∀ i, i < n → f i = 0) → sumB f n = 0
  | 0, _ => rfl
  | n + 1, h => by rw [sumB, sumB_z (n := n) (fun i hi => h i (by omega)), h n (by omega)]
theorem sumB_1 {f : Nat → Nat} {x : Nat} : ∀ {n : Nat}, x < n → (∀ i, i < n → i ≠ x → f i = 0) → sumB f n = f x
  | 0, h, _ => absurd h (Nat.not_lt_zero x)
  | n + 1, h, hz => by
    rw [sumB]
    by_cases e : x = n
    · subst e
      rw [sumB_z (fun i hi => hz i (by omega) (by omega)), Nat.zero_add]
    · rw [sumB_1 (n := n) (by omega) (fun i hi hne => hz i (by omega) hne), hz n (by omega) (by omega), Nat.add_zero]
/-- by unlike fans, or by breaths -/
theorem sum_uni {fan un G : Nat → Nat} {u : Nat} (hinj : ∀ f g, f < u → g < u → un f = un g → f = g) : ∀ {B : Nat}, (∀ b, b < B → ∃ f, f < u ∧ un f = fan b) → sumB (fun f => cntB (fun b => fan b == un f) B * G (un f)) u = sumB (fun b => G (fan b)) B
  | 0, _ => sumB_z (fun i _ => by rw [cntB, Nat.zero_mul])
  | B + 1, h => by
    obtain ⟨x, hx, ex⟩ := h B (by omega)
    rw [sumB, ← sum_uni hinj (B := B) (fun b hb => h b (by omega))]
    have e : ∀ f, f < u → cntB (fun b => fan b == un f) (B + 1) * G (un f) = cntB (fun b => fan b == un f) B * G (un f) + (if f = x then G (fan B) else 0) := fun f hf => by
      by_cases ef : f = x
      · subst ef
        rw [if_pos rfl, cntB_t (by simpa using ex.symm), Nat.add_mul, Nat.one_mul, ex]
      · have : fan B ≠ un f := fun z => ef (hinj f x hf hx (by rw [ex, z]))
        have hf' : (fan B == un f) = false := by simpa using this
        rw [if_neg ef, cntB_f (P := fun b => fan b == un f) hf']; rfl
    rw [sumB_cg e, sumB_add, sumB_1 hx (fun i _ hne => if_neg hne), if_pos rfl]
def isL (K : Nat → Nat) (m : Nat) : Nat := if m / 8 = K 9 then 1 else 0
/-- how many rows of j breaths begin with a fan F -/
def rwG (K : Nat → Nat) (j F : Nat) : Nat := if j = 1 then isL K (cstp K 0 0 F (zall K)) else sumB (fun c => isL K (zst K (cstp K 0 0 F (zall K)) c)) (nB K)
def rwN (K : Nat → Nat) (j b : Nat) : Nat := rwG K j (fanK K b)
theorem isL_le (K : Nat → Nat) (m : Nat) : isL K m ≤ 1 := by unfold isL; split <;> omega
theorem rwG_le {K : Nat → Nat} (ok : okR K) (j F : Nat) : rwG K j F ≤ 320 := by
  have hB := nB_le ok
  unfold rwG
  split
  · have := isL_le K (cstp K 0 0 F (zall K)); omega
  · have := sumB_le (f := fun c => isL K (zst K (cstp K 0 0 F (zall K)) c)) (B := 1) (n := nB K) (fun c _ => isL_le K _)
    omega
theorem fit_le {K : Nat → Nat} (ok : okR K) (j : Nat) {n : Nat} (hn : n ≤ nB K) : sumB (rwN K j) n ≤ 102400 := by
  have hB := nB_le ok
  have := sumB_le (f := rwN K j) (B := 320) (n := n) (fun b _ => rwG_le ok j _)
  omega
/-- b begins row i -/
def isFt (K : Nat → Nat) (j i b : Nat) : Prop := b < nB K ∧ sumB (rwN K j) b ≤ i ∧ i < sumB (rwN K j) (b + 1)
theorem isFt.uq {K : Nat → Nat} {j i b b' : Nat} (h : isFt K j i b) (h' : isFt K j i b') : b = b' := by
  rcases Nat.lt_trichotomy b b' with z | z | z
  · have := sumB_mono (f := rwN K j) (show b + 1 ≤ b' by omega)
    have := h.2.2; have := h'.2.1; omega
  · exact z
  · have := sumB_mono (f := rwN K j) (show b' + 1 ≤ b by omega)
    have := h'.2.2; have := h.2.1; omega
def ra_f (to : Bool) (K : Nat → Nat) (x : Int32) (V : Nat → Prop) (v : Int32) (t : Nat) : Prop := (to = true ∧ K 8 = 1 ∧ ∃ j, 1 ≤ j ∧ j ≤ 2 ∧ x = nI j ∧ V j) ∨ (to = true ∧ K 8 ≠ 1 ∧ (∃ j, 1 ≤ j ∧ j ≤ 2 ∧ x = nI j) ∧ v = -1 ∧ t = 6) ∨ (to = true ∧ ¬ (∃ j, 1 ≤ j ∧ j ≤ 2 ∧ x = nI j) ∧ v = -1 ∧ t = 2) ∨ (to = false ∧ v = -1 ∧ t = 1)
def ra_fits (to : Bool) (K : Nat → Nat) (x v : Int32) (t : Nat) : Prop := ra_f to K x (fun j => v = nI (sumB (rwN K j) (nB K)) ∧ t = 0) v t
def va_fitAt (K : Nat → Nat) (j : Nat) (y v : Int32) (t : Nat) : Prop := (∃ i b, i < 2 ^ 31 ∧ y = nI i ∧ isFt K j i b ∧ v = nI b ∧ t = 0) ∨ ((y < nI 0 ∨ ∃ i, i < 2 ^ 31 ∧ y = nI i ∧ sumB (rwN K j) (nB K) ≤ i) ∧ v = -1 ∧ t = 1)
def ra_fitAt (to : Bool) (K : Nat → Nat) (x y v : Int32) (t : Nat) : Prop := ra_f to K x (fun j => va_fitAt K j y v t) v t
theorem z_le0 {a r : Nat} (ha : a < 2 ^ 31) (hr : r < 2 ^ 30) : (nI 0 ≤ nI a - nI r) = (r ≤ a) := by
  by_cases h : r ≤ a
  · rw [z_sub h, z_le (by decide) (by omega)]
    exact propext ⟨fun _ => h, fun _ => Nat.zero_le _⟩
  · apply propext
    rw [Int32.le_iff_toInt_le, pk_sub_toInt (by omega) hr, show (nI 0).toInt = 0 from rfl]
    omega
section TA
variable {d n1 n2 : Nat} {fl : Nat → Bool} {p q : Bool} {ad : Nat → Nat} {J : mmJ} {Q : mmQ} {T : zT} {to : Bool} {K : Nat → Nat} {P : zP} {tr : Nat} {f : zF} {I : mmI}
theorem ct_267 {x : Int32} (h : MI T to K P tr f I) (k0 : ∀ j, to = true → K 8 = 1 → 1 ≤ j → j ≤ 2 → x = nI j → Q (some (.int (nI 0))) ((fl, n1, n2, p, q, ad), I, J)) (k6 : to = true → K 8 ≠ 1 → (∃ j, 1 ≤ j ∧ j ≤ 2 ∧ x = nI j) → Q (some (.int (nI 6))) ((fl, n1, n2, p, q, ad), I, J)) (k2 : to = true → ¬ (∃ j, 1 ≤ j ∧ j ≤ 2 ∧ x = nI j) → Q (some (.int (nI 2))) ((fl, n1, n2, p, q, ad), I, J)) (k1 : to = false → Q (some (.int (nI 1))) ((fl, n1, n2, p, q, ad), I, J)) : mm_wc (d + 3) 267 [.ref 46, .int x] ((fl, n1, n2, p, q, ad), I, J) Q := by
  refine fx_267 (ct_261 (by decide) h (fun j ht j1 j2 ej => ⟨_, _, _, rfl, rfl, fun z => absurd rfl z, fun _ => ?_⟩) (fun ht hn => ⟨_, _, _, rfl, rfl, fun _ => k2 ht hn, fun z => absurd z (by decide)⟩) (fun ht => ⟨_, _, _, rfl, rfl, fun _ => k1 ht, fun z => absurd z (by decide)⟩))
  obtain ⟨ok, R, ag, mb⟩ := h.cake ht
  have h8 : K 8 ≤ 1 := ok.2.2.2.2.2.2.2.1
  rw [mb.1.2 8 (by decide), ag 8 (by decide) (by decide) (by decide), z_eq (by omega) (by decide)]
  exact ⟨fun e => k0 j ht (by omega) j1 j2 ej, fun e => k6 ht (by omega) ⟨j, j1, j2, ej⟩⟩
/-- the rows in order, up to the one that is asked for -/
theorem ct_268 {x : Int32} {j : Nat} (h : MI T to K P tr f I) (ht : to = true) (j1 : 1 ≤ j) (j2 : j ≤ 2) (kb : ∀ I' s b, frM I I' → MI T to K P tr f I' → x = nI s → s < 2 ^ 31 → isFt K j s b → Q (some (.int (nI b))) ((fl, n1, n2, p, q, ad), I', J)) (kn : ∀ I', frM I I' → MI T to K P tr f I' → (∀ s, s < sumB (rwN K j) (nB K) → x ≠ nI s) → Q (some (.int (nI (sumB (rwN K j) (nB K)) - nI 1000000))) ((fl, n1, n2, p, q, ad), I', J)) : mm_wc (d + 4) 268 [.ref 46, .int (nI j), .int x] ((fl, n1, n2, p, q, ad), I, J) Q := by
  obtain ⟨ok, R, ag, mb⟩ := h.cake ht
  have h3 := ok.c
  have e3 := ag 3 (by decide) (by decide) (by decide)
  refine fx_268k (ct_224 mb.1 ⟨_, _, rfl, rfl, ?_⟩)
  have h2 := h.th27 (x := nI (2 ^ R 3 - 1 ||| 1024))
  have f2 : frM I (mm_up I 46 27 (nI (2 ^ R 3 - 1 ||| 1024))) := frM.rf.up (by decide) (by decide)
  have e27 : mm_up I 46 27 (nI (2 ^ R 3 - 1 ||| 1024)) 46 27 = nI (2 ^ R 3 - 1 ||| 1024) := up_s _ _ _ _
  have mb2 : mB (mm_up I 46 27 (nI (2 ^ R 3 - 1 ||| 1024))) R := mb.of (fun k _ => by rw [up_c (by decide)]) (fun k => by rw [up_c (by decide)]) (fun k => by rw [up_c (by decide)])
  generalize mm_up I 46 27 (nI (2 ^ R 3 - 1 ||| 1024)) = I2 at *
  have hO : mO I2 R K := ⟨⟨mb2.1, mb2.2.2, fun c _ => bset_lt _ _, e27, mb2.2.1, fun b _ => bset_lt _ _⟩, ag, ok⟩
  have hB := nB_le ok
  have hv := zall_vm K
  have hK9 : K 9 < 2 ^ 10 := lt_p11 ok ok.2.2.2.2.2.2.2.2.1
  have i9 : I2 49 9 = nI (K 9) := by rw [mb2.1.2 9 (by decide), ag 9 (by decide) (by decide) (by decide)]
  refine ct_205 mb2.1 ⟨_, _, _, rfl, rfl, ct_235 mb2.1 (s := 0) (by decide) ⟨_, _, _, rfl, rfl, ?_⟩⟩
  have est : 2 ^ R 3 - 1 ||| cde (ofK R 3) 0 (R 3) * 2 ^ 11 = std (zall K) := by
    have hz : cde (ofK K 3) (dzK K (zall K)) (K 3) = zall K % 8 := hv.2.1.symm
    rw [dzK_all] at hz
    have h8 : zall K / 8 = 2 ^ K 3 - 1 := by unfold zall; omega
    have hlt := hv.lt ok
    rw [ofK_ag ag ok 3, e3, hz, or_mul (by rw [← h8]; exact hlt), ← h8]
    rfl
  rw [est]
  -- the state at breath b: not met yet
  have lp : ∀ r b, r + b = nB K → (∀ s, s < sumB (rwN K j) b → x ≠ nI s) → mm_w Q (mm_wc (d + 3)) bk_268 20 [some (.ref 46), some (.int (nI j)), some (.int x), some (.int (nI (std (zall K)))), some (.int (nI (sumB (rwN K j) b))), some (.int (nI b)), none, none] [] ((fl, n1, n2, p, q, ad), I2, J) := by
    intro r
    induction r with
    | zero =>
      intro b hb hn
      have : b = nB K := by omega
      subst this
      refine fx_268k_20 (ct_206 mb2.1 ⟨_, _, _, rfl, rfl, ?_⟩)
      rw [agR_nB ag, z_le (by omega) (by omega)]
      exact ⟨fun _ => kn I2 f2 h2 hn, fun e => absurd (Nat.le_refl _) e⟩
    | succ r ih =>
      intro b hb hn
      have hfit := fit_le ok j (n := b + 1) (by omega)
      have hzv := zst_vm ok hv b
      have hzl := hzv.lt ok
      refine fx_268k_20 (ct_206 mb2.1 ⟨_, _, _, rfl, rfl, ?_⟩)
      rw [agR_nB ag, z_le (by omega) (by omega)]
      refine ⟨fun e => by omega, fun _ => ct_238K hO hv (by omega) ⟨_, _, _, rfl, rfl, ?_⟩⟩
      have nx : ∀ w, w = rwN K j b → (∀ s, s < sumB (rwN K j) b + w → x ≠ nI s) → mm_w Q (mm_wc (d + 3)) bk_268 20 [some (.ref 46), some (.int (nI j)), some (.int x), some (.int (nI (std (zall K)))), some (.int (nI (sumB (rwN K j) b + w))), some (.int (nI b + nI 1)), none, none] [] ((fl, n1, n2, p, q, ad), I2, J) := fun w hw hx => by
        subst hw
        rw [z_add]
        exact ih (b + 1) (by omega) hx
      by_cases ej : j = 1
      · subst ej
        have er : rwN K 1 b = isL K (zst K (zall K) b) := by unfold rwN rwG; rw [if_pos rfl]; rfl
        have hu : sumB (rwN K 1) (b + 1) = sumB (rwN K 1) b + rwN K 1 b := rfl
        have fin : ∀ w, w = rwN K 1 b → (∀ s, s < sumB (rwN K 1) b + w → x ≠ nI s) → mm_w Q (mm_wc (d + 3)) bk_268 105 [some (.ref 46), some (.int (nI 1)), some (.int x), some (.int (nI (std (zall K)))), some (.int (nI (sumB (rwN K 1) b + w))), some (.int (nI b)), some (.int (nI (std (zst K (zall K) b)))), some (.int (nI 0))] [] ((fl, n1, n2, p, q, ad), I2, J) := fun w hw hx => by
          refine fx_268k_105 (fx_268k_41 ⟨fun z => absurd rfl z, fun _ => fx_268k_56 ?_⟩)
          rw [z_add, z_le (by decide) (by decide)]
          exact ⟨fun _ => nx w hw hx, fun z => absurd (Nat.le_refl _) z⟩
        refine fx_268k_41 ⟨fun z => absurd rfl z, fun _ => fx_268k_56 ?_⟩
        rw [z_le (by decide) (by decide)]
        refine ⟨fun z => absurd z (by decide), fun _ => ⟨fun z => absurd rfl z, fun _ => fx_268k_77 (ct_237 ⟨_, _, _, rfl, rfl, ?_⟩)⟩⟩
        rw [(std_b hzl).1, i9, z_eq (by omega) (by omega)]
        refine ⟨fun e => ⟨fun ne => ?_, fun eq => ?_⟩, fun e => ?_⟩
        · rw [z_add]
          have : rwN K 1 b = 1 := by rw [er]; unfold isL; rw [if_pos e]
          refine fin 1 this.symm (fun s hs => ?_)
          by_cases es : s = sumB (rwN K 1) b
          · subst es; exact fun z => ne z.symm
          · exact hn s (by omega)
        · have : rwN K 1 b = 1 := by rw [er]; unfold isL; rw [if_pos e]
          exact kb I2 (sumB (rwN K 1) b) b f2 h2 eq.symm (by omega) ⟨by omega, Nat.le_refl _, by omega⟩
        · have : rwN K 1 b = 0 := by rw [er]; unfold isL; rw [if_neg e]
          exact fin 0 this.symm (fun s hs => hn s (by omega))
      · have ej2 : j = 2 := by omega
        subst ej2
        have er : rwN K 2 b = sumB (fun c => isL K (zst K (zst K (zall K) b) c)) (nB K) := by unfold rwN rwG; rw [if_neg ej]; rfl
        have hu : sumB (rwN K 2) (b + 1) = sumB (rwN K 2) b + rwN K 2 b := rfl
        have n21 : ¬ nI 2 = nI 1 := by decide
        have lp2 : ∀ r c, r + c = nB K → (∀ s, s < sumB (rwN K 2) b + sumB (fun c => isL K (zst K (zst K (zall K) b) c)) c → x ≠ nI s) → mm_w Q (mm_wc (d + 3)) bk_268 41 [some (.ref 46), some (.int (nI 2)), some (.int x), some (.int (nI (std (zall K)))), some (.int (nI (sumB (rwN K 2) b + sumB (fun c => isL K (zst K (zst K (zall K) b) c)) c))), some (.int (nI b)), some (.int (nI (std (zst K (zall K) b)))), some (.int (nI c))] [] ((fl, n1, n2, p, q, ad), I2, J) := by
          intro r
          induction r with
          | zero =>
            intro c hc hx
            have : c = nB K := by omega
            subst this
            refine fx_268k_41 ⟨fun _ => ct_206 mb2.1 ⟨_, _, _, rfl, rfl, fx_268k_56 ?_⟩, fun z => absurd z n21⟩
            rw [agR_nB ag, z_le (by omega) (by omega)]
            exact ⟨fun _ => nx _ er.symm hx, fun z => absurd (Nat.le_refl _) z⟩
          | succ r ihr =>
            intro c hc hx
            have hzv2 := zst_vm ok hzv c
            have hzl2 := hzv2.lt ok
            have hm1 := sumB_mono (f := fun c => isL K (zst K (zst K (zall K) b) c)) (show c + 1 ≤ nB K by omega)
            have hs1 : sumB (fun c => isL K (zst K (zst K (zall K) b) c)) (c + 1) = sumB (fun c => isL K (zst K (zst K (zall K) b) c)) c + isL K (zst K (zst K (zall K) b) c) := rfl
            have nxt := ihr (c + 1) (by omega)
            rw [hs1, ← Nat.add_assoc] at nxt
            refine fx_268k_41 ⟨fun _ => ct_206 mb2.1 ⟨_, _, _, rfl, rfl, fx_268k_56 ?_⟩, fun z => absurd z n21⟩
            rw [agR_nB ag, z_le (by omega) (by omega)]
            refine ⟨fun z => by omega, fun _ => ⟨fun _ => ct_238K hO hzv (by omega) ⟨_, _, _, rfl, rfl, fx_268k_77 (ct_237 ⟨_, _, _, rfl, rfl, ?_⟩)⟩, fun z => absurd z n21⟩⟩
            rw [(std_b hzl2).1, i9, z_eq (by omega) (by omega)]
            refine ⟨fun e => ⟨fun ne => ?_, fun eq => ?_⟩, fun e => ?_⟩
            · have h1 : isL K (zst K (zst K (zall K) b) c) = 1 := by unfold isL; rw [if_pos e]
              rw [h1] at nxt
              refine fx_268k_105 ?_
              rw [z_add, z_add]
              refine nxt (fun s hs => ?_)
              by_cases es : s = sumB (rwN K 2) b + sumB (fun c => isL K (zst K (zst K (zall K) b) c)) c
              · subst es; exact fun z => ne z.symm
              · exact hx s (by omega)
            · have h1 : isL K (zst K (zst K (zall K) b) c) = 1 := by unfold isL; rw [if_pos e]
              exact kb I2 _ b f2 h2 eq.symm (by omega) ⟨by omega, by omega, by omega⟩
            · have h1 : isL K (zst K (zst K (zall K) b) c) = 0 := by unfold isL; rw [if_neg e]
              rw [h1, Nat.add_zero] at nxt
              refine fx_268k_105 ?_
              rw [z_add]
              exact nxt hx
        exact lp2 (nB K) 0 (by omega) hn
  exact lp (nB K) 0 (by omega) (fun s hs => absurd hs (Nat.not_lt_zero s))
theorem md_269 {x : Int32} (h : MI T to K P tr f I) (k : ∀ I' v t, frM I I' → MI T to K P t f I' → ra_fits to K x v t → Q (some (.int v)) ((fl, n1, n2, p, q, ad), I', J)) : mm_wc (d + 5) 269 [.ref 46, .int x] ((fl, n1, n2, p, q, ad), I, J) Q := by
  refine fx_269 (ct_166 h (fun I1 f1 h1 => ⟨_, _, rfl, rfl, ?_⟩))
  have no : ∀ w, w ≤ 6 → w ≠ 4 → ra_fits to K x (-1) w → mm_wc (d + 4) 167 [.ref 46, .int (nI w)] ((fl, 0, 0, p, q, ad), I1, J) (fun v τ => ∃ r4 I4 J4, v = some (.int r4) ∧ τ = ((fl, 0, 0, p, q, ad), I4, J4) ∧ Q (some (.int r4)) ((fl, n1, n2, p, q, ad), I4, J4)) := fun w hw h4 hr => ct_167 h1 hw h4 (fun I' f' h' => ⟨_, _, _, rfl, rfl, k I' _ _ (f1.tr f') h' hr⟩)
  refine ct_267 h1 (fun j ht h8 j1 j2 ej => ⟨_, _, _, rfl, rfl, fun _ => ?_, fun z => absurd rfl z⟩) (fun ht h8 hj => ⟨_, _, _, rfl, rfl, fun z => absurd z (by decide), fun _ => no 6 (by decide) (by decide) (.inr (.inl ⟨ht, h8, hj, rfl, rfl⟩))⟩) (fun ht hj => ⟨_, _, _, rfl, rfl, fun z => absurd z (by decide), fun _ => no 2 (by decide) (by decide) (.inr (.inr (.inl ⟨ht, hj, rfl, rfl⟩)))⟩) (fun ht => ⟨_, _, _, rfl, rfl, fun z => absurd z (by decide), fun _ => no 1 (by decide) (by decide) (.inr (.inr (.inr ⟨ht, rfl, rfl⟩)))⟩)
  rw [ej]
  refine ct_268 h1 ht j1 j2 (fun I' s b f' h' es hs _ => ?_) (fun I' f' h' _ => ⟨_, _, _, rfl, rfl, ?_⟩)
  · have := z_m1 hs
    rw [← es] at this
    exact absurd rfl (by rw [this]; exact id)
  · rw [Int32.sub_add_cancel]
    exact k I' _ _ (f1.tr f') h' (.inl ⟨ht, h8, j, j1, j2, ej, rfl, rfl⟩)
theorem md_270 {x y : Int32} (h : MI T to K P tr f I) (k : ∀ I' v t, frM I I' → MI T to K P t f I' → ra_fitAt to K x y v t → Q (some (.int v)) ((fl, n1, n2, p, q, ad), I', J)) : mm_wc (d + 5) 270 [.ref 46, .int x, .int y] ((fl, n1, n2, p, q, ad), I, J) Q := by
  refine fx_270 (ct_166 h (fun I1 f1 h1 => ⟨_, _, rfl, rfl, ?_⟩))
  have no : ∀ {I2 : mmI} w, frM I I2 → MI T to K P 0 f I2 → w ≤ 6 → w ≠ 4 → ra_fitAt to K x y (-1) w → mm_wc (d + 4) 167 [.ref 46, .int (nI w)] ((fl, 0, 0, p, q, ad), I2, J) (fun v τ => ∃ r4 I4 J4, v = some (.int r4) ∧ τ = ((fl, 0, 0, p, q, ad), I4, J4) ∧ Q (some (.int r4)) ((fl, n1, n2, p, q, ad), I4, J4)) := fun w f2 h2 hw h4 hr => ct_167 h2 hw h4 (fun I' f' h' => ⟨_, _, _, rfl, rfl, k I' _ _ (f2.tr f') h' hr⟩)
  refine ct_267 h1 (fun j ht h8 j1 j2 ej => ⟨_, _, _, rfl, rfl, fun _ => ?_, fun z => absurd rfl z⟩) (fun ht h8 hj => ⟨_, _, _, rfl, rfl, fun z => absurd z (by decide), fun _ => no 6 f1 h1 (by decide) (by decide) (.inr (.inl ⟨ht, h8, hj, rfl, rfl⟩))⟩) (fun ht hj => ⟨_, _, _, rfl, rfl, fun z => absurd z (by decide), fun _ => no 2 f1 h1 (by decide) (by decide) (.inr (.inr (.inl ⟨ht, hj, rfl, rfl⟩)))⟩) (fun ht => ⟨_, _, _, rfl, rfl, fun z => absurd z (by decide), fun _ => no 1 f1 h1 (by decide) (by decide) (.inr (.inr (.inr ⟨ht, rfl, rfl⟩)))⟩)
  obtain ⟨ok, -⟩ := h1.cake ht
  have hB := nB_le ok
  rw [ej]
  rcases z_ca y with hy | ⟨i, hi, ey⟩
  · refine ⟨fun z => ?_, fun _ => no 1 f1 h1 (by decide) (by decide) (.inl ⟨ht, h8, j, j1, j2, ej, .inr ⟨.inl hy, rfl, rfl⟩⟩)⟩
    rw [Int32.lt_iff_toInt_lt] at hy
    rw [Int32.le_iff_toInt_le] at z
    omega
  · rw [ey, z_le (by decide) hi]
    refine ⟨fun _ => ?_, fun z => absurd (Nat.zero_le _) z⟩
    refine ct_268 h1 ht j1 j2 (fun I' s b f' h' es hs hb => ⟨_, _, _, rfl, rfl, ?_⟩) (fun I' f' h' hn => ⟨_, _, _, rfl, rfl, ?_⟩)
    · have hbB := hb.1
      rw [z_le (by decide) (by omega)]
      rw [z_eq hi hs] at es
      subst es
      exact ⟨fun _ => k I' _ _ (f1.tr f') h' (.inl ⟨ht, h8, j, j1, j2, ej, .inl ⟨i, b, hi, ey, hb, rfl, rfl⟩⟩), fun z => absurd (Nat.zero_le _) z⟩
    · have hfit := fit_le ok j (Nat.le_refl (nB K))
      rw [z_le0 (by omega) (by decide)]
      refine ⟨fun z => by omega, fun _ => no 1 (f1.tr f') h' (by decide) (by decide) (.inl ⟨ht, h8, j, j1, j2, ej, .inr ⟨.inr ⟨i, hi, ey, ?_⟩, rfl, rfl⟩⟩)⟩
      rcases Nat.lt_or_ge i (sumB (rwN K j) (nB K)) with z | z
      · exact absurd rfl (hn i z)
      · exact z
end TA
