/-! the model's gain, greedy, greedyEnd, spared, fans -/
def zst (K : Nat → Nat) (m b : Nat) : Nat := cstp K 0 0 (fanK K b) m
def gn (K : Nat → Nat) (m b : Nat) : Int32 := nI (zcnt (m / 8)) - nI (zcnt (zst K m b / 8))
/-- the first of greatest gain of those below B -/
def isGr (K : Nat → Nat) (m B b : Nat) : Prop := b < B ∧ (∀ c, c < B → ¬ gn K m b < gn K m c) ∧ ∀ c, c < b → gn K m c < gn K m b
theorem isGr.uq {K : Nat → Nat} {m B b b' : Nat} (h : isGr K m B b) (h' : isGr K m B b') : b = b' := by
  rcases Nat.lt_trichotomy b b' with z | z | z
  · exact absurd (h'.2.2 b z) (h.2.1 b' h'.1)
  · exact z
  · exact absurd (h.2.2 b' z) (h'.2.1 b h.1)
theorem isGr.old {K : Nat → Nat} {m B b : Nat} (h : isGr K m B b) (hn : gn K m B ≤ gn K m b) : isGr K m (B + 1) b := by
  refine ⟨by have := h.1; omega, fun c hc => ?_, h.2.2⟩
  by_cases e : c = B
  · subst e
    intro z
    rw [Int32.lt_iff_toInt_lt] at z
    rw [Int32.le_iff_toInt_le] at hn
    omega
  · exact h.2.1 c (by omega)
theorem isGr.new {K : Nat → Nat} {m B b : Nat} (h : isGr K m B b) (hn : ¬ gn K m B ≤ gn K m b) : isGr K m (B + 1) B := by
  rw [Int32.le_iff_toInt_le] at hn
  refine ⟨by omega, fun c hc => ?_, fun c hc => ?_⟩
  · by_cases e : c = B
    · subst e; intro z; rw [Int32.lt_iff_toInt_lt] at z; omega
    · have := h.2.1 c (by omega)
      rw [Int32.lt_iff_toInt_lt] at this ⊢
      omega
  · have := h.2.1 c hc
    rw [Int32.lt_iff_toInt_lt] at this ⊢
    omega
/-- by greedy breaths, n at most -/
def geR (K : Nat → Nat) : Nat → Nat → Nat → Prop
  | 0, m, r => r = m
  | n + 1, m, r => ∃ b, isGr K m (nB K) b ∧ ((¬ nI 0 < gn K m b ∧ r = m) ∨ (nI 0 < gn K m b ∧ geR K n (zst K m b) r))
theorem geR.uq {K : Nat → Nat} : ∀ {n m r r' : Nat}, geR K n m r → geR K n m r' → r = r'
  | 0, m, r, r', h, h' => by rw [show r = m from h, show r' = m from h']
  | n + 1, m, r, r', ⟨b, h1, h2⟩, ⟨b', h1', h2'⟩ => by
    have := h1.uq h1'
    subst this
    rcases h2 with ⟨a, e⟩ | ⟨a, e⟩ <;> rcases h2' with ⟨a', e'⟩ | ⟨a', e'⟩
    · rw [e, e']
    · exact absurd a' a
    · exact absurd a a'
    · exact geR.uq e e'
def va_gain (K : Nat → Nat) (P : zP) (x v : Int32) : Prop := ∃ b, b < nB K ∧ x = nI b ∧ v = gn K P.1 b
def ra_gain (to : Bool) (K : Nat → Nat) (P : zP) (x v : Int32) (t : Nat) : Prop := (to = true ∧ va_gain K P x v ∧ t = 0) ∨ (¬ (to = true ∧ ix (nB K) x) ∧ v = -100 ∧ t = 1)
def va_greedy (K : Nat → Nat) (P : zP) (v : Int32) : Prop := ∃ b, isGr K P.1 (nB K) b ∧ v = nI b
def va_gEnd (K : Nat → Nat) (P : zP) (v : Int32) : Prop := ∃ r, geR K (K 2) P.1 r ∧ v = nI (zcnt (r / 8))
section MG
variable {d n1 n2 : Nat} {fl : Nat → Bool} {p q : Bool} {ad : Nat → Nat} {J : mmJ} {Q : mmQ} {T : zT} {to : Bool} {K : Nat → Nat} {P : zP} {tr : Nat} {f : zF} {I : mmI}
/-- what blown gives, from now on -/
theorem bw {b : Nat} (h : MI T to K P tr f I) (ht : to = true) (hb : b < nB K) (h27 : I 46 27 = nI (2 ^ K 3 - 1 ||| 1024)) (k : ∀ v, v < 2 ^ 31 → v % 2 ^ 14 = zst K P.1 b / 8 → v / 2 ^ 14 = dzK K (zst K P.1 b) → Q (some (.int (nI v))) ((fl, n1, n2, p, q, ad), I, J)) : mm_wc (d + 2) 212 [.ref 46, .int (I 46 17), .int (I 46 18), .int (I 53 b)] ((fl, n1, n2, p, q, ad), I, J) Q := by
  obtain ⟨ok, R, ag, mb⟩ := h.cake ht
  have h3 := ok.c
  have e3 := ag 3 (by decide) (by decide) (by decide)
  have eK3 := ofK_ag ag ok 3
  have m1 : I 46 17 = nI (P.1 / 8) := (h.mem ht).1
  have m2 : I 46 18 = nI (dzs (ofK R 3) (R 3) (P.1 % 8)) := by rw [eK3, e3]; exact (h.mem ht).2.1
  have hv : vm K False P.1 := (h.vms ht).1
  rw [m1, m2, mb.2.1 b (by rw [agR_nB ag]; exact hb)]
  refine ct_212 mb.1 mb.2.2 (fun c _ => bset_lt _ _) h27 ?_
  have hm11 := hv.lt ok
  have hz := zcK ag ok (ms := 0) (th := 2 ^ K 3 - 1 ||| 1024) hb hv (fun i _ => Nat.zero_testBit i) (fun i hi => by rw [th_tb hi]; simp)
  obtain ⟨d1, d2⟩ := zstp_d mb.1.1 (th := 2 ^ K 3 - 1 ||| 1024) (N := nearM R 11) (f := fanM R 11 b) (m := P.1)
  have hdz : dzK K (zstp R (2 ^ K 3 - 1 ||| 1024) (nearM R 11) (fanM R 11 b) P.1) = bH (ofK R 3 &&& (2 ^ K 3 - 1 ||| 1024)) (P.1 / 8) (dzs (ofK R 3) (R 3) (P.1 % 8)) (fanM R 11 b) := by
    unfold dzK
    rw [d2, eK3, e3]
    have hhs := bH_sub (ofK K 3 &&& (2 ^ K 3 - 1 ||| 1024)) (P.1 / 8) (dzs (ofK K 3) (K 3) (P.1 % 8)) (fanM R 11 b)
    refine dzs_cde (fun c hc => ?_)
    have := (hhs c hc).2.2.1
    rw [Nat.testBit_and, Bool.and_eq_true] at this
    exact ⟨lt_of_tb (ofK_lt K 3) this.1, this.1⟩
  have hlt := zbn_lt mb.1.1 (th := 2 ^ K 3 - 1 ||| 1024) (N := nearM R 11) (f := fanM R 11 b) (z := dzs (ofK R 3) (R 3) (P.1 % 8)) hm11 (by omega)
  have hhl := bH_le (ofK R 3 &&& (2 ^ K 3 - 1 ||| 1024)) (P.1 / 8) (dzs (ofK R 3) (R 3) (P.1 % 8)) (fanM R 11 b)
  rw [or_mul (k := 14) (by omega)]
  rw [← d1, ← hdz]
  have hh2 : dzK K (zstp R (2 ^ K 3 - 1 ||| 1024) (nearM R 11) (fanM R 11 b) P.1) < 2 ^ 11 := by rw [hdz]; omega
  rw [← d1] at hlt
  rw [hz] at hlt hh2 ⊢
  unfold zst at k
  generalize cstp K 0 0 (fanK K b) P.1 = m' at *
  exact k _ (by omega) (by omega) (by omega)
theorem zst_vm (ok : okR K) {m : Nat} (hv : vm K False m) (b : Nat) : vm K False (zst K m b) := cstp_vm ok hv (fun i hi => by rw [Nat.zero_testBit] at hi; cases hi)
theorem MI.th27 {x : Int32} (h : MI T to K P tr f I) : MI T to K P tr f (mm_up I 46 27 x) := h.ss (fr.rf.up rfl)
theorem ct_225 {b : Nat} (h : MI T to K P tr f I) (ht : to = true) (hb : b < nB K) (k : ∀ I', fr [(46, [27])] I I' → I' 46 27 = nI (2 ^ K 3 - 1 ||| 1024) → MI T to K P tr f I' → Q (some (.int (gn K P.1 b))) ((fl, n1, n2, p, q, ad), I', J)) : mm_wc (d + 3) 225 [.ref 46, .int (nI b)] ((fl, n1, n2, p, q, ad), I, J) Q := by
  obtain ⟨ok, R, ag, mb⟩ := h.cake ht
  have hB := nB_le ok
  have e3 := ag 3 (by decide) (by decide) (by decide)
  have hv : vm K False P.1 := (h.vms ht).1
  have hm11 := hv.lt ok
  have hv2 := (zst_vm ok hv b).lt ok
  refine fx_225 (ct_224 mb.1 ⟨_, _, rfl, rfl, ?_⟩)
  rw [e3]
  have h2 := h.th27 (x := nI (2 ^ K 3 - 1 ||| 1024))
  have e17 := (h2.mem ht).1
  have f2 : fr [(46, [27])] I (mm_up I 46 27 (nI (2 ^ K 3 - 1 ||| 1024))) := fr.rf.up rfl
  have e27 : mm_up I 46 27 (nI (2 ^ K 3 - 1 ||| 1024)) 46 27 = nI (2 ^ K 3 - 1 ||| 1024) := up_s _ _ _ _
  generalize mm_up I 46 27 (nI (2 ^ K 3 - 1 ||| 1024)) = I2 at *
  have key : mm_wc (d + 2) 171 [.int (I2 46 17)] ((fl, 0, 0, p, q, ad), I2, J) (fun v τ => ∃ r2 I3 J3, v = some (.int r2) ∧ τ = ((fl, 0, 0, p, q, ad), I3, J3) ∧ r2 = nI (zcnt (P.1 / 8)) ∧ I3 = I2 ∧ J3 = J) := by
    rw [e17]
    exact ct_171 (by omega) ⟨_, _, _, rfl, rfl, rfl, rfl, rfl⟩
  refine mm_wcm key ?_
  rintro v τ ⟨r2, I3, J3, rfl, rfl, rfl, rfl, rfl⟩
  refine ⟨_, _, _, rfl, rfl, z_in (by omega) (by decide), ?_⟩
  rw [z_ix (by omega)]
  refine bw h2 ht hb e27 (fun v hv1 hv3 hv4 => ⟨_, _, _, rfl, rfl, ct_213 ⟨_, _, _, rfl, rfl, ?_⟩⟩)
  rw [hv3]
  refine ct_171 (by omega) ⟨_, _, _, rfl, rfl, ?_⟩
  exact k _ f2 e27 h2
theorem md_226 {x : Int32} (h : MI T to K P tr f I) (k : ∀ I' v t, frM I I' → MI T to K P t f I' → ra_gain to K P x v t → Q (some (.int v)) ((fl, n1, n2, p, q, ad), I', J)) : mm_wc (d + 4) 226 [.ref 46, .int x] ((fl, n1, n2, p, q, ad), I, J) Q := by
  refine fx_226 (ct_166 h (fun I1 f1 h1 => ⟨_, _, rfl, rfl, ?_⟩))
  refine ct_204 h1 (fun b ht hb eb => ⟨_, _, _, rfl, rfl, fun _ => ?_, fun z => absurd z n10⟩) (fun hn => ⟨_, _, _, rfl, rfl, fun z => absurd rfl z, fun _ => k _ _ _ (f1.up (by decide) (by decide)) (h1.no (w := 1) (by decide) (by decide)) (.inr ⟨hn, rfl, rfl⟩)⟩)
  rw [eb]
  exact ct_225 h1 ht hb (fun I' f' _ h' => ⟨_, _, _, rfl, rfl, k I' _ _ (f1.tr (f'.M rfl)) h' (.inl ⟨ht, ⟨b, hb, eb, rfl⟩, rfl⟩)⟩)
theorem ct_227 (h : MI T to K P tr f I) (ht : to = true) (k : ∀ I' b, fr [(46, [27])] I I' → MI T to K P tr f I' → isGr K P.1 (nB K) b → Q (some (.int (nI b))) ((fl, n1, n2, p, q, ad), I', J)) : mm_wc (d + 4) 227 [.ref 46] ((fl, n1, n2, p, q, ad), I, J) Q := by
  obtain ⟨ok, -⟩ := h.cake ht
  have hB := nB_le ok
  have hBp := nB_pos ok
  have lp : ∀ m b, m + b = nB K → ∀ I' c, fr [(46, [27])] I I' → MI T to K P tr f I' → isGr K P.1 b c → mm_w Q (mm_wc (d + 3)) bk_227 4 [some (.ref 46), some (.int (nI c)), some (.int (nI b))] [] ((fl, n1, n2, p, q, ad), I', J) := by
    intro m
    induction m with
    | zero =>
      intro b hb I' c f1 h1 hg
      obtain ⟨-, R, ag, mb⟩ := h1.cake ht
      refine fx_227_4 (ct_206 mb.1 ⟨_, _, _, rfl, rfl, ?_⟩)
      rw [agR_nB ag, z_le (by omega) (by omega)]
      have : b = nB K := by omega
      subst this
      exact ⟨fun _ => k I' c f1 h1 hg, fun e => absurd (Nat.le_refl _) e⟩
    | succ m ih =>
      intro b hb I' c f1 h1 hg
      obtain ⟨-, R, ag, mb⟩ := h1.cake ht
      have hcb := hg.1
      refine fx_227_4 (ct_206 mb.1 ⟨_, _, _, rfl, rfl, ?_⟩)
      rw [agR_nB ag, z_le (by omega) (by omega)]
      refine ⟨fun e => absurd e (by omega), fun _ => ct_225 h1 ht (by omega) (fun I2 f2 _ h2 => ⟨_, _, _, rfl, rfl, ct_225 h2 ht (by omega) (fun I3 f3 _ h3 => ⟨_, _, _, rfl, rfl, ?_⟩)⟩)⟩
      rw [z_add]
      exact ⟨fun e => ih (b + 1) (by omega) I3 c ((f1.tr f2).tr f3) h3 (hg.old e), fun e => ih (b + 1) (by omega) I3 b ((f1.tr f2).tr f3) h3 (hg.new e)⟩
  refine fx_227 (lp (nB K - 1) 1 (by omega) I 0 fr.rf h ⟨by decide, fun c hc => ?_, fun c hc => absurd hc (by omega)⟩)
  have : c = 0 := by omega
  subst this
  intro z; rw [Int32.lt_iff_toInt_lt] at z; omega
theorem md_228 (h : MI T to K P tr f I) (k : ∀ I' v t, frM I I' → MI T to K P t f I' → rf (to = true) (va_greedy K P) v t → Q (some (.int v)) ((fl, n1, n2, p, q, ad), I', J)) : mm_wc (d + 5) 228 [.ref 46] ((fl, n1, n2, p, q, ad), I, J) Q := by
  refine fx_228 (ct_166 h (fun I1 f1 h1 => ⟨_, _, rfl, rfl, ?_⟩))
  rw [h1.told, bI_0]
  refine ⟨fun e => ct_167 h1 (by decide) (by decide) (fun I' f' h' => ⟨_, _, _, rfl, rfl, k I' _ _ (f1.tr f') h' (.inr ⟨by rw [e]; decide, rfl, rfl⟩)⟩), fun e => ?_⟩
  have ht : to = true := by simpa using e
  exact ct_227 h1 ht (fun I' b f' h' hg => ⟨_, _, _, rfl, rfl, k I' _ _ (f1.tr (f'.M rfl)) h' (.inl ⟨ht, ⟨b, hg, rfl⟩, rfl⟩)⟩)
theorem md_254 (h : MI T to K P tr f I) (k : ∀ I' v t, frM I I' → MI T to K P t f I' → rf (to = true) (va_gEnd K P) v t → Q (some (.int v)) ((fl, n1, n2, p, q, ad), I', J)) : mm_wc (d + 5) 254 [.ref 46] ((fl, n1, n2, p, q, ad), I, J) Q := by
  refine fx_254 (ct_166 h (fun I1 f1 h1 => ⟨_, _, rfl, rfl, ?_⟩))
  rw [h1.told, bI_0]
  refine ⟨fun e => ?_, fun e => ct_167 h1 (by decide) (by decide) (fun I' f' h' => ⟨_, _, _, rfl, rfl, k I' _ _ (f1.tr f') h' (.inr ⟨by rw [e]; decide, rfl, rfl⟩)⟩)⟩
  have ht : to = true := by simpa using e
  obtain ⟨ok, -⟩ := h1.cake ht
  have hB := nB_le ok
  have hwx := ok.2.2.2.2.2.1
  obtain ⟨a1, a2, -, -⟩ := h1.mem ht
  have hv0 := (h1.vms ht).1
  rw [a1, a2]
  -- back to what was
  have fin : ∀ I2 m r, frM I1 I2 → MI T to K (m, P.2) 0 f I2 → geR K (K 2) P.1 r → r = m → mm_wc (d + 4) 171 [.int (I2 46 17)] ((fl, 0, 0, p, q, ad), I2, J) (fun v τ => ∃ r1 I1 J1, v = some (.int r1) ∧ τ = ((fl, 0, 0, p, q, ad), I1, J1) ∧ Q (some (.int r1)) ((fl, n1, n2, p, q, ad), mm_up (mm_up I1 46 17 (nI (P.1 / 8))) 46 18 (nI (dzK K P.1)), J1)) := by
    intro I2 m r f2 h2 hg hr
    subst hr
    have hm := ((h2.vms ht).1).lt ok
    have e17 : I2 46 17 = nI (r / 8) := (h2.mem ht).1
    rw [e17]
    have hm' : r / 8 < 2 ^ 11 := hm
    refine ct_171 (by omega) ⟨_, _, _, rfl, rfl, ?_⟩
    refine k _ _ _ (((f1.tr f2).up (by decide) (by decide)).up (by decide) (by decide)) (h2.now (m := P.1) ht ((fr.rf.up rfl).up rfl) hv0 (by rw [up_k (by decide), up_s]) (up_s _ _ _ _)) (.inl ⟨ht, ⟨r, hg, rfl⟩, rfl⟩)
  have lp : ∀ n j, n + j = K 2 → ∀ I2 m, frM I1 I2 → MI T to K (m, P.2) 0 f I2 → (∀ r, geR K n m r → geR K (K 2) P.1 r) → mm_w Q (mm_wc (d + 4)) bk_254 29 [some (.ref 46), some (.int (nI (P.1 / 8))), some (.int (nI (dzK K P.1))), some (.int (nI j)), none, none] [] ((fl, n1, n2, p, q, ad), I2, J) := by
    intro n
    induction n with
    | zero =>
      intro j hj I2 m f2 h2 hg
      obtain ⟨-, R, ag, mb⟩ := h2.cake ht
      refine fx_254_29 ?_
      rw [mb.1.2 2 (by decide), ag 2 (by decide) (by decide) (by decide), z_le (by omega) (by omega)]
      exact ⟨fun _ => fin I2 m m f2 h2 (hg m rfl) rfl, fun e => absurd (by omega) e⟩
    | succ n ih =>
      intro j hj I2 m f2 h2 hg
      obtain ⟨-, R, ag, mb⟩ := h2.cake ht
      refine fx_254_29 ?_
      rw [mb.1.2 2 (by decide), ag 2 (by decide) (by decide) (by decide), z_le (by omega) (by omega)]
      refine ⟨fun e => absurd e (by omega), fun _ => ct_227 h2 ht (fun I3 b f3 h3 hb => ⟨_, _, _, rfl, rfl, ct_225 h3 ht hb.1 (fun I4 f4 e27 h4 => ⟨_, _, _, rfl, rfl, fun e => ?_, fun e => ?_⟩)⟩)⟩
      · have hb1 := hb.1
        refine ⟨z_in (by omega) (by decide), ?_⟩
        rw [z_ix (by omega)]
        refine bw h4 ht hb1 e27 (fun v hv1 hv3 hv4 => ⟨_, _, _, rfl, rfl, ct_213 ⟨_, _, _, rfl, rfl, ct_214 hv1 ⟨_, _, _, rfl, rfl, ?_⟩⟩⟩)
        rw [hv3, hv4, z_add]
        have hv' := zst_vm ok (h4.vms ht).1 b
        refine ih (j + 1) (by omega) _ (zst K m b) ((((f2.tr (f3.M rfl)).tr (f4.M rfl)).up (by decide) (by decide)).up (by decide) (by decide)) (h4.now ht ((fr.rf.up rfl).up rfl) hv' (by rw [up_k (by decide), up_s]) (up_s _ _ _ _)) (fun r hr => hg r ⟨b, hb, .inr ⟨e, hr⟩⟩)
      · exact fin I4 m m ((f2.tr (f3.M rfl)).tr (f4.M rfl)) h4 (hg m ⟨b, hb, .inl ⟨e, rfl⟩⟩) rfl
  exact lp (K 2) 0 (by omega) I1 P.1 frM.rf h1 (fun r hr => hr)
end MG
