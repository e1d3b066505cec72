/-! the class's few: all rounds, and its public call -/
section FD
variable {d n1 n2 : Nat} {b1 b2 p q : Bool} {ad : Nat → Nat} {J : mmJ} {Q : mmQ} {K : Nat → Nat} {s cnt : Nat} {al : Nat → Nat} {I : mmI}
theorem fc_enda {t tl x : Nat} {qq : Nat → Nat} (ok : okR K) (hv : vm K False s) (hL : cNl I 72 K s t qq tl) (k : ∀ v, fewR K s t v → Q (some (.int v)) ((mm_fl true b1 b2, n1, n2, p, q, ad), I, J)) : mm_w Q (mm_wc (d + 2)) bk_104 98 [some (.ref 70), none, none, some (.ref 72), none, some (.int (nI tl)), some (.int (nI 10)), some (.int (nI 0)), none] [] ((mm_fl true b1 b2, n1, n2, p, q, ad), I, J) := by
  obtain ⟨l0, l1, l2, l3, l4⟩ := hL
  have hVr : ∀ n m, rch (kall K) s n m → vm K False m := fun n m h => (rch_V (V := vmm K False 0) ⟨hv, fun i _ => Nat.zero_testBit i⟩ (ksc_V ok (fun i hi => by rw [Nat.zero_testBit] at hi; cases hi)) n m h).1
  have lp : ∀ n i, n + i = tl → ∀ c, c ≤ 10 → (∀ i', i' < i → c ≤ zcnt (qq i' / 8)) → (c = 10 ∨ ∃ m, rch (kall K) s t m ∧ zcnt (m / 8) = c) → mm_w Q (mm_wc (d + 2)) bk_104 98 [some (.ref 70), none, none, some (.ref 72), none, some (.int (nI tl)), some (.int (nI c)), some (.int (nI i)), none] [] ((mm_fl true b1 b2, n1, n2, p, q, ad), I, J) := by
    intro n
    induction n with
    | zero =>
      intro i hi c c1 c2 c3
      refine fx_104_98 ?_
      rw [z_le (by omega) (by omega)]
      refine ⟨fun _ => k _ ⟨c, rfl, c1, fun m hm => ?_, c3⟩, fun e => absurd (by omega) e⟩
      rcases l4 with z | z
      · obtain ⟨i', hi', rfl⟩ := z m hm
        exact c2 i' (by omega)
      · have := c2 0 (by omega)
        rw [z, show zcnt (0 / 8) = 0 by decide] at this
        omega
    | succ n ih =>
      intro i hi c c1 c2 c3
      have vi := (hVr _ _ (l3 i (by omega)).2).lt ok
      have hz : zcnt (qq i / 8) ≤ 14 := popc_le _ _
      refine fx_104_98 ?_
      rw [z_le (by omega) (by omega), z_ix (by omega), (l3 i (by omega)).1]
      refine ⟨fun e => absurd e (by omega), fun _ => ⟨z_in (by omega) (by decide), ct_18 vi ⟨_, _, _, rfl, rfl, ct_1002 ⟨_, _, _, rfl, rfl, ?_⟩⟩⟩⟩
      rw [z_add]
      by_cases e : zcnt (qq i / 8) < c
      · rw [if_pos (by rw [z_lt (by omega) (by omega)]; exact e)]
        refine ih (i + 1) (by omega) _ (by omega) (fun i' hi' => ?_) (.inr ⟨_, (l3 i (by omega)).2, rfl⟩)
        by_cases ei : i' = i
        · subst ei; exact Nat.le_refl _
        · have := c2 i' (by omega); omega
      · rw [if_neg (by rw [z_lt (by omega) (by omega)]; exact e)]
        refine ih (i + 1) (by omega) c c1 (fun i' hi' => ?_) c3
        by_cases ei : i' = i
        · subst ei; omega
        · exact c2 i' (by omega)
  exact lp tl 0 (by omega) 10 (Nat.le_refl _) (fun i' hi' => absurd hi' (Nat.not_lt_zero _)) (.inl rfl)
theorem fc_endb {t tl x : Nat} {qq : Nat → Nat} (ok : okR K) (hv : vm K False s) (hL : cNl I 73 K s t qq tl) (k : ∀ v, fewR K s t v → Q (some (.int v)) ((mm_fl true b1 b2, n1, n2, p, q, ad), I, J)) : mm_w Q (mm_wc (d + 2)) bk_104 98 [some (.ref 70), none, none, some (.ref 73), none, some (.int (nI tl)), some (.int (nI 10)), some (.int (nI 0)), none] [] ((mm_fl true b1 b2, n1, n2, p, q, ad), I, J) := by
  obtain ⟨l0, l1, l2, l3, l4⟩ := hL
  have hVr : ∀ n m, rch (kall K) s n m → vm K False m := fun n m h => (rch_V (V := vmm K False 0) ⟨hv, fun i _ => Nat.zero_testBit i⟩ (ksc_V ok (fun i hi => by rw [Nat.zero_testBit] at hi; cases hi)) n m h).1
  have lp : ∀ n i, n + i = tl → ∀ c, c ≤ 10 → (∀ i', i' < i → c ≤ zcnt (qq i' / 8)) → (c = 10 ∨ ∃ m, rch (kall K) s t m ∧ zcnt (m / 8) = c) → mm_w Q (mm_wc (d + 2)) bk_104 98 [some (.ref 70), none, none, some (.ref 73), none, some (.int (nI tl)), some (.int (nI c)), some (.int (nI i)), none] [] ((mm_fl true b1 b2, n1, n2, p, q, ad), I, J) := by
    intro n
    induction n with
    | zero =>
      intro i hi c c1 c2 c3
      refine fx_104_98b ?_
      rw [z_le (by omega) (by omega)]
      refine ⟨fun _ => k _ ⟨c, rfl, c1, fun m hm => ?_, c3⟩, fun e => absurd (by omega) e⟩
      rcases l4 with z | z
      · obtain ⟨i', hi', rfl⟩ := z m hm
        exact c2 i' (by omega)
      · have := c2 0 (by omega)
        rw [z, show zcnt (0 / 8) = 0 by decide] at this
        omega
    | succ n ih =>
      intro i hi c c1 c2 c3
      have vi := (hVr _ _ (l3 i (by omega)).2).lt ok
      have hz : zcnt (qq i / 8) ≤ 14 := popc_le _ _
      refine fx_104_98b ?_
      rw [z_le (by omega) (by omega), z_ix (by omega), (l3 i (by omega)).1]
      refine ⟨fun e => absurd e (by omega), fun _ => ⟨z_in (by omega) (by decide), ct_18 vi ⟨_, _, _, rfl, rfl, ct_1002 ⟨_, _, _, rfl, rfl, ?_⟩⟩⟩⟩
      rw [z_add]
      by_cases e : zcnt (qq i / 8) < c
      · rw [if_pos (by rw [z_lt (by omega) (by omega)]; exact e)]
        refine ih (i + 1) (by omega) _ (by omega) (fun i' hi' => ?_) (.inr ⟨_, (l3 i (by omega)).2, rfl⟩)
        by_cases ei : i' = i
        · subst ei; exact Nat.le_refl _
        · have := c2 i' (by omega); omega
      · rw [if_neg (by rw [z_lt (by omega) (by omega)]; exact e)]
        refine ih (i + 1) (by omega) c c1 (fun i' hi' => ?_) c3
        by_cases ei : i' = i
        · subst ei; omega
        · exact c2 i' (by omega)
  exact lp tl 0 (by omega) 10 (Nat.le_refl _) (fun i' hi' => absurd hi' (Nat.not_lt_zero _)) (.inl rfl)
theorem cNl_fr {I I' : mmI} {A t tl : Nat} {qq : Nat → Nat} (h : cNl I A K s t qq tl) (hf : ∀ i, I' A i = I A i) : cNl I' A K s t qq tl := ⟨h.1, h.2.1, h.2.2.1, fun i hi => by rw [hf]; exact h.2.2.2.1 i hi, h.2.2.2.2⟩
theorem fc_go {I2 : mmI} {x : Nat} (ok : okR K) (hv : vm K False s) (hal : alw (fanK K) (fun _ => True) False (nB K) cnt al) (hR : cRb I2 K cnt al) (hx : x < 10) (k : ∀ I' v, fr [(71, []), (72, []), (73, [])] I2 I' → (∀ z, z < 16384 → I' 71 z = nI 0) → fewR K s x v → Q (some (.int v)) ((mm_fl true b1 b2, n1, n2, p, q, ad), I', J)) : ∀ n t, n + t = x → ∀ I' qq tl, fr [(71, []), (72, []), (73, [])] I2 I' → (∀ z, z < 16384 → ∃ e, e < t + 2 ∧ I' 71 z = nI e) → (cNl I' 72 K s t qq tl → mm_w Q (mm_wc (d + 3)) bk_104 42 [some (.ref 70), none, some (.int (nI x)), some (.ref 72), some (.ref 73), some (.int (nI tl)), some (.int (nI (t + 2))), none, none] [] ((mm_fl true b1 b2, n1, n2, p, q, ad), I', J)) ∧ (cNl I' 73 K s t qq tl → mm_w Q (mm_wc (d + 3)) bk_104 42 [some (.ref 70), none, some (.int (nI x)), some (.ref 73), some (.ref 72), some (.int (nI tl)), some (.int (nI (t + 2))), none, none] [] ((mm_fl true b1 b2, n1, n2, p, q, ad), I', J)) := by
  intro n
  induction n with
  | zero =>
    intro t ht I' qq tl hf hM
    have : t = x := by omega
    subst this
    refine ⟨fun hL => ?_, fun hL => ?_⟩
    · refine fx_104_42 ?_
      rw [z_add, z_lt (by omega) (by omega)]
      exact ⟨fun _ => ct_279_71 (d := d + 2) (fun I3 f3 h3 => ⟨_, _, rfl, rfl, fc_enda (d := d + 1) (x := 0) ok hv (cNl_fr hL (fun i => f3 72 i rfl)) (fun v hw => k I3 v (hf.tr (f3.sub rfl)) h3 hw)⟩), fun e => absurd (by omega) e⟩
    · refine fx_104_42b ?_
      rw [z_add, z_lt (by omega) (by omega)]
      exact ⟨fun _ => ct_279_71 (d := d + 2) (fun I3 f3 h3 => ⟨_, _, rfl, rfl, fc_endb (d := d + 1) (x := 0) ok hv (cNl_fr hL (fun i => f3 73 i rfl)) (fun v hw => k I3 v (hf.tr (f3.sub rfl)) h3 hw)⟩), fun e => absurd (by omega) e⟩
  | succ n ih =>
    intro t ht I' qq tl hf hM
    have hR' := cRb_fr hR hf rfl rfl rfl rfl rfl rfl rfl
    refine ⟨fun hL => ?_, fun hL => ?_⟩
    · refine fx_104_42 ?_
      rw [z_add x 1, z_lt (by omega) (by omega)]
      refine ⟨fun e => absurd e (by omega), fun _ => ct_105a ok hv hal hR' (by omega) (by omega) hL hM (fun I3 qq' tl' f3 L3 M3 => ⟨_, _, _, rfl, rfl, ?_⟩)⟩
      rw [z_add]
      exact (ih (t + 1) (by omega) I3 qq' tl' (hf.tr (f3.sub rfl)) M3).2 L3
    · refine fx_104_42b ?_
      rw [z_add x 1, z_lt (by omega) (by omega)]
      refine ⟨fun e => absurd e (by omega), fun _ => ct_105b ok hv hal hR' (by omega) (by omega) hL hM (fun I3 qq' tl' f3 L3 M3 => ⟨_, _, _, rfl, rfl, ?_⟩)⟩
      rw [z_add]
      exact (ih (t + 1) (by omega) I3 qq' tl' (hf.tr (f3.sub rfl)) M3).1 L3
theorem ct_104 {m L x : Nat} (hK : cK I p K) (hD : bD I K) (hms : I 6 13 = nI 0) (hF : cF I) (hL : cLs I L) (hL1 : L + 1 < 2 ^ 30) (hv : vm K False m) (hx : x < 10) (k : ∀ I' v, fr foS I I' → cF I' → cLs I' (L + 1) → fewR K m x v → Q (some (.int v)) ((mm_fl true b1 b2, n1, n2, p, q, ad), I', J)) : mm_wc (d + 4) 104 [.ref 70, .int (nI m), .int (nI x)] ((mm_fl true b1 b2, n1, n2, p, q, ad), I, J) Q := by
  have ok := hD.1
  have hB := nB_le ok
  have hml := hv.lt ok
  have eP : lP K 4 (-1) true = fun _ => True := by funext b; exact propext ⟨fun _ => trivial, fun _ => .inl rfl⟩
  refine fx_104 (ct_36 (its := true) hK hD.2.1 hD.2.2.1 hL hL1 (by decide) (fun I1 cnt al f1 g1 => ⟨_, _, rfl, rfl, ?_⟩))
  rw [eP] at g1
  have hal := g1.2.2.2.2.2.1
  have hF1 : cF I1 := cF_of hF (f1 70 5 rfl) (fun i => f1 72 i rfl) (fun i => f1 71 i rfl)
  refine ct_90 hF1 (fun I2 f2 e5 z71 => ⟨_, _, rfl, rfl, ?_⟩)
  rw [z_ix (by omega)]
  refine ⟨z_in (by omega) (by decide), ?_⟩
  have fS : fr foS I I2 := (f1.sub rfl).tr (f2.sub rfl)
  have hR : cRb I2 K cnt al := ⟨hD.fr fS rfl rfl rfl rfl, by rw [fS 6 13 rfl]; exact hms, by rw [f2 77 3 rfl]; exact g1.2.2.1, by have := hal.1; omega, fun k hk => by rw [f2 78 k rfl]; exact g1.2.2.2.1 k hk⟩
  have L2 : cLs I2 (L + 1) := cLs_of g1.Ls (f2 77 5 rfl) (fun i => f2 80 i rfl)
  have fU : fr [(71, []), (72, []), (73, [])] I2 (mm_up (mm_up I2 72 0 (nI m)) 71 m (nI 1)) := (fr.rf.up rfl).up rfl
  refine (fc_go ok hv hal hR hx (fun I3 v f3 z3 hw => ?_) x 0 (by omega) _ (fun _ => m) 1 fU (fun z hz => ?_)).1 ⟨by decide, Nat.le_refl _, fun i j hi hj _ => by omega, fun i hi => ⟨?_, rfl⟩, .inl (fun m' hm' => ⟨0, by decide, (show m' = m from hm').symm⟩)⟩
  · refine k I3 v (fS.tr (f3.sub rfl)) ⟨0, fun _ => 0, by rw [f3 70 5 rfl]; exact e5, by decide, fun i hi => absurd hi (Nat.not_lt_zero _), fun z hz _ => z3 z hz⟩ (cLs_of L2 (f3 77 5 rfl) (fun i => f3 80 i rfl)) hw
  · by_cases e : z = m
    · subst e; exact ⟨1, by decide, up_s _ _ _ _⟩
    · rw [up_k e, up_c (by decide)]; exact ⟨0, by decide, z71 z hz⟩
  · have : i = 0 := by omega
    subst this
    rw [up_c (by decide), up_s]
variable {s1 s2 : Nat} {b0 : Bool} {T : zT} {to : Bool} {P : zP} {tr l Lm : Nat} {f : zF}
theorem cd_140 {x : Int32} (h : CC T to K P tr f p q l I) (hs : b0 = true → SEi to K l Lm I) (hl : l < 2 ^ 30) (hL : Lm + 1 < 2 ^ 30) (k : ∀ c0 ad' I' v t, fr seA I I' → CC T to K P t f p q l I' → (c0 = true → SEi to K l (Lm + 1) I') → ra_few to K P x v t → Q (some (.int v)) ((mm_fl c0 b1 b2, s1 + owe 11 c0, s2 + owe 53657 c0, p, q, ad'), I', J)) : mm_wc (d + 5) 140 [.ref 0, .int x] ((mm_fl b0 b1 b2, s1 + owe 11 b0, s2 + owe 53657 b0, p, q, ad), I, J) Q := by
  have hsU : b0 = true → SEi to K l (Lm + 1) I := fun e => (hs e).up (by omega)
  have no : ∀ w, w ≤ 6 → w ≠ 4 → ra_few to K P x (-1) w → mm_wc (d + 4) 159 [.ref 0, .int (nI w)] ((mm_fl b0 b1 b2, 0, 0, p, q, ad), I, J) (fun v τ => ∃ r4 I4 J4, v = some (.int r4) ∧ τ = (((mm_fl b0 b1 b2), 0, 0, p, q, ad), I4, J4) ∧ Q (some (.int r4)) (((mm_fl b0 b1 b2), s1 + owe 11 b0, s2 + owe 53657 b0, p, q, ad), I4, J4)) := fun w h1 h2 hr => ct_159 h h1 h2 (fun I' f' h' => ⟨_, _, _, rfl, rfl, k b0 ad I' _ _ (f'.sub rfl) h' (fun e => (hsU e).of (Nat.le_refl _) (fun r k h1 h2 => f' r k (inS_no (lo := 70) (hi := 81) rfl h1 h2))) hr⟩)
  refine fx_140 ?_
  rw [h.told, bI_0]
  refine ⟨fun e => ?_, fun e => no 1 (by decide) (by decide) (.inr (.inr ⟨e, rfl, rfl⟩))⟩
  have ht : to = true := by simpa using e
  rcases z_ca x with hx | ⟨i, hi, ei⟩
  · refine ⟨fun _ => no 2 (by decide) (by decide) (.inr (.inl ⟨ht, fun ⟨c, hc, ec⟩ => ?_, rfl, rfl⟩)), fun z => absurd hx z⟩
    rw [ec, z_lt (by omega) (by decide)] at hx; omega
  · rw [ei, z_lt (by omega) (by decide), z_le (by omega) (by decide)]
    refine ⟨fun z => absurd z (Nat.not_lt_zero _), fun _ => ⟨fun h9 => ?_, fun h9 => no 2 (by decide) (by decide) (.inr (.inl ⟨ht, fun ⟨c, hc, ec⟩ => ?_, rfl, rfl⟩))⟩⟩
    · refine ⟨owe 11 b0, owe 53657 b0, Nat.le_add_left _ _, Nat.le_add_left _ _, ct_1010 h hs hl (fun ad2 I2 f2 s2 h2 => ⟨_, _, ad2, I2, rfl, rfl, ?_⟩)⟩
      obtain ⟨hF, ⟨L, hLs, hLL⟩, -, -⟩ := id s2
      rw [h2.now ht]
      refine ct_104 (h2.cake ht) (h2.bd ht) h2.ms hF hLs (by omega) (h2.vms ht).1 (by omega) (fun I3 v f3 hF3 hL3 hd => ⟨_, _, _, rfl, rfl, ?_⟩)
      have s3 : SEi to K l (Lm + 1) I3 := SE_run s2 f3 ⟨rfl, rfl, rfl, rfl, rfl⟩ rfl hF3 hL3 (by omega) (by omega)
      exact se_yes (CC_sf h2 f3 rfl rfl) s3 (f2.tr (f3.sub rfl)) (fun I' f' h' s' => k true ad2 I' _ _ f' h' (fun _ => s') (.inl ⟨ht, ⟨i, by omega, ei, hd⟩, rfl⟩))
    · rw [ei, z_eq (by omega) (by omega)] at ec; omega
end FD
