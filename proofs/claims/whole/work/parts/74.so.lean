/-! the model's soonest -/
def goalS (sc : Nat → Nat → Prop) (s c n : Nat) : Prop := ∃ m, rch sc s n m ∧ (m / 8).testBit c = false
theorem goalS_congr {sc sc' : Nat → Nat → Prop} {s c : Nat} (h : ∀ n m, rch sc s n m ↔ rch sc' s n m) (n : Nat) : goalS sc s c n ↔ goalS sc' s c n := ⟨fun ⟨m, a, b⟩ => ⟨m, (h n m).mp a, b⟩, fun ⟨m, a, b⟩ => ⟨m, (h n m).mpr a, b⟩⟩
theorem std_tb {m c : Nat} (h : m / 8 < 2 ^ 11) (hc : c < 11) : (std m).testBit c = (m / 8).testBit c := by
  have := Nat.testBit_mod_two_pow (std m) 11 c
  rw [(std_b h).1] at this
  rw [this]; simp [hc]
abbrev soS : List (Nat × List Nat) := [(46, [33]), (58, []), (59, [])]
def va_soonest (K : Nat → Nat) (P : zP) (x v : Int32) : Prop := ∃ c, c < K 3 ∧ x = nI c ∧ isD (goalS (ksc K 0 0 (fanK K) (fun _ => True)) P.1 c) v
section SO
variable {d n1 n2 : Nat} {fl : Nat → Bool} {p q : Bool} {ad : Nat → Nat} {J : mmJ} {Q : mmQ} {R F N : Nat → Nat} {th cnt s c : Nat} {al : Nat → Nat}
theorem mC_so {I I' : mmI} (h : mC I R F N th cnt al) (hf : fr soS I I') : mC I' R F N th cnt al := h.fr (hf.sub rfl)
theorem so_in {I0 : mmI} (hC : mC I0 R F N th cnt al) (hs : s / 8 < 2 ^ 11) {hd : Nat} {v : Nat}
    (hx : ∀ I qq dp tl, fr soS I0 I → mQ I qq dp tl → bf cnt (mst R F N th al) (msc R F N th cnt al) s qq dp tl (hd + 1) 0 → (∀ i, i < tl → dp i ≤ i) → (∀ i, i < hd + 1 → (qq i / 8).testBit c = true) → mm_w Q (mm_wc (d + 3)) bk_246 90 [some (.ref 46), some (.int (nI c)), some (.int (nI (hd + 1))), none, none, none] [] ((fl, n1, n2, p, q, ad), I, J)) :
    ∀ n f, n + f = cnt → ∀ I qq dp tl, fr soS I0 I → mQ I qq dp tl → bf cnt (mst R F N th al) (msc R F N th cnt al) s qq dp tl hd f → (∀ i, i < tl → dp i ≤ i) → (∀ i, i < hd + 1 → (qq i / 8).testBit c = true) → hd < tl → v = qq hd → mm_w Q (mm_wc (d + 3)) bk_246 123 [some (.ref 46), some (.int (nI c)), some (.int (nI hd)), some (.int (nI (std v))), some (.int (nI f)), none] [] ((fl, n1, n2, p, q, ad), I, J) := by
  intro n
  induction n with
  | zero =>
    intro f hf I qq dp tl i1 i2 i3 i4 i5 hh hv
    obtain ⟨c1, c2, c3, c4, c5⟩ := mC_so hC i1
    refine fx_246_123 ?_
    rw [c2, z_le (by omega) (by omega), z_add]
    exact ⟨fun _ => hx I qq dp tl i1 i2 (i3.next hh (by omega)) i4 i5, fun e => absurd (by omega) e⟩
  | succ n ih =>
    intro f hf I qq dp tl i1 i2 i3 i4 i5 hh hv
    obtain ⟨c1, c2, c3, c4, c5⟩ := mC_so hC i1
    have ok := c1.1.1
    have hnB := nB_le ok
    have hV : ∀ i, i < tl → qq i / 8 < 2 ^ 11 := fun i hi => i3.V (V := fun m => m / 8 < 2 ^ 11) hs (msc_V ok) hi
    have hvV : v / 8 < 2 ^ 11 := by rw [hv]; exact hV hd hh
    refine fx_246_123 ?_
    rw [c2, z_le (by omega) (by omega), z_ix (by omega), c4 f (by omega)]
    refine ⟨fun e => absurd e (by omega), fun _ => ⟨z_in (by omega) (by decide), ?_⟩⟩
    refine ct_238 c1 hvV (c5 f (by omega)) ⟨_, _, _, rfl, rfl, ?_⟩
    have hm' : zstp R th N (F (al f)) v / 8 < 2 ^ 11 := zstp_lt ok hvV (by have := ok.c; omega)
    have hst : zstp R th N (F (al f)) v = mst R F N th al f (qq hd) := by rw [hv]; rfl
    generalize zstp R th N (F (al f)) v = m' at *
    have hsm := std_lt hm'
    have hsv := std_lt hvV
    rw [z_ix (by omega), z_ix (by omega), z_add]
    refine ⟨z_in hsm (by decide), ?_⟩
    rcases i2.lev hV hm' with ⟨i, hi, e1, e2⟩ | ⟨hnew, e2⟩
    · have hdi : dp i < 2 ^ 31 := by
        have := i4 i hi
        have := ms_tl ok hs i3
        omega
      rw [e2]
      refine ⟨fun e => absurd e (nlt0 hdi), fun _ => ?_⟩
      exact ih (f + 1) (by omega) I qq dp tl i1 i2 (i3.old hh hi (e1.trans hst)) i4 i5 hh hv
    · have htl := mQ.bound hV hm' i3.2.2.2.2.1 hnew
      have el : I 58 (std v) = nI (dp hd) := by rw [hv]; exact i2.2.2.1 hd hh
      rw [e2, i2.1, el]
      simp (disch := omega) only [z_add, z_ix]
      refine ⟨fun _ => ⟨z_in hsv (by decide), z_in hsm (by decide), z_in htl (by decide), ?_⟩, fun e => absurd nm1_lt e⟩
      have hP := i2.push (d := dp hd + 1) hV hm' hnew
      have hB := i3.new (fun _ _ => Iff.rfl) hh (show f < cnt by omega) (q' := ap qq tl m') (dp' := ap dp tl (dp hd + 1)) (fun i hi => ap_lt hi) ((ap_eq _ _ _).trans hst) (fun i hi => ap_lt hi) (ap_eq _ _ _) (fun i hi => by rw [← hst]; exact hnew i hi)
      have hd4 : ∀ i, i < tl + 1 → ap dp tl (dp hd + 1) i ≤ i := by
        intro i hi
        by_cases e : i = tl
        · subst e; rw [ap_eq]; have := i4 hd hh; omega
        · rw [ap_lt (by omega)]; exact i4 i (by omega)
      exact ih (f + 1) (by omega) _ _ _ _ (((i1.up rfl).up rfl).up rfl) hP hB hd4 (fun i hi => by rw [ap_lt (by omega)]; exact i5 i hi) (by omega) (by rw [ap_lt hh]; exact hv)
theorem so_out {I0 : mmI} (hC : mC I0 R F N th cnt al) (hs : s / 8 < 2 ^ 11) (hc : c < 11) (h : ∀ I r, fr soS I0 I → isD (goalS (msc R F N th cnt al) s c) r → Q (some (.int r)) ((fl, n1, n2, p, q, ad), I, J)) :
    ∀ n hd, n + hd = 16385 → ∀ I qq dp tl, fr soS I0 I → mQ I qq dp tl → bf cnt (mst R F N th al) (msc R F N th cnt al) s qq dp tl hd 0 → (∀ i, i < tl → dp i ≤ i) → (∀ i, i < hd → (qq i / 8).testBit c = true) → mm_w Q (mm_wc (d + 3)) bk_246 90 [some (.ref 46), some (.int (nI c)), some (.int (nI hd)), none, none, none] [] ((fl, n1, n2, p, q, ad), I, J) := by
  have ok := hC.1.1.1
  intro n
  induction n with
  | zero =>
    intro hd hh I qq dp tl i1 i2 i3 i4 i5
    have h1 := ms_tl ok hs i3
    have h2 := i3.2.2.2.1
    omega
  | succ n ih =>
    intro hd hh I qq dp tl i1 i2 i3 i4 i5
    have htl := ms_tl ok hs i3
    have hV : ∀ i, i < tl → qq i / 8 < 2 ^ 11 := fun i hi => i3.V (V := fun m => m / 8 < 2 ^ 11) hs (msc_V ok) hi
    have hhd := i3.2.2.2.1
    refine fx_246_90 ?_
    rw [i2.1, z_le (by omega) (by omega)]
    refine ⟨fun e => h I _ i1 (.inr ⟨rfl, fun n => ?_⟩), fun e => ?_⟩
    · rintro ⟨m, hr, hm0⟩
      obtain ⟨j, hj, e3, -⟩ := i3.near (fun _ _ => Iff.rfl) n m hr (fun z => absurd z (by omega))
      have := i5 j (by omega)
      rw [e3, hm0] at this; cases this
    · have hht : hd < tl := by omega
      have hsl := std_lt (hV hd hht)
      rw [z_ix (by omega), i2.2.1 hd hht, z_ix (by omega)]
      refine ⟨z_in (by omega) (by decide), ct_170 (by omega) (by omega) ⟨_, _, _, rfl, rfl, ?_⟩⟩
      rw [std_tb (hV hd hht) hc, bI_0]
      refine ⟨fun e2 => ?_, fun e2 => ⟨z_in hsl (by decide), ?_⟩⟩
      · have e2 : (qq hd / 8).testBit c = true := by simpa using e2
        refine so_in (d := d) hC hs (hd := hd) (v := qq hd) (fun I qq dp tl a1 a2 a3 a4 a5 => ih (hd + 1) (by omega) I qq dp tl a1 a2 a3 a4 a5) cnt 0 (by omega) I qq dp tl i1 i2 i3 i4 (fun i hi => ?_) hht rfl
        by_cases ei : i = hd
        · subst ei; exact e2
        · exact i5 i (by omega)
      · have hdl := i4 hd hht
        rw [i2.2.2.1 hd hht]
        refine h I _ i1 (.inl ⟨dp hd, rfl, by omega, ⟨qq hd, i3.2.2.2.2.2.1 hd hht, e2⟩, ?_⟩)
        rintro k hk ⟨m, hr, hm0⟩
        obtain ⟨j, hj, e3, e4⟩ := i3.near (fun _ _ => Iff.rfl) k m hr (fun _ => by omega)
        have hjh : j < hd := by
          rcases Nat.lt_or_ge j hd with z | z
          · exact z
          · have := i3.2.2.2.2.2.2.1 hd j z hj
            omega
        have := i5 j hjh
        rw [e3, hm0] at this; cases this
theorem so_fill {I0 : mmI} (h : ∀ I, fr soS I0 I → (∀ s, s < 16384 → I 58 s = -1) → mm_w Q (mm_wc d) bk_246 33 [some (.ref 46), some (.int (nI c)), some (.int (nI 16384)), none, none, none] [] ((fl, n1, n2, p, q, ad), I, J)) :
    ∀ n k, n + k = 16384 → ∀ I, fr soS I0 I → (∀ s, s < k → I 58 s = -1) → mm_w Q (mm_wc d) bk_246 33 [some (.ref 46), some (.int (nI c)), some (.int (nI k)), none, none, none] [] ((fl, n1, n2, p, q, ad), I, J) := by
  intro n
  induction n with
  | zero =>
    intro k hk I hf hl
    have : k = 16384 := by omega
    subst this
    exact h I hf hl
  | succ n ih =>
    intro k hk I hf hl
    refine fx_246_33 ?_
    rw [z_le (by decide) (by omega), z_ix (by omega), z_add]
    refine ⟨fun e => absurd e (by omega), fun _ => ⟨z_in (by omega) (by decide), ih (k + 1) (by omega) _ (hf.up rfl) (fun s hs => ?_)⟩⟩
    by_cases e : s = k
    · subst e; rw [up_s]
    · rw [up_k e]; exact hl s (by omega)
variable {T : zT} {to : Bool} {K : Nat → Nat} {P : zP} {tr : Nat} {f : zF} {I : mmI}
theorem md_246 {x : Int32} (h : MI T to K P tr f I) (k : ∀ I' v t, frM I I' → MI T to K P t f I' → rf (to = true ∧ ix (K 3) x) (va_soonest K P x) v t → Q (some (.int v)) ((fl, n1, n2, p, q, ad), I', J)) : mm_wc (d + 5) 246 [.ref 46, .int x] ((fl, n1, n2, p, q, ad), I, J) Q := by
  refine fx_246 (ct_166 h (fun I1 f1 h1 => ⟨_, _, rfl, rfl, ?_⟩))
  refine ct_201 h1 (fun c ht hc ec => ⟨_, _, _, rfl, rfl, fun _ => ?_, fun z => absurd z n10⟩) (fun hn => ⟨_, _, _, rfl, rfl, fun z => absurd rfl z, fun _ => ct_167 h1 (by decide) (by decide) (fun I' f' h' => ⟨_, _, _, rfl, rfl, k I' _ _ (f1.tr f') h' (.inr ⟨hn, rfl, rfl⟩)⟩)⟩)
  obtain ⟨ok, R, ag, mb⟩ := h1.cake ht
  have e3 := ag 3 (by decide) (by decide) (by decide)
  have h3 := ok.c
  have hB := agR_nB ag
  have hBl := nB_le ok
  rw [ec]
  refine ct_234 (e := false) (F := fanM R 11) mb.1 mb.2.1 (fun b _ => Nat.lt_trans (bset_lt _ _) (by decide)) (fun I2 cnt al f2 g1 g2 g3 => ⟨_, _, rfl, rfl, ?_⟩)
  have mb2 : mB I2 R := mb.of (fun k _ => f2 49 k rfl) (fun k => f2 53 k rfl) (fun k => f2 54 k rfl)
  refine ct_224 mb2.1 ⟨_, _, rfl, rfl, ?_⟩
  have f3 : fr ssS I1 (mm_up I2 46 27 (nI (2 ^ R 3 - 1 ||| 1024))) := (f2.sub rfl).up rfl
  have mb3 : mB (mm_up I2 46 27 (nI (2 ^ R 3 - 1 ||| 1024))) R := mb2.of (fun k _ => up_c (by decide)) (fun k => up_c (by decide)) (fun k => up_c (by decide))
  have hC : mC (mm_up I2 46 27 (nI (2 ^ R 3 - 1 ||| 1024))) R (fanM R 11) (nearM R 11) (2 ^ R 3 - 1 ||| 1024) cnt al := ⟨⟨mb3.1, mb3.2.2, fun c _ => bset_lt _ _, up_s _ _ _ _, mb3.2.1, fun b _ => bset_lt _ _⟩, by rw [up_k (by decide)]; exact g1, by have := g3.1; omega, fun k hk => by rw [up_c (by decide)]; exact g2 k hk, fun k hk => (g3.2.1 k hk).1⟩
  generalize mm_up I2 46 27 (nI (2 ^ R 3 - 1 ||| 1024)) = I3 at *
  refine so_fill (I0 := I3) (fun I4 f4 hl => ?_) 16384 0 rfl I3 fr.rf (fun s hs => absurd hs (by omega))
  have f5 : fr ssS I1 I4 := f3.tr (f4.sub rfl)
  have h4 := h1.ss f5
  obtain ⟨m1, m2, -, -⟩ := h4.mem ht
  have hv := (h4.vms ht).1
  have hs11 := hv.lt ok
  have hsl := std_lt hs11
  refine fx_246_33 ⟨fun _ => ?_, fun e => absurd (by rw [z_le (by decide) (by decide)]; omega) e⟩
  rw [m1, m2]
  refine ct_235 (mC_so hC f4).1.1 (Nat.lt_trans (lt_p11 ok (dzK_lt K P.1)) (by decide)) ⟨_, _, _, rfl, rfl, ?_⟩
  have hst : P.1 / 8 ||| cde (ofK R 3) (dzK K P.1) (R 3) * 2 ^ 11 = std P.1 := by
    rw [or_mul hs11, ofK_ag ag ok, e3]
    unfold std
    have := hv.2.1
    unfold dzK
    omega
  rw [hst, z_ix (by omega)]
  refine ⟨z_in hsl (by decide), ?_⟩
  refine so_out (c := c) hC hs11 (by omega) (fun I' r f' hr => ?_) 16385 0 rfl _ (fun _ => P.1) (fun _ => 0) 1 (((f4.up rfl).up rfl).up rfl) ⟨up_s _ _ _ _, fun i hi => ?_, fun i hi => ?_, fun t ht' hn => ?_⟩ (bf.start rfl rfl) (fun i hi => Nat.zero_le _) (fun i hi => absurd hi (by omega))
  · have f6 : fr ssS I1 I' := f3.tr (f'.sub rfl)
    refine k I' _ _ (f1.tr (fr.ssM f6)) (h1.ss f6) (.inl ⟨⟨ht, c, hc, ec⟩, ⟨c, hc, ec, hr.congr (fun n => (goalS_congr (rch_congr (V := vmm K False 0) ⟨hv, fun i _ => Nat.zero_testBit i⟩ (ksc_V ok (fun i hi => by rw [Nat.zero_testBit] at hi; cases hi)) (fun m m' hV => msc_ksc hB g3 (fun b hb => aP_allK ok ag hb) (V := vmm K False 0) (fun b hb m hm => zcK ag ok hb hm.1 hm.2 (fun i hi => by rw [e3, th_tb hi]; simp)) m m' hV)) n).symm)⟩, rfl⟩)
  · have : i = 0 := by omega
    subst this
    rw [up_c (by decide), up_c (by decide), up_s]
  · rw [up_c (by decide), up_s]
  · have := hn 0 (by omega)
    rw [up_c (by decide), up_k (fun e => this e.symm), up_c (by decide)]
    exact hl t ht'
end SO
