/-! the model's search: outer loop, contract -/
section MT
variable {d n1 n2 : Nat} {fl : Nat → Bool} {p q : Bool} {ad : Nat → Nat} {J : mmJ} {Q : mmQ} {R F N : Nat → Nat} {th cnt s : Nat} {al : Nat → Nat}
/-- how the search ends -/
def mSE (I0 I : mmI) (R F N : Nat → Nat) (th cnt : Nat) (al : Nat → Nat) (s : Nat) (r : Int32) : Prop :=
  ∃ qq dp tl hd, fr seS I0 I ∧ mQ I qq dp tl ∧ bf cnt (mst R F N th al) (msc R F N th cnt al) s qq dp tl hd 0 ∧ (∀ i, i < tl → dp i ≤ i) ∧ tl ≤ 16384 ∧ I 46 34 = nI (std s) ∧ I 46 35 = r ∧ isD (goal0 (msc R F N th cnt al) s) r ∧ (hd < tl → ∃ L, r = nI L ∧ L < 2 ^ 31 ∧ L ≤ dp hd)
theorem ms_tl {R F N : Nat → Nat} {th cnt s : Nat} {al : Nat → Nat} {qq dp : Nat → Nat} {tl hd f : Nat} (ok : okR R) (hs : s / 8 < 2 ^ 11) (h : bf cnt (mst R F N th al) (msc R F N th cnt al) s qq dp tl hd f) : tl ≤ 16384 := by
  have hV : ∀ i, i < tl → qq i / 8 < 2 ^ 11 := fun i hi => h.V (V := fun m => m / 8 < 2 ^ 11) hs (msc_V ok) hi
  exact pig 16384 tl (fun i => std (qq i)) (fun i hi => std_lt (hV i hi)) (fun i j hi hj e => h.2.2.2.2.1 i j hi hj (std_inj (hV i hi) (hV j hj) e))
theorem ms_out {I0 : mmI} (hC : mC I0 R F N th cnt al) (hs : s / 8 < 2 ^ 11) (h : ∀ I r, mSE I0 I R F N th cnt al s r → Q (some (.int r)) ((fl, n1, n2, p, q, ad), I, J)) :
    ∀ n hd, n + hd = 16385 → ∀ I qq dp tl, mSI I0 I R F N th cnt al s qq dp tl hd 0 → mm_w Q (mm_wc (d + 3)) bk_239 73 [some (.ref 46), none, none, some (.int (nI hd)), none, none, none] [] ((fl, n1, n2, p, q, ad), I, J) := by
  have ok := hC.1.1.1
  intro n
  induction n with
  | zero =>
    rintro hd hh I qq dp tl ⟨i1, i2, i3, i4, i5, i6⟩
    have h1 := ms_tl ok hs i3
    have h2 := i3.2.2.2.1
    omega
  | succ n ih =>
    rintro hd hh I qq dp tl hI
    have hI' := hI
    obtain ⟨i1, i2, i3, i4, i5, i6⟩ := hI
    have htl := ms_tl ok hs i3
    have hV : ∀ i, i < tl → qq i / 8 < 2 ^ 11 := fun i hi => i3.V (V := fun m => m / 8 < 2 ^ 11) hs (msc_V ok) hi
    refine fx_239_73 ?_
    rw [i2.1, z_le (by omega) (by omega)]
    refine ⟨fun e => ?_, fun e => ?_⟩
    · refine h I _ ⟨qq, dp, tl, hd, i1, i2, i3, i4, htl, i5, rfl, ?_, fun z => absurd z (by omega)⟩
      rcases i6 with ⟨g1, g2⟩ | ⟨L, g1, g2, g3, g4⟩
      · refine .inr ⟨g1, fun n => ?_⟩
        rintro ⟨m, hr, hm0⟩
        obtain ⟨j, hj, e3, -⟩ := i3.near (fun _ _ => Iff.rfl) n m hr (fun z => absurd z (by omega))
        exact g2 j hj (by rw [e3]; exact hm0)
      · exact .inl ⟨L, g1, g2, g3, g4⟩
    · have hht : hd < tl := by omega
      have hq := i2.2.1 hd hht
      have hsl := std_lt (hV hd hht)
      have go := ms_in (Q := Q) (fl := fl) (n1 := n1) (n2 := n2) (p := p) (q := q) (ad := ad) (J := J) (d := d) hC hs (hd := hd) (v := qq hd) (fun I qq dp tl hI _ => ih (hd + 1) (by omega) I qq dp tl hI) cnt 0 (by omega) I qq dp tl hI' hht rfl
      rw [z_ix (by omega), hq, z_ix (by omega), i2.2.2.1 hd hht]
      refine ⟨fun _ => ⟨z_in (by omega) (by decide), go⟩, fun e2 => ⟨z_in (by omega) (by decide), z_in hsl (by decide), ?_⟩⟩
      rcases i6 with ⟨g1, g2⟩ | ⟨L, g1, g2, g3, g4⟩
      · exact absurd g1 e2
      · have hdl := i4 hd hht
        rw [g1, z_le g2 (by omega)]
        refine ⟨fun e3 => ?_, fun e3 => ⟨z_in (by omega) (by decide), go⟩⟩
        exact h I _ ⟨qq, dp, tl, hd, i1, i2, i3, i4, htl, i5, g1, .inl ⟨L, rfl, g2, g3, g4⟩, fun _ => ⟨L, rfl, g2, e3⟩⟩
theorem ms_fill {I0 : mmI} {b z : Int32} (h : ∀ I, fr seS I0 I → (∀ s, s < 16384 → I 58 s = -1) → mm_w Q (mm_wc d) bk_239 2 [some (.ref 46), some (.int b), some (.int z), some (.int (nI 16384)), none, none, none] [] ((fl, n1, n2, p, q, ad), I, J)) :
    ∀ n k, n + k = 16384 → ∀ I, fr seS I0 I → (∀ s, s < k → I 58 s = -1) → mm_w Q (mm_wc d) bk_239 2 [some (.ref 46), some (.int b), some (.int z), some (.int (nI k)), none, none, none] [] ((fl, n1, n2, p, q, ad), I, J) := by
  intro n
  induction n with
  | zero =>
    intro k hk I hf hl
    have : k = 16384 := by omega
    subst this
    exact h I hf hl
  | succ n ih =>
    intro k hk I hf hl
    refine fx_239_2 ?_
    rw [z_le (by decide) (by omega), z_ix (by omega), z_add]
    refine ⟨fun e => absurd e (by omega), fun _ => ⟨z_in (by omega) (by decide), ih (k + 1) (by omega) _ (hf.up rfl) (fun s hs => ?_)⟩⟩
    rw [up_eq]
    split
    · rfl
    · rename_i e
      exact hl s (by have : s ≠ k := fun z => e ⟨rfl, z⟩
                     omega)
theorem ct_239 {I0 : mmI} (hC : mC I0 R F N th cnt al) {z : Nat} (hz : z < 2 ^ 31) (hs : s / 8 < 2 ^ 11) (hc : cde (ofK R 3) z (R 3) = s % 8) (h : ∀ I r, mSE I0 I R F N th cnt al s r → Q (some (.int r)) ((fl, n1, n2, p, q, ad), I, J)) :
    mm_wc (d + 4) 239 [.ref 46, .int (nI (s / 8)), .int (nI z)] ((fl, n1, n2, p, q, ad), I0, J) Q := by
  refine fx_239 (ms_fill (fun I hf hl => ?_) 16384 0 rfl I0 fr.rf (fun s hs => absurd hs (by omega)))
  have hR := (hC.fr hf).1.1
  refine fx_239_2 ⟨fun _ => ?_, fun e => absurd (by rw [z_le (by decide) (by decide)]; omega) e⟩
  refine ct_235 hR hz ⟨_, _, _, rfl, rfl, ?_⟩
  have hst : s / 8 ||| cde (ofK R 3) z (R 3) * 2 ^ 11 = std s := by rw [or_mul hs, hc]; rfl
  have hsl := std_lt hs
  rw [hst, z_ix (by omega), z_eq (by omega) (by decide)]
  have key : ∀ (x : Int32), ((x = -2 ∧ s / 8 ≠ 0) ∨ (x = nI 0 ∧ s / 8 = 0)) → mm_w Q (mm_wc (d + 3)) bk_239 73 [some (.ref 46), none, none, some (.int (nI 0)), none, none, none] [] ((fl, n1, n2, p, q, ad), mm_up (mm_up (mm_up (mm_up (mm_up I 46 34 (nI (std s))) 58 (std s) (nI 0)) 59 0 (nI (std s))) 46 33 (nI 1)) 46 35 x, J) := by
    intro x hx
    refine ms_out hC hs h 16385 0 rfl _ (fun _ => s) (fun _ => 0) 1 ⟨((((hf.up rfl).up rfl).up rfl).up rfl).up rfl, ⟨?_, fun i hi => ?_, fun i hi => ?_, fun t ht hn => ?_⟩, bf.start rfl rfl, fun i hi => Nat.zero_le _, ?_, ?_⟩
    · rw [up_k (by decide), up_s]
    · have : i = 0 := by omega
      subst this
      rw [up_c (by decide), up_c (by decide), up_s]
    · rw [up_c (by decide), up_c (by decide), up_c (by decide), up_s]
    · have := hn 0 (by omega)
      rw [up_c (by decide), up_c (by decide), up_c (by decide), up_k (fun e => this e.symm), up_c (by decide)]
      exact hl t ht
    · rw [up_k (by decide), up_k (by decide), up_c (by decide), up_c (by decide), up_s]
    · rw [up_s]
      rcases hx with ⟨e1, e2⟩ | ⟨e1, e2⟩
      · exact .inl ⟨e1, fun i _ => e2⟩
      · exact .inr ⟨0, e1, by decide, ⟨s, rfl, e2⟩, fun k hk => absurd hk (by omega)⟩
  exact ⟨z_in hsl (by decide), fun e => key _ (.inl ⟨rfl, e⟩), fun e => key _ (.inr ⟨rfl, e⟩)⟩
theorem ct_224 {I : mmI} (hR : mR I R) (h : Q none ((fl, n1, n2, p, q, ad), mm_up I 46 27 (nI (2 ^ R 3 - 1 ||| 1024)), J)) : mm_wc (d + 2) 224 [.ref 46] ((fl, n1, n2, p, q, ad), I, J) Q := by
  refine fx_224 (ct_205 hR ⟨_, _, _, rfl, rfl, ?_⟩)
  rw [z_or]; exact h
end MT
