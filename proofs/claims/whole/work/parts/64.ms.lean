/-! the model's search -/
theorem mW.of {I I' : mmI} {R F N : Nat → Nat} {th : Nat} (h : mW I R F N th) (h1 : ∀ k, k < 72 → I' 49 k = I 49 k) (h2 : ∀ k, k < 11 → I' 54 k = I 54 k) (h3 : I' 46 27 = I 46 27) (h4 : ∀ k, k < 320 → I' 53 k = I 53 k) : mW I' R F N th := by
  obtain ⟨a, b, c, d, e, f⟩ := h
  have := nB_le a.1
  exact ⟨a.of h1, fun k hk => by rw [h2 k hk]; exact b k hk, c, by rw [h3]; exact d, fun k hk => by rw [h4 k (by omega)]; exact e k hk, f⟩
/-- the model's queue and levels -/
def mQ (I : mmI) (q dp : Nat → Nat) (tl : Nat) : Prop := I 46 33 = nI tl ∧ (∀ i, i < tl → I 59 i = nI (std (q i))) ∧ (∀ i, i < tl → I 58 (std (q i)) = nI (dp i)) ∧ (∀ s, s < 16384 → (∀ i, i < tl → std (q i) ≠ s) → I 58 s = -1)
def ap (q : Nat → Nat) (tl m : Nat) : Nat → Nat := fun i => if i = tl then m else q i
theorem ap_lt {q : Nat → Nat} {tl m i : Nat} (h : i < tl) : ap q tl m i = q i := by unfold ap; rw [if_neg (by omega)]
theorem ap_eq (q : Nat → Nat) (tl m : Nat) : ap q tl m tl = m := by unfold ap; rw [if_pos rfl]
theorem mQ.push {I : mmI} {q dp : Nat → Nat} {tl m' d : Nat} (h : mQ I q dp tl) (hV : ∀ i, i < tl → q i / 8 < 2 ^ 11) (hm : m' / 8 < 2 ^ 11) (hnew : ∀ i, i < tl → q i ≠ m') : mQ (mm_up (mm_up (mm_up I 58 (std m') (nI d)) 59 tl (nI (std m'))) 46 33 (nI (tl + 1))) (ap q tl m') (ap dp tl d) (tl + 1) := by
  obtain ⟨h1, h2, h3, h4⟩ := h
  refine ⟨up_s _ _ _ _, fun i hi => ?_, fun i hi => ?_, fun s hs hn => ?_⟩
  · rw [up_c (by decide), up_eq]
    by_cases e : i = tl
    · subst e; simp [ap]
    · rw [if_neg (fun z => e z.2), up_c (by decide), h2 i (by omega), ap_lt (by omega)]
  · rw [up_c (by decide), up_c (by decide), up_eq]
    by_cases e : i = tl
    · subst e; simp [ap]
    · have hne : ¬ std (q i) = std m' := fun z => hnew i (by omega) (std_inj (hV i (by omega)) hm z)
      rw [ap_lt (by omega), ap_lt (by omega), if_neg (fun z => hne z.2), h3 i (by omega)]
  · rw [up_c (by decide), up_c (by decide), up_eq]
    have h5 := hn tl (by omega)
    rw [ap_eq] at h5
    rw [if_neg (fun z => h5 z.2.symm)]
    refine h4 s hs (fun i hi => ?_)
    have := hn i (by omega)
    rw [ap_lt hi] at this
    exact this
theorem mQ.bound {q : Nat → Nat} {tl m' : Nat} (hV : ∀ i, i < tl → q i / 8 < 2 ^ 11) (hm : m' / 8 < 2 ^ 11) (hi : ∀ i j, i < tl → j < tl → q i = q j → i = j) (hnew : ∀ i, i < tl → q i ≠ m') : tl < 16384 := by
  have := pig 16384 (tl + 1) (fun i => std (ap q tl m' i)) (fun i hin => ?_) (fun i j hin hjn e => ?_)
  · omega
  · by_cases e : i = tl
    · subst e; rw [ap_eq]; exact std_lt hm
    · rw [ap_lt (by omega)]; exact std_lt (hV i (by omega))
  · by_cases e1 : i = tl <;> by_cases e2 : j = tl
    · omega
    · subst e1; rw [ap_eq, ap_lt (by omega)] at e
      exact absurd (std_inj hm (hV j (by omega)) e).symm (hnew j (by omega))
    · subst e2; rw [ap_eq, ap_lt (by omega)] at e
      exact absurd (std_inj (hV i (by omega)) hm e) (hnew i (by omega))
    · rw [ap_lt (by omega), ap_lt (by omega)] at e
      exact hi i j (by omega) (by omega) (std_inj (hV i (by omega)) (hV j (by omega)) e)
theorem mQ.lev {I : mmI} {q dp : Nat → Nat} {tl m' : Nat} (h : mQ I q dp tl) (hV : ∀ i, i < tl → q i / 8 < 2 ^ 11) (hm : m' / 8 < 2 ^ 11) : (∃ i, i < tl ∧ q i = m' ∧ I 58 (std m') = nI (dp i)) ∨ ((∀ i, i < tl → q i ≠ m') ∧ I 58 (std m') = -1) := by
  obtain ⟨h1, h2, h3, h4⟩ := h
  by_cases hx : ∃ i, i < tl ∧ q i = m'
  · obtain ⟨i, hi, e⟩ := hx
    exact .inl ⟨i, hi, e, by rw [← e]; exact h3 i hi⟩
  · refine .inr ⟨fun i hi e => hx ⟨i, hi, e⟩, h4 _ (std_lt hm) (fun i hi e => hx ⟨i, hi, std_inj (hV i hi) hm e⟩)⟩
def goal0 (sc : Nat → Nat → Prop) (s : Nat) (n : Nat) : Prop := ∃ m, rch sc s n m ∧ m / 8 = 0
abbrev seS : List (Nat × List Nat) := [(46, [33, 34, 35]), (58, []), (59, [])]
theorem nm1_lt : (-1 : Int32) < nI 0 := by decide
theorem nlt0 {a : Nat} (h : a < 2 ^ 31) : ¬ nI a < nI 0 := by rw [z_lt h (by decide)]; omega
section MS
variable {d n1 n2 : Nat} {fl : Nat → Bool} {p q : Bool} {ad : Nat → Nat} {J : mmJ} {Q : mmQ} {R F N : Nat → Nat} {th cnt s : Nat} {al : Nat → Nat}
/-- what stays while the model searches -/
def mC (I : mmI) (R F N : Nat → Nat) (th cnt : Nat) (al : Nat → Nat) : Prop := mW I R F N th ∧ I 46 32 = nI cnt ∧ cnt ≤ 320 ∧ (∀ k, k < cnt → I 57 k = nI (al k)) ∧ ∀ k, k < cnt → al k < nB R
theorem mC.fr {I I' : mmI} (h : mC I R F N th cnt al) (hf : fr seS I I') : mC I' R F N th cnt al := by
  obtain ⟨a, b, c, d, e⟩ := h
  exact ⟨a.of (fun k _ => hf 49 k rfl) (fun k _ => hf 54 k rfl) (hf 46 27 rfl) (fun k _ => hf 53 k rfl), by rw [hf 46 32 rfl]; exact b, c, fun k hk => by rw [hf 57 k rfl]; exact d k hk, e⟩
def mst (R F N : Nat → Nat) (th : Nat) (al : Nat → Nat) (k m : Nat) : Nat := zstp R th N (F (al k)) m
def msc (R F N : Nat → Nat) (th cnt : Nat) (al : Nat → Nat) (m m' : Nat) : Prop := ∃ k, k < cnt ∧ m' = mst R F N th al k m
theorem msc_V (ok : okR R) : ∀ m m', m / 8 < 2 ^ 11 → msc R F N th cnt al m m' → m' / 8 < 2 ^ 11 := by
  rintro m m' h ⟨k, -, rfl⟩
  exact zstp_lt ok h (by have := ok.c; omega)
/-- the search's own invariant -/
def mSI (I0 I : mmI) (R F N : Nat → Nat) (th cnt : Nat) (al : Nat → Nat) (s : Nat) (qq dp : Nat → Nat) (tl hd f : Nat) : Prop :=
  fr seS I0 I ∧ mQ I qq dp tl ∧ bf cnt (mst R F N th al) (msc R F N th cnt al) s qq dp tl hd f ∧ (∀ i, i < tl → dp i ≤ i) ∧ I 46 34 = nI (std s) ∧
  ((I 46 35 = -2 ∧ ∀ i, i < tl → qq i / 8 ≠ 0) ∨ ∃ L, I 46 35 = nI L ∧ L < 2 ^ 31 ∧ goal0 (msc R F N th cnt al) s L ∧ ∀ k, k < L → ¬ goal0 (msc R F N th cnt al) s k)
theorem ms_in {I0 : mmI} (hC : mC I0 R F N th cnt al) (hs : s / 8 < 2 ^ 11) {hd : Nat} {v : Nat}
    (hx : ∀ I qq dp tl, mSI I0 I R F N th cnt al s qq dp tl (hd + 1) 0 → hd < tl → mm_w Q (mm_wc (d + 3)) bk_239 73 [some (.ref 46), none, none, some (.int (nI (hd + 1))), none, none, none] [] ((fl, n1, n2, p, q, ad), I, J)) :
    ∀ n f, n + f = cnt → ∀ I qq dp tl, mSI I0 I R F N th cnt al s qq dp tl hd f → hd < tl → v = qq hd → mm_w Q (mm_wc (d + 3)) bk_239 119 [some (.ref 46), none, none, some (.int (nI hd)), some (.int (nI (std v))), some (.int (nI f)), none] [] ((fl, n1, n2, p, q, ad), I, J) := by
  intro n
  induction n with
  | zero =>
    rintro f hf I qq dp tl ⟨i1, i2, i3, i4, i5, i6⟩ hh hv
    obtain ⟨c1, c2, c3, c4, c5⟩ := hC.fr i1
    refine fx_239_119 ?_
    rw [c2, z_le (by omega) (by omega), z_add]
    exact ⟨fun _ => hx I qq dp tl ⟨i1, i2, i3.next hh (by omega), i4, i5, i6⟩ hh, fun e => absurd (by omega) e⟩
  | succ n ih =>
    rintro f hf I qq dp tl ⟨i1, i2, i3, i4, i5, i6⟩ hh hv
    obtain ⟨c1, c2, c3, c4, c5⟩ := hC.fr i1
    have ok := c1.1.1
    have hnB := nB_le ok
    have hV : ∀ i, i < tl → qq i / 8 < 2 ^ 11 := fun i hi => i3.V (V := fun m => m / 8 < 2 ^ 11) hs (msc_V ok) hi
    have hvV : v / 8 < 2 ^ 11 := by rw [hv]; exact hV hd hh
    refine fx_239_119 ?_
    rw [c2, z_le (by omega) (by omega), z_ix (by omega), c4 f (by omega)]
    refine ⟨fun e => absurd e (by omega), fun _ => ⟨z_in (by omega) (by decide), ?_⟩⟩
    refine ct_238 c1 hvV (c5 f (by omega)) ⟨_, _, _, rfl, rfl, ?_⟩
    have hm' : zstp R th N (F (al f)) v / 8 < 2 ^ 11 := zstp_lt ok hvV (by have := ok.c; omega)
    have hst : zstp R th N (F (al f)) v = mst R F N th al f (qq hd) := by rw [hv]; rfl
    generalize hmm : zstp R th N (F (al f)) v = m' at *
    have hsm := std_lt hm'
    have hsv := std_lt hvV
    rw [z_ix (by omega), z_ix (by omega), z_add]
    refine ⟨z_in hsm (by decide), ?_⟩
    rcases i2.lev hV hm' with ⟨i, hi, e1, e2⟩ | ⟨hnew, e2⟩
    · have hdi : dp i < 2 ^ 31 := by
        have := i4 i hi
        have := pig 16384 tl (fun i => std (qq i)) (fun i hi => std_lt (hV i hi)) (fun i j hi hj e => i3.2.2.2.2.1 i j hi hj (std_inj (hV i hi) (hV j hj) e))
        omega
      rw [e2]
      refine ⟨fun e => absurd e (nlt0 hdi), fun _ => ?_⟩
      exact ih (f + 1) (by omega) I qq dp tl ⟨i1, i2, i3.old hh hi (e1.trans hst), i4, i5, i6⟩ hh hv
    · have htl := mQ.bound hV hm' i3.2.2.2.2.1 hnew
      rw [e2, i2.1]
      refine ⟨fun _ => ⟨z_in hsv (by decide), z_in hsm (by decide), z_in htl (by decide), ?_⟩, fun e => absurd nm1_lt e⟩
      have el : I 58 (std v) = nI (dp hd) := by rw [hv]; exact i2.2.2.1 hd hh
      rw [el, z_add, z_ix (by omega), z_add]
      refine ct_237 ⟨_, _, _, rfl, rfl, ?_⟩
      rw [(std_b hm').1]
      have hP := i2.push (d := dp hd + 1) hV hm' hnew
      have hB := i3.new (fun _ _ => Iff.rfl) hh (show f < cnt by omega) (q' := ap qq tl m') (dp' := ap dp tl (dp hd + 1)) (fun i hi => ap_lt hi) ((ap_eq _ _ _).trans hst) (fun i hi => ap_lt hi) (ap_eq _ _ _) (fun i hi => by rw [← hst]; exact hnew i hi)
      have hd4 : ∀ i, i < tl + 1 → ap dp tl (dp hd + 1) i ≤ i := by
        intro i hi
        by_cases e : i = tl
        · subst e; rw [ap_eq]; have := i4 hd hh; omega
        · rw [ap_lt (by omega)]; exact i4 i (by omega)
      have hfr : fr seS I0 (mm_up (mm_up (mm_up I 58 (std m') (nI (dp hd + 1))) 59 tl (nI (std m'))) 46 33 (nI (tl + 1))) := ((i1.up rfl).up rfl).up rfl
      have hdl := i4 hd hh
      have hI5 : mm_up (mm_up (mm_up I 58 (std m') (nI (dp hd + 1))) 59 tl (nI (std m'))) 46 33 (nI (tl + 1)) 46 34 = nI (std s) := by
        rw [up_k (by decide), up_c (by decide), up_c (by decide)]; exact i5
      have hI35 : mm_up (mm_up (mm_up I 58 (std m') (nI (dp hd + 1))) 59 tl (nI (std m'))) 46 33 (nI (tl + 1)) 46 35 = I 46 35 := by
        rw [up_k (by decide), up_c (by decide), up_c (by decide)]
      have hI58 : mm_up (mm_up (mm_up I 58 (std m') (nI (dp hd + 1))) 59 tl (nI (std m'))) 46 33 (nI (tl + 1)) 58 (std m') = nI (dp hd + 1) := by
        rw [up_c (by decide), up_c (by decide), up_s]
      rw [hI35, hI58, z_eq (by omega) (by decide)]
      generalize mm_up (mm_up (mm_up I 58 (std m') (nI (dp hd + 1))) 59 tl (nI (std m'))) 46 33 (nI (tl + 1)) = I9 at *
      have hv9 : v = ap qq tl m' hd := by rw [ap_lt hh]; exact hv
      refine ⟨fun e0 => ih (f + 1) (by omega) _ _ _ _ ⟨hfr, hP, hB, hd4, hI5, ?_⟩ (by omega) hv9, fun e0 => ⟨fun e1 => ih (f + 1) (by omega) _ _ _ _ ⟨hfr, hP, hB, hd4, hI5, ?_⟩ (by omega) hv9, fun e1 => ⟨z_in hsm (by decide), ih (f + 1) (by omega) _ _ _ _ ⟨hfr.up rfl, ?_, hB, hd4, ?_, ?_⟩ (by omega) hv9⟩⟩⟩
      · rcases i6 with ⟨g1, g2⟩ | g
        · refine .inl ⟨by rw [hI35]; exact g1, fun i hi => ?_⟩
          by_cases e : i = tl
          · subst e; rw [ap_eq]; exact e0
          · rw [ap_lt (by omega)]; exact g2 i (by omega)
        · rw [hI35]; exact .inr g
      · rcases i6 with ⟨g1, g2⟩ | g
        · exact absurd g1 e1
        · rw [hI35]; exact .inr g
      · obtain ⟨k1, k2, k3, k4⟩ := hP
        exact ⟨by rw [up_k (by decide)]; exact k1, fun i hi => by rw [up_c (by decide)]; exact k2 i hi, fun i hi => by rw [up_c (by decide)]; exact k3 i hi, fun s hs hn => by rw [up_c (by decide)]; exact k4 s hs hn⟩
      · rw [up_k (by decide)]; exact hI5
      · refine .inr ⟨dp hd + 1, up_s _ _ _ _, by omega, ⟨m', ?_, e0⟩, ?_⟩
        · have := hB.2.2.2.2.2.1 tl (by omega)
          rw [ap_eq, ap_eq] at this
          exact this
        · rintro k hk ⟨m, hr, hm0⟩
          obtain ⟨j, hj, e3, -⟩ := i3.near (fun _ _ => Iff.rfl) k m hr (fun _ => by omega)
          rcases i6 with ⟨g1, g2⟩ | ⟨L, g1, g2, -, -⟩
          · exact g2 j hj (by rw [e3]; exact hm0)
          · rw [g1, z_m2 g2] at e1; exact e1
end MS
