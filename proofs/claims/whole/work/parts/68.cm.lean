/-! the class: forget, note, distance -/
/-- the queue of the class -/
def cQ (I : mmI) (q dp : Nat → Nat) (tl : Nat) : Prop := I 70 5 = nI tl ∧ (∀ i, i < tl → I 72 i = nI (q i)) ∧ (∀ i, i < tl → I 73 i = nI (dp i)) ∧ (∀ i, i < tl → I 71 (q i) = nI (i + 1)) ∧ (∀ s, s < 16384 → (∀ i, i < tl → q i ≠ s) → I 71 s = nI 0)
/-- what forgetting rests on -/
def cF (I : mmI) : Prop := ∃ (tl : Nat) (q : Nat → Nat), I 70 5 = nI tl ∧ tl ≤ 6912 ∧ (∀ i, i < tl → I 72 i = nI (q i) ∧ q i < 16384) ∧ (∀ s, s < 16384 → (∀ i, i < tl → q i ≠ s) → I 71 s = nI 0)
theorem cQ.F {I : mmI} {q dp : Nat → Nat} {tl : Nat} (h : cQ I q dp tl) (ht : tl ≤ 6912) (hq : ∀ i, i < tl → q i < 16384) : cF I := ⟨tl, q, h.1, ht, fun i hi => ⟨h.2.1 i hi, hq i hi⟩, h.2.2.2.2⟩
abbrev diS : List (Nat × List Nat) := [(70, [5]), (71, []), (72, []), (73, [])]
section CM
variable {d n1 n2 : Nat} {b1 b2 p q : Bool} {ad : Nat → Nat} {J : mmJ} {Q : mmQ} {K : Nat → Nat}
theorem ct_90 {I0 : mmI} (h : cF I0) (k : ∀ I, fr [(70, [5]), (71, [])] I0 I → I 70 5 = nI 0 → (∀ s, s < 16384 → I 71 s = nI 0) → Q none ((mm_fl true b1 b2, n1, n2, p, q, ad), I, J)) : mm_wc (d + 1) 90 [.ref 70] ((mm_fl true b1 b2, n1, n2, p, q, ad), I0, J) Q := by
  obtain ⟨tl, qq, h1, h2, h3, h4⟩ := h
  have lp : ∀ m i, m + i = tl → ∀ I, fr [(70, [5]), (71, [])] I0 I → I 70 5 = nI tl → (∀ s, s < 16384 → (∀ j, i ≤ j → j < tl → qq j ≠ s) → I 71 s = nI 0) → mm_w Q (mm_wc d) bk_90 2 [some (.ref 70), some (.int (nI i))] [] ((mm_fl true b1 b2, n1, n2, p, q, ad), I, J) := by
    intro m
    induction m with
    | zero =>
      intro i hi I hf ht hs
      refine fx_90_2 ?_
      rw [ht, z_le (by omega) (by omega)]
      refine ⟨fun _ => k _ (hf.up rfl) (up_s _ _ _ _) (fun s hs' => ?_), fun e => absurd (by omega) e⟩
      rw [up_c (by decide)]
      exact hs s hs' (fun j h1 h2 => absurd h2 (by omega))
    | succ m ih =>
      intro i hi I hf ht hs
      obtain ⟨g1, g2⟩ := h3 i (by omega)
      refine fx_90_2 ?_
      rw [ht, z_le (by omega) (by omega), z_ix (by omega), hf 72 i rfl, g1, z_ix (by omega), z_add]
      refine ⟨fun e => absurd e (by omega), fun _ => ⟨z_in (by omega) (by decide), z_in g2 (by decide), ih (i + 1) (by omega) _ (hf.up rfl) (by rw [up_c (by decide)]; exact ht) (fun s hs' hn => ?_)⟩⟩
      by_cases e : s = qq i
      · subst e; rw [up_s]
      · rw [up_k e]
        refine hs s hs' (fun j hj1 hj2 => ?_)
        by_cases ej : j = i
        · subst ej; exact fun z => e z.symm
        · exact hn j (by omega) hj2
  exact fx_90 (lp tl 0 (by omega) I0 fr.rf h1 (fun s hs hn => h4 s hs (fun i hi => hn i (by omega) hi)))
theorem ct_91 {I0 : mmI} {qq dp : Nat → Nat} {tl m dd : Nat} (h : cQ I0 qq dp tl) (ht : tl < 6912) (hm : m < 16384) (hnew : ∀ i, i < tl → qq i ≠ m) (k : ∀ I, fr diS I0 I → cQ I (ap qq tl m) (ap dp tl dd) (tl + 1) → Q none ((mm_fl true b1 b2, n1, n2, p, q, ad), I, J)) : mm_wc (d + 1) 91 [.ref 70, .int (nI m), .int (nI dd)] ((mm_fl true b1 b2, n1, n2, p, q, ad), I0, J) Q := by
  obtain ⟨h1, h2, h3, h4, h5⟩ := h
  refine fx_91 ?_
  rw [h1, z_le (by decide) (by omega), z_ix (by omega), z_ix (by omega), z_add]
  have hv : vp_in (nI tl) 6912 := z_in ht (by decide)
  refine ⟨fun e => absurd e (by omega), fun _ => ⟨hv, hv, z_in hm (by decide), k _ ((((fr.rf.up rfl).up rfl).up rfl).up rfl) ⟨?_, fun i hi => ?_, fun i hi => ?_, fun i hi => ?_, fun s hs hn => ?_⟩⟩⟩
  · rw [up_c (by decide), up_s]
  · rw [up_c (by decide), up_c (by decide), up_c (by decide)]
    by_cases e : i = tl
    · subst e; rw [up_s, ap_eq]
    · rw [up_k e, ap_lt (by omega)]; exact h2 i (by omega)
  · rw [up_c (by decide), up_c (by decide)]
    by_cases e : i = tl
    · subst e; rw [up_s, ap_eq]
    · rw [up_k e, up_c (by decide), ap_lt (by omega)]; exact h3 i (by omega)
  · by_cases e : i = tl
    · subst e; rw [ap_eq, up_s]
    · rw [ap_lt (by omega), up_k (hnew i (by omega)), up_c (by decide), up_c (by decide), up_c (by decide)]; exact h4 i (by omega)
  · have h6 := hn tl (by omega)
    rw [ap_eq] at h6
    rw [up_k (fun z => h6 z.symm), up_c (by decide), up_c (by decide), up_c (by decide)]
    refine h5 s hs (fun i hi => ?_)
    have := hn i (by omega)
    rw [ap_lt hi] at this
    exact this
theorem ct_17 {I : mmI} {fl : Nat → Bool} {m : Nat} (hm : m < 2 ^ 31) (k : Q (some (.int (nI (m / 8)))) ((fl, n1, n2, p, q, ad), I, J)) : mm_wc (d + 1) 17 [.ref 6, .int (nI m)] ((fl, n1, n2, p, q, ad), I, J) Q := by
  refine fx_17 ?_
  rw [z_shr hm (by decide)]; exact k
/-- what a search of the class rests on: the board, the list -/
def cC (I : mmI) (K : Nat → Nat) (g : Prop) (ms gl cnt : Nat) (fs : Nat → Nat) : Prop := bD I K ∧ I 6 13 = nI ms ∧ (g → I 6 14 = nI gl) ∧ (∀ i, gl.testBit i = true → i < K 3) ∧ I 77 3 = nI cnt ∧ cnt ≤ 320 ∧ ∀ k, k < cnt → I 78 k = nI (fs k)
theorem cC.fr {I I' : mmI} {g : Prop} {ms gl cnt : Nat} {fs : Nat → Nat} (h : cC I K g ms gl cnt fs) (hf : fr diS I I') : cC I' K g ms gl cnt fs := by
  obtain ⟨a, b, c, e, f, i, j⟩ := h
  exact ⟨a.fr hf rfl rfl rfl rfl, by rw [hf 6 13 rfl]; exact b, fun z => by rw [hf 6 14 rfl]; exact c z, e, by rw [hf 77 3 rfl]; exact f, i, fun k hk => by rw [hf 78 k rfl]; exact j k hk⟩
def cst (K : Nat → Nat) (ms gl : Nat) (fs : Nat → Nat) (k m : Nat) : Nat := cstp K ms gl (fs k) m
def csc (K : Nat → Nat) (ms gl cnt : Nat) (fs : Nat → Nat) (m m' : Nat) : Prop := ∃ k, k < cnt ∧ m' = cst K ms gl fs k m
theorem csc_V {g : Prop} {ms gl cnt : Nat} {fs : Nat → Nat} (ok : okR K) (hgl : ∀ i, gl.testBit i = true → i < K 3) : ∀ m m', vm K g m → csc K ms gl cnt fs m m' → vm K g m' := by
  rintro m m' h ⟨k, -, rfl⟩
  exact cstp_vm ok h hgl
def goalC (sc : Nat → Nat → Prop) (s cs n : Nat) : Prop := ∃ m, rch sc s n m ∧ m / 8 &&& cs = 0
/-- how a search of the class ends -/
def cSE (I0 I : mmI) (K : Nat → Nat) (ms gl cnt : Nat) (fs : Nat → Nat) (s cs : Nat) (r : Int32) : Prop :=
  ∃ qq dp tl hd f, fr diS I0 I ∧ cQ I qq dp tl ∧ bf cnt (cst K ms gl fs) (csc K ms gl cnt fs) s qq dp tl hd f ∧ (∀ i, i < tl → dp i ≤ i) ∧ tl ≤ 6912 ∧ isD (goalC (csc K ms gl cnt fs) s cs) r ∧
  ((r = -2 ∧ hd = tl ∧ ∀ i, i < tl → ¬ (qq i / 8 &&& cs = 0)) ∨ ∃ L, r = nI L ∧ L < 6912 ∧ hd < tl ∧ (qq (tl - 1) / 8 &&& cs = 0) ∧ dp (tl - 1) = L ∧ (∀ i, i < tl - 1 → ¬ (qq i / 8 &&& cs = 0)) ∧ (L = 0 ∧ tl = 1 ∨ dp hd + 1 = L))
theorem ct_89 {I0 : mmI} {g : Prop} {ms gl cnt s cs : Nat} {fs : Nat → Nat} (hC : cC I0 K g ms gl cnt fs) (hF : cF I0) (hs : vm K g s) (hcs : cs < 2 ^ 31) (k : ∀ I r, cSE I0 I K ms gl cnt fs s cs r → Q (some (.int r)) ((mm_fl true b1 b2, n1, n2, p, q, ad), I, J)) : mm_wc (d + 3) 89 [.ref 70, .int (nI s), .int (nI cs)] ((mm_fl true b1 b2, n1, n2, p, q, ad), I0, J) Q := by
  have ok := hC.1.1
  have hgl := hC.2.2.2.1
  have hslt := hs.lt ok
  -- what holds while it runs
  have inn : ∀ hd, (∀ I qq dp tl, fr diS I0 I → cQ I qq dp tl → bf cnt (cst K ms gl fs) (csc K ms gl cnt fs) s qq dp tl (hd + 1) 0 → (∀ i, i < tl → dp i ≤ i) → (∀ i, i < tl → ¬ (qq i / 8 &&& cs = 0)) → mm_w Q (mm_wc (d + 2)) bk_89 27 [some (.ref 70), none, some (.int (nI cs)), some (.int (nI (hd + 1))), none, none] [] ((mm_fl true b1 b2, n1, n2, p, q, ad), I, J)) →
      ∀ m f, m + f = cnt → ∀ I qq dp tl, fr diS I0 I → cQ I qq dp tl → bf cnt (cst K ms gl fs) (csc K ms gl cnt fs) s qq dp tl hd f → (∀ i, i < tl → dp i ≤ i) → (∀ i, i < tl → ¬ (qq i / 8 &&& cs = 0)) → hd < tl → mm_w Q (mm_wc (d + 2)) bk_89 47 [some (.ref 70), none, some (.int (nI cs)), some (.int (nI hd)), some (.int (nI f)), none] [] ((mm_fl true b1 b2, n1, n2, p, q, ad), I, J) := by
    intro hd hx m
    induction m with
    | zero =>
      intro f hf I qq dp tl i1 i2 i3 i4 i5 hh
      obtain ⟨c1, c2, c3, c4, c5, c6, c7⟩ := hC.fr i1
      refine fx_89_47 ?_
      rw [c5, z_le (by omega) (by omega), z_add]
      exact ⟨fun _ => hx I qq dp tl i1 i2 (i3.next hh (by omega)) i4 i5, fun e => absurd (by omega) e⟩
    | succ m ih =>
      intro f hf I qq dp tl i1 i2 i3 i4 i5 hh
      obtain ⟨c1, c2, c3, c4, c5, c6, c7⟩ := hC.fr i1
      have hV : ∀ i, i < tl → vm K g (qq i) := fun i hi => i3.V (V := vm K g) hs (csc_V ok hgl) hi
      have htl := (vm_many ok hV i3.2.2.2.2.1).1
      have hvh := hV hd hh
      have hlt := hvh.lt ok
      have hdl := i4 hd hh
      refine fx_89_47 ?_
      rw [c5, z_le (by omega) (by omega), z_ix (by omega), z_ix (by omega), i2.2.1 hd hh, c7 f (by omega)]
      have hvhd : vp_in (nI hd) 6912 := z_in (by omega) (by decide)
      refine ⟨fun e => absurd e (by omega), fun _ => ⟨hvhd, z_in (by omega) (by decide), ct_24 (ms := ms) (gl := gl) c1 hlt (hvh.lt2 ok) c2 (fun z => ?_) ⟨_, _, _, rfl, rfl, ?_⟩⟩⟩
      · rcases hvh.1 10 z with y | y
        · have := ok.c; omega
        · exact c3 y.1
      have hvm : vm K g (cstp K ms gl (fs f) (qq hd)) := cstp_vm ok hvh hgl
      have hst : cstp K ms gl (fs f) (qq hd) = cst K ms gl fs f (qq hd) := rfl
      generalize cstp K ms gl (fs f) (qq hd) = m' at *
      have hml := hvm.lt ok
      have hm16 : m' < 16384 := by omega
      rw [z_ix (by omega), z_add]
      refine ⟨z_in hm16 (by decide), fun e => ?_, fun e => ⟨hvhd, ?_⟩⟩
      · have : ∃ i, i < tl ∧ qq i = m' := Classical.byContradiction fun z => e (i2.2.2.2.2 m' hm16 (fun i hi y => z ⟨i, hi, y⟩))
        obtain ⟨i, hi, ei⟩ := this
        exact ih (f + 1) (by omega) I qq dp tl i1 i2 (i3.old hh hi (ei.trans hst)) i4 i5 hh
      · have hnew : ∀ i, i < tl → qq i ≠ m' := fun i hi z => by
          have := i2.2.2.2.1 i hi
          rw [z, e, z_eq (by decide) (by omega)] at this
          omega
        have hB := i3.new (fun _ _ => Iff.rfl) hh (show f < cnt by omega) (q' := ap qq tl m') (dp' := ap dp tl (dp hd + 1)) (fun i hi => ap_lt hi) ((ap_eq _ _ _).trans hst) (fun i hi => ap_lt hi) (ap_eq _ _ _) (fun i hi => by rw [← hst]; exact hnew i hi)
        have hV' : ∀ i, i < tl + 1 → vm K g (ap qq tl m' i) := fun i hi => hB.V (V := vm K g) hs (csc_V ok hgl) hi
        have htl' := (vm_many ok hV' hB.2.2.2.2.1).1
        have hd4 : ∀ i, i < tl + 1 → ap dp tl (dp hd + 1) i ≤ i := by
          intro i hi
          by_cases e : i = tl
          · subst e; rw [ap_eq]; omega
          · rw [ap_lt (by omega)]; exact i4 i (by omega)
        rw [i2.2.2.1 hd hh, z_add]
        refine ct_91 i2 (by omega) hm16 hnew (fun I2 f2 q2 => ⟨_, _, rfl, rfl, ct_17 (by omega) ⟨_, _, _, rfl, rfl, ?_⟩⟩)
        rw [z_and, z_eq (Nat.lt_of_le_of_lt Nat.and_le_right hcs) (by decide)]
        refine ⟨fun e2 => ih (f + 1) (by omega) I2 _ _ (tl + 1) (i1.tr f2) q2 hB hd4 (fun i hi => ?_) (by omega), fun e2 => ⟨hvhd, ?_⟩⟩
        · by_cases e : i = tl
          · subst e; rw [ap_eq]; exact e2
          · rw [ap_lt (by omega)]; exact i5 i (by omega)
        · have e73 : I2 73 hd = nI (dp hd) := by rw [q2.2.2.1 hd (by omega), ap_lt hh]
          rw [e73, z_add]
          refine k I2 _ ⟨_, _, tl + 1, hd, f + 1, i1.tr f2, q2, hB, hd4, htl', .inl ⟨dp hd + 1, rfl, by omega, ⟨m', ?_, e2⟩, ?_⟩, .inr ⟨dp hd + 1, rfl, by omega, by omega, by rw [Nat.add_sub_cancel, ap_eq]; exact e2, by rw [Nat.add_sub_cancel, ap_eq], fun i hi => by rw [ap_lt (by omega)]; exact i5 i (by omega), .inr (by rw [ap_lt hh])⟩⟩
          · have := hB.2.2.2.2.2.1 tl (by omega)
            rw [ap_eq, ap_eq] at this
            exact this
          · rintro n hn ⟨m, hr, hm0⟩
            obtain ⟨j, hj, e3, -⟩ := i3.near (fun _ _ => Iff.rfl) n m hr (fun _ => by omega)
            exact i5 j hj (by rw [e3]; exact hm0)
  have out : ∀ n hd, n + hd = 6913 → ∀ I qq dp tl, fr diS I0 I → cQ I qq dp tl → bf cnt (cst K ms gl fs) (csc K ms gl cnt fs) s qq dp tl hd 0 → (∀ i, i < tl → dp i ≤ i) → (∀ i, i < tl → ¬ (qq i / 8 &&& cs = 0)) → mm_w Q (mm_wc (d + 2)) bk_89 27 [some (.ref 70), none, some (.int (nI cs)), some (.int (nI hd)), none, none] [] ((mm_fl true b1 b2, n1, n2, p, q, ad), I, J) := by
    intro n
    induction n with
    | zero =>
      intro hd hn I qq dp tl i1 i2 i3 i4 i5
      have htl := (vm_many ok (fun i hi => i3.V (V := vm K g) hs (csc_V ok hgl) hi) i3.2.2.2.2.1).1
      have := i3.2.2.2.1
      omega
    | succ n ih =>
      intro hd hn I qq dp tl i1 i2 i3 i4 i5
      have htl := (vm_many ok (fun i hi => i3.V (V := vm K g) hs (csc_V ok hgl) hi) i3.2.2.2.2.1).1
      have hht := i3.2.2.2.1
      refine fx_89_27 ?_
      rw [i2.1, z_le (by omega) (by omega), z_le (by decide) (by omega)]
      refine ⟨fun e => ?_, fun e => ⟨fun e2 => absurd e2 (by omega), fun _ => inn hd (fun I qq dp tl => ih (hd + 1) (by omega) I qq dp tl) cnt 0 (by omega) I qq dp tl i1 i2 i3 i4 i5 (by omega)⟩⟩
      refine k I _ ⟨qq, dp, tl, hd, 0, i1, i2, i3, i4, htl, .inr ⟨rfl, fun n => ?_⟩, .inl ⟨rfl, by omega, i5⟩⟩
      rintro ⟨m, hr, hm0⟩
      obtain ⟨j, hj, e3, -⟩ := i3.near (fun _ _ => Iff.rfl) n m hr (fun z => absurd z (by omega))
      exact i5 j hj (by rw [e3]; exact hm0)
  have hs16 : s < 16384 := by omega
  refine fx_89 (ct_90 hF (fun I1 f1 g1 g2 => ⟨_, _, rfl, rfl, ?_⟩))
  refine ct_91 (qq := fun _ => 0) (dp := fun _ => 0) (tl := 0) ⟨g1, fun i hi => absurd hi (by omega), fun i hi => absurd hi (by omega), fun i hi => absurd hi (by omega), fun s hs _ => g2 s hs⟩ (by decide) hs16 (fun i hi => absurd hi (by omega)) (fun I2 f2 q2 => ⟨_, _, rfl, rfl, ct_17 (by omega) ⟨_, _, _, rfl, rfl, ?_⟩⟩)
  have fA : fr diS I0 I2 := (f1.sub rfl).tr f2
  have hB : bf cnt (cst K ms gl fs) (csc K ms gl cnt fs) s (ap (fun _ => 0) 0 s) (ap (fun _ => 0) 0 0) 1 0 0 := bf.start (ap_eq _ _ _) (ap_eq _ _ _)
  have hd4 : ∀ i, i < 1 → ap (fun _ => 0) 0 0 i ≤ i := fun i hi => by
    have : i = 0 := by omega
    subst this; rw [ap_eq]; exact Nat.le_refl _
  rw [z_and, z_eq (Nat.lt_of_le_of_lt Nat.and_le_right hcs) (by decide)]
  refine ⟨fun e => out 6913 0 rfl I2 _ _ 1 fA q2 hB hd4 (fun i hi => ?_), fun e => ?_⟩
  · have : i = 0 := by omega
    subst this; rw [ap_eq]; exact e
  · exact k I2 _ ⟨_, _, 1, 0, 0, fA, q2, hB, hd4, by decide, .inl ⟨0, rfl, by decide, ⟨s, rfl, e⟩, fun k hk => absurd hk (by omega)⟩, .inr ⟨0, rfl, by decide, by decide, by rw [ap_eq]; exact e, ap_eq _ _ _, fun i hi => absurd hi (by omega), .inl ⟨rfl, rfl⟩⟩⟩
end CM
