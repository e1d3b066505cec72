/-! the class: with a guest; what is kept; made when first asked for -/
section SF
variable {d n1 n2 : Nat} {fl : Nat → Bool} {b0 b1 b2 p q : Bool} {ad : Nat → Nat} {J : mmJ} {Q : mmQ} {K : Nat → Nat} {I : mmI} {L : Nat}
theorem ct_28 {j : Nat} (hK : cK I p K) (hj : j < K 5) (k : ∀ I', fr [(6, [14])] I I' → I' 6 14 = nI (glK K j) → Q none ((fl, n1, n2, p, q, ad), I', J)) : mm_wc (d + 2) 28 [.ref 6, .int (nI j)] ((fl, n1, n2, p, q, ad), I, J) Q := by
  have ok := hK.1
  have h3 := ok.c
  have h5 := ok.s
  have lp : ∀ n c, n + c = K 3 → ∀ I', fr [(6, [14])] I I' → I' 6 14 = nI (bset (fun c => (K (35 + c) == 2) && nrXY K c (K (56 + j)) (K (60 + j))) c) → mm_w Q (mm_wc (d + 1)) bk_28 7 [some (.ref 6), some (.int (nI j)), some (.int (nI c))] [] ((fl, n1, n2, p, q, ad), I', J) := by
    intro n
    induction n with
    | zero =>
      intro c hc I' hf h1
      have hKI := hK.fr hf rfl
      refine fx_28_7 ?_
      rw [hKI.2.1, z_le (by omega) (by omega)]
      have : c = K 3 := by omega
      subst this
      exact ⟨fun _ => k I' hf h1, fun e => absurd (Nat.le_refl _) e⟩
    | succ n ih =>
      intro c hc I' hf h1
      have hKI := hK.fr hf rfl
      obtain ⟨-, c1, -, -, -, -, -, -, -, hx, hy, hk, -, -, hsx, hsy, -⟩ := id hKI
      have hkc := ok.xy (k := 35 + c) (by omega) (by omega)
      have ihc := ih (c + 1) (by omega)
      refine fx_28_7 ?_
      rw [c1, z_le (by omega) (by omega), z_ix (by omega), z_ix (by omega), hk c (by omega), z_eq (by omega) (by decide), hsx j hj, hsy j hj, z_add]
      have hvj : vp_in (nI j) 10 := z_in (by omega) (by decide)
      refine ⟨fun e => absurd e (by omega), fun _ => ⟨z_in (by omega) (by decide), fun e => ihc I' hf ?_, fun e => ⟨hvj, hvj, ct_7 hKI (by omega) ⟨_, _, _, rfl, rfl, ?_⟩⟩⟩⟩
      · rw [h1, bset_f (by simp [e])]
      · rw [bI_0, h1, z_bit (by omega), z_or]
        refine ⟨fun e2 => ihc I' hf ?_, fun e2 => ihc _ (hf.up rfl) ?_⟩
        · rw [h1, bset_f (by simp [e2])]
        · rw [up_s, bset_t (by simp [e]; simpa using e2)]
  exact fx_28 (lp (K 3) 0 (by omega) _ (fr.rf.up rfl) (up_s _ _ _ _))
theorem ct_29 {j b : Nat} (hK : cK I p K) (hD : bD I K) (hw : cWy I) (hj : j < K 5) (hb : b < nB K) (k : Q (some (.int (nI (fanG K j b)))) ((fl, n1, n2, p, q, ad), I, J)) : mm_wc (d + 3) 29 [.ref 6, .int (nI b), .int (nI j)] ((fl, n1, n2, p, q, ad), I, J) Q := by
  have ok := hK.1
  have h5 := ok.s
  have hB := nB_le ok
  obtain ⟨-, -, -, -, -, -, -, -, -, -, -, -, -, -, hsx, hsy, -⟩ := id hK
  refine fx_29 ?_
  rw [z_ix (by omega), z_ix (by omega), hsx j hj, hsy j hj]
  refine ⟨z_in (by omega) (by decide), z_in (by omega) (by decide), ct_2 (t := false) hK hw hb ⟨_, _, _, rfl, rfl, ?_⟩⟩
  rw [bI_0, hD.2.2.1 b hb, z_or]
  unfold fanG at k
  refine ⟨fun e => ⟨z_in (by omega) (by decide), ?_⟩, fun e => ⟨z_in (by omega) (by decide), ?_⟩⟩
  · rw [e] at k; exact k
  · rw [if_pos (by simpa using e)] at k; exact k
theorem fanG_lt (ok : okR K) (j b : Nat) : fanG K j b < 2048 := by
  have := lt_p11 ok (fanK_lt K b)
  unfold fanG
  split
  · exact Nat.or_lt_two_pow (n := 11) (by omega) (by decide)
  · omega
theorem ct_37 {j : Nat} (hK : cK I p K) (hD : bD I K) (hw : cWy I) (hj : j < K 5) (h : cLs I L) (hL : L + 1 < 2 ^ 30) (k : ∀ I' cnt al, fr liS I I' → cLg I' (fanG K j) (fun _ => True) (L + 1) (nB K) cnt al → Q none ((mm_fl true b1 b2, n1, n2, p, q, ad), I', J)) : mm_wc (d + 4) 37 [.ref 77, .int (nI j)] ((mm_fl true b1 b2, n1, n2, p, q, ad), I, J) Q := by
  have ok := hK.1
  have hB := nB_le ok
  have lp : ∀ n b, n + b = nB K → ∀ I' cnt al, fr liS I I' → cLg I' (fanG K j) (fun _ => True) (L + 1) b cnt al → mm_w Q (mm_wc (d + 3)) bk_37 6 [some (.ref 77), some (.int (nI j)), some (.int (nI b))] [] ((mm_fl true b1 b2, n1, n2, p, q, ad), I', J) := by
    intro n
    induction n with
    | zero =>
      intro b hb I' cnt al hf hg
      refine fx_37_6 ?_
      rw [hf 6 2 rfl, hD.2.1, z_le (by omega) (by omega)]
      have : b = nB K := by omega
      subst this
      exact ⟨fun _ => k I' cnt al hf hg, fun e => absurd (Nat.le_refl _) e⟩
    | succ n ih =>
      intro b hb I' cnt al hf hg
      refine fx_37_6 ?_
      rw [hf 6 2 rfl, hD.2.1, z_le (by omega) (by omega), z_add]
      refine ⟨fun e => absurd e (by omega), fun _ => ct_29 (hK.fr hf rfl) (hD.fr hf rfl rfl rfl rfl) ⟨fun i hi => by rw [hf 66 i rfl]; exact hw.1 i hi, fun i hi => by rw [hf 67 i rfl]; exact hw.2 i hi⟩ hj (by omega) ⟨_, _, _, rfl, rfl, ct_35 hg trivial (by omega) (fanG_lt ok j b) (fun I2 cnt' al' f2 g2 => ⟨_, _, rfl, rfl, ih (b + 1) (by omega) I2 cnt' al' (hf.tr f2) g2⟩)⟩⟩
  exact fx_37 (ct_34 (F := fanG K j) (P := fun _ => True) (al := fun _ => 0) h hL (fun I1 f1 g1 => ⟨_, _, rfl, rfl, lp (nB K) 0 (by omega) I1 0 _ f1 g1⟩))
theorem ct_87 {m j : Nat} (hK : cK I p K) (hD : bD I K) (hw : cWy I) (hms : I 6 13 = nI 0) (hF : cF I) (hL : cLs I L) (hL1 : L + 1 < 2 ^ 30) (hv : vm K False m) (hj : j < K 5) (k : ∀ I' r, fr (foS ++ [(6, [14])]) I I' → cF I' → cLs I' (L + 1) → isD (goal0 (ksc K 0 (glK K j) (fanG K j) (fun _ => True)) (zgu m)) r → Q (some (.int r)) ((mm_fl true b1 b2, n1, n2, p, q, ad), I', J)) : mm_wc (d + 5) 87 [.ref 70, .int (nI m), .int (nI j)] ((mm_fl true b1 b2, n1, n2, p, q, ad), I, J) Q := by
  have ok := hD.1
  have hB := nB_le ok
  refine fx_87 (ct_28 hK hj (fun I1 f1 e14 => ⟨_, _, rfl, rfl, ?_⟩))
  have hK1 := hK.fr f1 rfl
  have hD1 := hD.fr f1 rfl rfl rfl rfl
  have hL1' : cLs I1 L := ⟨by rw [f1 77 5 rfl]; exact hL.1, hL.2.1, fun f hf => by rw [f1 80 f rfl]; exact hL.2.2 f hf⟩
  refine ct_37 hK1 hD1 ⟨fun i hi => by rw [f1 66 i rfl]; exact hw.1 i hi, fun i hi => by rw [f1 67 i rfl]; exact hw.2 i hi⟩ hj hL1' hL1 (fun I2 cnt al f2 g2 => ⟨_, _, rfl, rfl, ?_⟩)
  have fU : fr (liS ++ [(6, [14])]) I I2 := (f1.sub rfl).tr (f2.sub rfl)
  have hC : cC I2 K True 0 (glK K j) cnt (fun k => fanG K j (al k)) := ⟨hD.fr fU rfl rfl rfl rfl, by rw [fU 6 13 rfl]; exact hms, fun _ => by rw [f2 6 14 rfl]; exact e14, glK_lt K j, g2.2.2.1, by have := g2.2.2.2.2.2.1.1; omega, g2.2.2.2.1⟩
  have hF1 : cF I2 := by
    obtain ⟨tl, qq, a1, a2, a3, a4⟩ := hF
    exact ⟨tl, qq, by rw [fU 70 5 rfl]; exact a1, a2, fun i hi => by rw [fU 72 i rfl]; exact a3 i hi, fun s hs hn => by rw [fU 71 s rfl]; exact a4 s hs hn⟩
  have hz := zgu_vm ok hv
  have hzl := hz.1.lt ok
  rw [z_add]
  refine ct_89 hC hF1 hz.1 (by decide) (fun I3 r hr => ⟨_, _, _, rfl, rfl, ?_⟩)
  obtain ⟨-, -, -, -, -, f3, -, -, -, -, hd, -⟩ := id hr
  have f4 : fr (foS ++ [(6, [14])]) I I3 := (fU.sub rfl).tr (f3.sub rfl)
  have hL2 : cLs I3 (L + 1) := by
    obtain ⟨x1, x2, x3⟩ := g2.Ls
    exact ⟨by rw [f3 77 5 rfl]; exact x1, x2, fun f hf => by rw [f3 80 f rfl]; exact x3 f hf⟩
  rw [csc_eq g2.2.2.2.2.2.1] at hd
  exact k I3 r f4 (cSE.F ok hz.1 (glK_lt K j) hr) hL2 (hd.congr (goalC_0 ok hz (glK_lt K j)))
variable {T : zT} {to : Bool} {P : zP} {tr l Lm : Nat} {f : zF}
/-- what was kept is of this moment, or nothing is -/
theorem ct_82 {m : Nat} (h : CC T to K P tr f p q l I) (hs : SEi to K l Lm I) (hl : l < 2 ^ 30) (ht : to = true) (hv : vm K False m) (k : ∀ I', fr [(70, [9, 10, 11, 12, 13])] I I' → SEi to K l Lm I' → I' 70 9 = nI l → I' 70 10 = nI m → cac K m I' → (I' 70 13 = nI 0 ∨ I' = I) → Q none ((mm_fl true b1 b2, n1, n2, p, q, ad), I', J)) : mm_wc (d + 1) 82 [.ref 70, .int (nI m)] ((mm_fl true b1 b2, n1, n2, p, q, ad), I, J) Q := by
  have e61 : I 6 1 = nI l := h.2.2.2.2.2.2.2.2.2.2.2.2.2.2.2.1
  have ok := h.ok ht
  have hml := hv.lt ok
  have fresh : Q none ((mm_fl true b1 b2, n1, n2, p, q, ad), mm_up (mm_up (mm_up (mm_up (mm_up I 70 9 (nI l)) 70 10 (nI m)) 70 11 (-3)) 70 12 (-3)) 70 13 (nI 0), J) := by
    have ff : fr [(70, [9, 10, 11, 12, 13])] I (mm_up (mm_up (mm_up (mm_up (mm_up I 70 9 (nI l)) 70 10 (nI m)) 70 11 (-3)) 70 12 (-3)) 70 13 (nI 0)) := ((((fr.rf.up rfl).up rfl).up rfl).up rfl).up rfl
    have e9 : mm_up (mm_up (mm_up (mm_up (mm_up I 70 9 (nI l)) 70 10 (nI m)) 70 11 (-3)) 70 12 (-3)) 70 13 (nI 0) 70 9 = nI l := by simp (disch := omega) only [up_k, up_s]
    have e10 : mm_up (mm_up (mm_up (mm_up (mm_up I 70 9 (nI l)) 70 10 (nI m)) 70 11 (-3)) 70 12 (-3)) 70 13 (nI 0) 70 10 = nI m := by simp (disch := omega) only [up_k, up_s]
    have ec : cac K m (mm_up (mm_up (mm_up (mm_up (mm_up I 70 9 (nI l)) 70 10 (nI m)) 70 11 (-3)) 70 12 (-3)) 70 13 (nI 0)) := ⟨.inl (by simp (disch := omega) only [up_k, up_s]), .inl (by simp (disch := omega) only [up_k, up_s]), fun z => absurd (up_s _ _ _ _) z⟩
    have e13 : mm_up (mm_up (mm_up (mm_up (mm_up I 70 9 (nI l)) 70 10 (nI m)) 70 11 (-3)) 70 12 (-3)) 70 13 (nI 0) 70 13 = nI 0 := up_s _ _ _ _
    obtain ⟨⟨tl, qq, a1, a2, a3, a4⟩, ⟨L, b1, b2⟩, -, -⟩ := hs
    exact k _ ff ⟨⟨tl, qq, by rw [ff 70 5 rfl]; exact a1, a2, fun i hi => by rw [ff 72 i rfl]; exact a3 i hi, fun s hs hn => by rw [ff 71 s rfl]; exact a4 s hs hn⟩, ⟨L, ⟨by rw [ff 77 5 rfl]; exact b1.1, b1.2.1, fun f hf => by rw [ff 80 f rfl]; exact b1.2.2 f hf⟩, b2⟩, ⟨l, e9, Nat.le_refl _⟩, fun _ _ => ⟨m, hv, e10, ec⟩⟩ e9 e10 ec (.inl e13)
  refine fx_82 ?_
  rw [e61]
  refine ⟨fun _ => fresh, fun e => ⟨fun e2 => ?_, fun _ => fresh⟩⟩
  obtain ⟨m', v', e', c'⟩ := hs.2.2.2 ht e
  have hml' := v'.lt ok
  have hmm : m' = m := by
    rw [e'] at e2
    exact (z_eq (by omega) (by omega)).mp e2
  subst hmm
  exact k I fr.rf hs e e' c' (.inr rfl)
theorem cF_of {I' : mmI} (h : cF I) (h1 : I' 70 5 = I 70 5) (h2 : ∀ i, I' 72 i = I 72 i) (h3 : ∀ i, I' 71 i = I 71 i) : cF I' := by
  obtain ⟨tl, qq, a1, a2, a3, a4⟩ := h
  exact ⟨tl, qq, by rw [h1]; exact a1, a2, fun i hi => by rw [h2]; exact a3 i hi, fun s hs hn => by rw [h3]; exact a4 s hs hn⟩
theorem cLs_of {I' : mmI} (h : cLs I L) (h1 : I' 77 5 = I 77 5) (h2 : ∀ i, I' 80 i = I 80 i) : cLs I' L := ⟨by rw [h1]; exact h.1, h.2.1, fun f hf => by rw [h2]; exact h.2.2 f hf⟩
theorem cac_of {m : Nat} {I' : mmI} (h : cac K m I) (h1 : I' 70 11 = I 70 11) (h2 : I' 70 12 = I 70 12) (h3 : I' 70 13 = I 70 13) (h4 : ∀ i, I' 76 i = I 76 i) : cac K m I' := by
  obtain ⟨a1, a2, a3⟩ := h
  refine ⟨by rw [h1]; exact a1, by rw [h2]; exact a2, fun z => ?_⟩
  obtain ⟨L, w, w1, w2, w3, w4⟩ := a3 (fun y => z (h3.trans y))
  exact ⟨L, w, w1, w2, w3, fun i hi => by rw [h4]; exact w4 i hi⟩
theorem SEi.up {Lm' : Nat} (h : SEi to K l Lm I) (hl : Lm ≤ Lm') : SEi to K l Lm' I := h.of hl (fun _ _ _ _ => rfl)
/-- the fewest from m, kept -/
theorem ct_83 {m : Nat} (h : CC T to K P tr f p q l I) (hs : SEi to K l Lm I) (hl : l < 2 ^ 30) (hLm : Lm + 1 < 2 ^ 30) (ht : to = true) (hv : vm K False m) (k : ∀ I' r, fr (foS ++ [(70, [9, 10, 11, 12, 13])]) I I' → SEi to K l (Lm + 1) I' → I' 70 9 = nI l → I' 70 10 = nI m → cac K m I' → isD (goal0 (kall K) m) r → Q (some (.int r)) ((mm_fl true b1 b2, n1, n2, p, q, ad), I', J)) : mm_wc (d + 5) 83 [.ref 70, .int (nI m)] ((mm_fl true b1 b2, n1, n2, p, q, ad), I, J) Q := by
  refine fx_83 (ct_82 h hs hl ht hv (fun I1 f1 s1 e9 e10 c1 _ => ⟨_, _, rfl, rfl, fun e => ?_, fun e => ?_⟩))
  · rcases c1.1 with z | z
    · exact absurd z e
    · exact k I1 _ (f1.sub rfl) (s1.up (by omega)) e9 e10 c1 z
  · obtain ⟨hF, ⟨L, hL, hLL⟩, -, -⟩ := id s1
    have hD1 : bD I1 K := (h.bd ht).fr f1 rfl rfl rfl rfl
    have hK1 : cK I1 p K := (h.cake ht).fr f1 rfl
    refine ct_84 hK1 hD1 (by rw [f1 6 13 rfl]; exact h.ms) hF hL (by omega) (by decide) hv (fun _ I2 _ _ r _ _ _ f2 hF2 hL2 hd => ⟨_, _, _, rfl, rfl, ?_⟩)
    have eP : lP K 4 (-1) true = fun _ => True := by funext b; exact propext ⟨fun _ => trivial, fun _ => .inl rfl⟩
    rw [eP] at hd
    have ff : fr (foS ++ [(70, [9, 10, 11, 12, 13])]) I (mm_up I2 70 11 r) := ((f1.sub rfl).tr (f2.sub rfl)).up rfl
    have fk : ∀ j, j ≠ 11 → mm_up I2 70 11 r 70 j = I2 70 j := fun j hj => up_k hj
    have fc : ∀ a j, a ≠ 70 → mm_up I2 70 11 r a j = I2 a j := fun a j ha => up_c ha
    have e9' : mm_up I2 70 11 r 70 9 = nI l := by rw [fk 9 (by decide), f2 70 9 rfl]; exact e9
    have e10' : mm_up I2 70 11 r 70 10 = nI m := by rw [fk 10 (by decide), f2 70 10 rfl]; exact e10
    have c2 : cac K m (mm_up I2 70 11 r) := by
      refine ⟨.inr (by rw [up_s]; exact hd), by rw [fk 12 (by decide), f2 70 12 rfl]; exact c1.2.1, fun z => ?_⟩
      rw [fk 13 (by decide), f2 70 13 rfl] at z
      obtain ⟨L, w, w1, w2, w3, w4⟩ := c1.2.2 z
      exact ⟨L, w, w1, w2, w3, fun i hi => by rw [fc 76 i (by decide), f2 76 i rfl]; exact w4 i hi⟩
    exact k _ r ff ⟨cF_of hF2 (fk 5 (by decide)) (fun i => fc 72 i (by decide)) (fun i => fc 71 i (by decide)), ⟨L + 1, cLs_of hL2 (fc 77 5 (by decide)) (fun i => fc 80 i (by decide)), by omega⟩, ⟨l, e9', Nat.le_refl _⟩, fun _ _ => ⟨m, hv, e10', c2⟩⟩ e9' e10' c2 hd
end SF
