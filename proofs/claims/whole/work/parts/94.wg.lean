/-! the class's walk: all cells -/
section WG
variable {d n1 n2 : Nat} {b1 b2 p q : Bool} {ad : Nat → Nat} {J : mmJ} {Q : mmQ} {K : Nat → Nat} {I : mmI}
theorem ct_96 {m h pl Lc : Nat} (hK : cK I p K) (hD : bD I K) (hms : I 6 13 = nI 0) (hF : cF I) (hL : cLs I Lc) (hL1 : Lc + 1 < 2 ^ 30) (hv : vm K False m) (hh : h < K 6) (hpl : pl < K 4) (k : ∀ I' r, fr (foS ++ [(74, []), (75, [])]) I I' → cF I' → cLs I' (Lc + 1) → isW K h m pl r → Q (some (.int r)) ((mm_fl true b1 b2, n1, n2, p, q, ad), I', J)) : mm_wc (d + 5) 96 [.ref 70, .int (nI m), .int (nI h), .int (nI pl)] ((mm_fl true b1 b2, n1, n2, p, q, ad), I, J) Q := by
  have ok := hD.1
  have h4 := ok.p
  have h6 := ok.h
  have eb : (fun b => (ow K 2 b = h) ↔ true = true) = fun b => b / 16 / K 4 = h := by funext b; simp [ow]
  refine fx_96 (ct_84 hK hD hms hF hL hL1 (by decide) hv (fun I1 I2 cnt al r f1 g1 hr f2 hF2 hL2 hd => ⟨_, _, _, rfl, rfl, fun hne => ?_, fun z => ?_⟩))
  · obtain ⟨qq, dp, tl, hh', ff, L, eL, hp, hcq, hDD⟩ := pW_of ok hv (by omega) g1 hr hne
    obtain ⟨p1, p2, p3, p4, p5, p6, p7, p8, p9, p10, p11, -⟩ := id hp
    have hLt : L < tl := by have := p2 (tl - 1) (by omega); omega
    have fin : ∀ I', fr [(74, []), (75, [])] I2 I' → (∀ j a, 0 ≤ j → j < tl → a < K 4 → cW K h qq dp L I' j a) → Q (some (.int (I' 74 pl))) ((mm_fl true b1 b2, n1, n2, p, q, ad), I', J) := by
      intro I' hf hc
      obtain ⟨c, c1, c2, c3⟩ := hc 0 pl (Nat.le_refl _) (by omega) hpl
      obtain ⟨-, c4, c5⟩ := c3 (by rw [p1.2.1]; omega)
      rw [Nat.zero_mul, Nat.zero_add] at c1
      rw [p1.2.1, p1.1, Nat.sub_zero] at c4 c5
      rw [c1]
      obtain ⟨x, x1, x2⟩ := isD_g (by omega) hDD
      obtain ⟨a1, w1, hw1⟩ := rch_wk (a := pl) L x x1
      have b1 := c4 x a1 w1 ((wk_wf _ _ _ _).mp hw1) x2
      have b2 := (wk_le ok hpl _ _ _ _ hw1).2
      obtain ⟨m', a', y1, y2⟩ := c5.resolve_left (by omega)
      exact k I' _ ((f2.sub rfl).tr (hf.sub rfl)) (cF_of hF2 (hf 70 5 rfl) (fun i => hf 72 i rfl) (fun i => hf 71 i rfl)) (cLs_of hL2 (hf 77 5 rfl) (fun i => hf 80 i rfl)) (.inr ⟨L, c, by omega, hDD, rfl, by omega, ⟨m', a', (wk_wf _ _ _ _).mpr y1, y2⟩, fun m'' a'' w'' z1 z2 => c4 m'' a'' w'' ((wk_wf _ _ _ _).mp z1) z2⟩)
    have lp : ∀ i, i ≤ tl → ∀ I', fr [(74, []), (75, [])] I2 I' → (∀ j a, i ≤ j → j < tl → a < K 4 → cW K h qq dp L I' j a) → mm_w Q (mm_wc (d + 4)) bk_96 37 [some (.ref 70), none, some (.int (nI h)), some (.int (nI pl)), some (.int (nI L)), some (.int (nI (tl - 1))), some (.int (nI i - nI 1))] [] ((mm_fl true b1 b2, n1, n2, p, q, ad), I', J) := by
      intro i
      induction i with
      | zero =>
        intro _ I' hf hc
        refine fx_96_37 ⟨fun _ => ?_, fun e => absurd (by decide) e⟩
        rw [z_ix (by omega)]
        exact ⟨z_in (by omega) (by decide), fin I' hf hc⟩
      | succ i ih =>
        intro hi I' hf hc
        have hii := p2 i (by omega)
        have fA : fr (foS ++ [(74, []), (75, [])]) I I' := (f2.sub rfl).tr (hf.sub rfl)
        have dec : nI i + (-1) = nI i - nI 1 := by rw [Int32.sub_eq_add_neg]; rfl
        have five : ∀ c, (∀ a, a < K 4 → c ≤ 1000000 ∧ (dp i ≤ L → lW K h (L - dp i) (qq i) a c)) → ∀ I3, fr [(74, [])] I' I3 → (∀ a, a < 5 → I3 74 (i * 5 + a) = nI c) → (∀ z, z < i * 5 ∨ i * 5 + 5 ≤ z → I3 74 z = I' 74 z) → mm_w Q (mm_wc (d + 4)) bk_96 37 [some (.ref 70), none, some (.int (nI h)), some (.int (nI pl)), some (.int (nI L)), some (.int (nI (tl - 1))), some (.int (nI i + (-1)))] [] ((mm_fl true b1 b2, n1, n2, p, q, ad), I3, J) := fun c hcc I3 f3 s3 o3 => by
          rw [dec]
          refine ih (by omega) I3 (hf.tr (f3.sub rfl)) (fun j a y1 y2 y3 => ?_)
          by_cases e : j = i
          · subst e; exact ⟨c, s3 a (by omega), (hcc a y3).1, (hcc a y3).2⟩
          · exact cW_of (hc j a (by omega) y2 y3) (o3 _ (.inr (by omega)))
        rw [z_sub (by omega), Nat.add_sub_cancel]
        refine fx_96_37 ?_
        rw [z_lt (by omega) (by decide), z_le (by omega) (by omega), z_eq (by omega) (by omega), z_ix (a := i) (by omega), hf 73 i rfl, hcq.2.2.1 i (by omega), z_le (by omega) (by omega)]
        refine ⟨fun e => absurd e (Nat.not_lt_zero _), fun _ => ⟨fun e => ⟨fun e2 => absurd (by omega) e2, fun e2 => ct_97 (d := d + 3) (by omega) (fun I3 f3 s3 o3 => ⟨_, _, rfl, rfl, five 0 (fun a ha => ⟨by decide, fun _ => ⟨by decide, fun _ _ _ _ _ => Nat.zero_le _, .inr ⟨qq i, a, ?_, ?_⟩⟩⟩) I3 f3 s3 o3⟩)⟩, fun e => ⟨z_in (by omega) (by decide), fun e2 => ⟨fun e3 => ct_97 (d := d + 3) (by omega) (fun I3 f3 s3 o3 => ⟨_, _, rfl, rfl, five 1000000 (fun a ha => ⟨Nat.le_refl _, fun y => ⟨Nat.le_refl _, fun m' a' w hw h0 => ?_, .inl rfl⟩⟩) I3 f3 s3 o3⟩), fun e3 => absurd e3 (by omega)⟩, fun e2 => ?_⟩⟩⟩
        · rw [e2, p6, Nat.sub_self]; exact ⟨rfl, rfl, rfl⟩
        · rw [e2]; exact p7
        · have e4 : dp i = L := by omega
          rw [e4, Nat.sub_self] at hw
          rw [hw.1] at h0
          exact absurd h0 (p8 i (by omega))
        · refine ct_98 hp (hK.fr fA rfl) (hD.fr fA rfl rfl rfl rfl) (by rw [fA 6 13 rfl]; exact hms) ⟨by rw [hf 70 5 rfl]; exact hcq.1, fun i hi => by rw [hf 72 i rfl]; exact hcq.2.1 i hi, fun i hi => by rw [hf 73 i rfl]; exact hcq.2.2.1 i hi, fun i hi => by rw [hf 71 _ rfl]; exact hcq.2.2.2.1 i hi, fun s hs hn => by rw [hf 71 s rfl]; exact hcq.2.2.2.2 s hs hn⟩ hh (by omega) (by omega) (fun j a y1 y2 y3 => hc j a (by omega) y2 y3) (fun I3 f3 o3 c3 => ⟨_, _, rfl, rfl, ?_⟩)
          rw [dec]
          refine ih (by omega) I3 (hf.tr f3) (fun j a y1 y2 y3 => ?_)
          by_cases e : j = i
          · subst e; exact c3 a y3
          · exact cW_of (hc j a (by omega) y2 y3) (o3 _ (.inr (by omega)))
    refine ct_1002 ⟨_, _, _, rfl, rfl, ?_⟩
    rw [hcq.1, if_neg (by rw [z_lt (by decide) (by omega)]; omega), eL]
    have := lp tl (Nat.le_refl _) I2 fr.rf (fun j a y1 y2 => absurd y1 (by omega))
    rw [z_sub (by omega)] at this ⊢
    exact this
  · rw [lP_c ok true (by omega) (by decide), eb] at hd
    exact k I2 _ (f2.sub rfl) hF2 hL2 (.inl ⟨by rw [← z]; exact hd, rfl⟩)
end WG
