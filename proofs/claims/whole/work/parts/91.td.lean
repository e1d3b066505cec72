/-! the class's teams: who can put all out -/
theorem al_h {K : Nat → Nat} {cnt h : Nat} {al : Nat → Nat} (ok : okR K) (hh : h < 100) (ha : alw (fanK K) (lP K 2 (nI h) true) False (nB K) cnt al) (m z : Nat) : (∃ f, f < cnt ∧ z = zst K m (al f)) ↔ ∃ b, b < nB K ∧ b / 16 / K 4 = h ∧ z = zst K m b := by
  have hB := nB_le ok
  have lp : ∀ b, b < nB K → (lP K 2 (nI h) true b ↔ b / 16 / K 4 = h) := fun b hb => by
    have h2 : b / 16 / K 4 ≤ b / 16 := Nat.div_le_self _ _
    have h3 : b / 16 ≤ b := Nat.div_le_self _ _
    have e : ow K 2 b = b / 16 / K 4 := by simp [ow]
    unfold lP
    rw [e, z_eq (by omega) (by omega)]
    simp
  obtain ⟨a0, a1, a2, a3⟩ := ha
  constructor
  · rintro ⟨f, hf, e⟩
    exact ⟨al f, (a1 f hf).1, (lp _ (a1 f hf).1).mp (a1 f hf).2, e⟩
  · rintro ⟨b, h1, h2, e⟩
    obtain ⟨f, hf, -, e2, -⟩ := a3 b h1 ((lp b h1).mpr h2)
    exact ⟨f, hf, by rw [e]; show cstp K 0 0 (fanK K b) m = cstp K 0 0 (fanK K (al f)) m; rw [e2]⟩
section TD
variable {d n1 n2 : Nat} {b1 b2 p q : Bool} {ad : Nat → Nat} {J : mmJ} {Q : mmQ} {K : Nat → Nat} {s tl L : Nat} {qq : Nat → Nat} {I : mmI} {W : Nat → Nat → Prop}
theorem ct_102 {S : Nat} (hK : cK I p K) (hD : bD I K) (hms : I 6 13 = nI 0) (hL : cLs I L) (hL1 : L + 10 < 2 ^ 30) (h : cT I K W qq tl) (hWv : ∀ S m, W S m → m < 16384) (hS : S < 16) (k : ∀ I' qq' tl' L' (bb : Bool), fr foS I I' → cLs I' L' → L' ≤ L + 4 → cT I' K (fun S' z => W S' z ∨ (S' = S ∧ ∃ h m' b, h < K 6 ∧ S.testBit h = true ∧ W (sd S (2 ^ h)) m' ∧ b < nB K ∧ b / 16 / K 4 = h ∧ z = zst K m' b)) qq' tl' → (bb = true ↔ W S 0 ∨ ∃ h m' b, h < K 6 ∧ S.testBit h = true ∧ W (sd S (2 ^ h)) m' ∧ b < nB K ∧ b / 16 / K 4 = h ∧ 0 = zst K m' b) → Q (some (.int (bI bb))) ((mm_fl true b1 b2, n1, n2, p, q, ad), I', J)) : mm_wc (d + 4) 102 [.ref 70, .int (nI S)] ((mm_fl true b1 b2, n1, n2, p, q, ad), I, J) Q := by
  have ok := hD.1
  have h6 := ok.h
  have hB := nB_le ok
  have lp : ∀ n g, n + g = K 6 → ∀ I' qq' tl' L', fr foS I I' → cLs I' L' → L' ≤ L + g → cT I' K (fun S' z => W S' z ∨ (S' = S ∧ ∃ h m' b, h < g ∧ S.testBit h = true ∧ W (sd S (2 ^ h)) m' ∧ b < nB K ∧ b / 16 / K 4 = h ∧ z = zst K m' b)) qq' tl' → mm_w Q (mm_wc (d + 3)) bk_102 2 [some (.ref 70), some (.int (nI S)), some (.int (nI g))] [] ((mm_fl true b1 b2, n1, n2, p, q, ad), I', J) := by
    intro n
    induction n with
    | zero =>
      intro g hg I' qq' tl' L' hf hL' hLL hT
      have eg : g = K 6 := by omega
      subst eg
      obtain ⟨M, m1, m2, m3, -⟩ := hT.2.2.2 0 (by decide)
      have hK' := hK.fr hf rfl
      refine fx_102_2 ?_
      rw [hK'.2.2.2.2.1, z_le (by omega) (by omega), m1, z_shr (by omega) (by omega), z_and, tb1_0]
      refine ⟨fun _ => ⟨fun e => k I' qq' tl' L' false hf hL' (by omega) hT ⟨fun w => (by cases w), fun w => ?_⟩, fun e => k I' qq' tl' L' true hf hL' (by omega) hT ⟨fun _ => ?_, fun _ => rfl⟩⟩, fun e => absurd (Nat.le_refl _) e⟩
      · have : M.testBit S = true := (m3 S).mpr (w.elim .inl (fun y => .inr ⟨rfl, y⟩))
        rw [this] at e; cases e
      · have : M.testBit S = true := by simpa using e
        exact ((m3 S).mp this).elim .inl (fun y => .inr y.2)
    | succ n ih =>
      intro g hg I' qq' tl' L' hf hL' hLL hT
      have hK' := hK.fr hf rfl
      have hD' := hD.fr hf rfl rfl rfl rfl
      refine fx_102_2 ?_
      rw [hK'.2.2.2.2.1, z_le (by omega) (by omega), z_shr (by omega) (by omega), z_and, tb1_0, z_add]
      refine ⟨fun e => absurd e (by omega), fun _ => ⟨fun e => ih (g + 1) (by omega) I' qq' tl' L' hf hL' (by omega) (cT_cg hT (fun S' z _ => ?_)), fun e => ?_⟩⟩
      · constructor
        · rintro (w | ⟨w, h, m', b, a1, a2⟩)
          · exact .inl w
          · exact .inr ⟨w, h, m', b, by omega, a2⟩
        · rintro (w | ⟨w, h, m', b, a1, a2⟩)
          · exact .inl w
          · by_cases eh : h = g
            · rw [eh, e] at a2; exact absurd a2.1 (by decide)
            · exact .inr ⟨w, h, m', b, by omega, a2⟩
      · have et : S.testBit g = true := by simpa using e
        have hls := sd_ls et
        refine ct_36 (its := true) (d := d + 1) hK' hD'.2.1 hD'.2.2.1 hL' (by omega) (by decide) (fun I1 cnt al f1 g1 => ⟨_, _, rfl, rfl, ?_⟩)
        have hal := g1.2.2.2.2.2.1
        have fA : fr foS I I1 := hf.tr (f1.sub rfl)
        have hR : cRb I1 K cnt al := ⟨hD.fr fA rfl rfl rfl rfl, by rw [fA 6 13 rfl]; exact hms, g1.2.2.1, by have := hal.1; omega, g1.2.2.2.1⟩
        rw [z_bit (by omega), z_xor, xor_sd et]
        refine ct_103 ok hR (cT_fr hT (f1 70 5 rfl) (fun i => f1 72 i rfl) (fun i => f1 71 i rfl)) (by omega) hS (by omega) (fun I2 qq2 tl2 f2 h2 => ⟨_, _, rfl, rfl, ?_⟩)
        refine ih (g + 1) (by omega) I2 qq2 tl2 (L' + 1) (fA.tr (f2.sub rfl)) (cLs_of g1.Ls (f2 77 5 rfl) (fun i => f2 80 i rfl)) (by omega) (cT_cg h2 (fun S' z _ => ?_))
        have inq : ∀ m', W (sd S (2 ^ g)) m' → ∃ i, i < tl' ∧ qq' i = m' := fun m' hw => by
          obtain ⟨M, m1, m2, m3, m4⟩ := hT.2.2.2 m' (hWv _ _ hw)
          refine m4.mp (fun y => ?_)
          have := (m3 (sd S (2 ^ g))).mpr (.inl hw)
          rw [y, Nat.zero_testBit] at this; cases this
        constructor
        · rintro ((w | ⟨w, h, m', b, a1, a2⟩) | ⟨w, m', a1, -, a3⟩)
          · exact .inl w
          · exact .inr ⟨w, h, m', b, by omega, a2⟩
          · obtain ⟨b, b1, b2, b3⟩ := (al_h ok (by omega) hal m' z).mp a3
            exact .inr ⟨w, g, m', b, by omega, et, a1.elim id (fun y => absurd y.1 (by omega)), b1, b2, b3⟩
        · rintro (w | ⟨w, h, m', b, a1, a2, a3, a4, a5, a6⟩)
          · exact .inl (.inl w)
          · by_cases eh : h = g
            · subst eh
              exact .inr ⟨w, m', .inl a3, inq m' a3, (al_h ok (by omega) hal m' z).mpr ⟨b, a4, a5, a6⟩⟩
            · exact .inl (.inr ⟨w, h, m', b, by omega, a2, a3, a4, a5, a6⟩)
  exact fx_102 (lp (K 6) 0 (by omega) I qq tl L fr.rf hL (Nat.le_refl _) (cT_cg h (fun S' z _ => ⟨.inl, fun w => w.elim id (fun y => by obtain ⟨_, _, _, h1, -⟩ := y.2; omega)⟩)))
end TD
