/-! reading: the class's lines (5) -/
theorem and_2p {x s : Nat} : x &&& 2 ^ s = (x.testBit s).toNat * 2 ^ s := by
  apply Nat.eq_of_testBit_eq
  intro j
  rw [Nat.testBit_and, tb_2pow]
  cases hb : x.testBit s
  · rw [show false.toNat * 2 ^ s = 0 from Nat.zero_mul _, Nat.zero_testBit]
    by_cases e : s = j
    · subst e; rw [hb]; rfl
    · rw [decide_eq_false e, Bool.and_false]
  · rw [show true.toNat * 2 ^ s = 2 ^ s from Nat.one_mul _, tb_2pow]
    by_cases e : s = j
    · subst e; rw [hb]; rfl
    · rw [decide_eq_false e, Bool.and_false]
section SG2
variable {d n1 n2 : Nat} {fl : Nat → Bool} {p q : Bool} {ad : Nat → Nat} {I : mmI} {J : mmJ} {Q : mmQ} {b nc D : Nat → Nat} {N a : Nat} {R : zE}
theorem ct_cand (h : cTk b N a I J) (hD : cDr q D nc I J) (ho : okD D nc) (e : (if D 3 < 10 then candF b N (nx b N a) D nc else .error (5, a)) = R) (k1 : ∀ I' J', frD q I I' → cEn b N q R I' J' → Q (some (.int (nI 1))) ((fl, n1, n2, p, q, ad), I', J')) (k0 : ∀ I' J', frD q I I' → cFl R I' → Q (some (.int (nI 0))) ((fl, n1, n2, p, q, ad), I', J')) : mm_wc (d + 5) 63 [.ref 1, .ref (mm_ck q 1), .int (nI 0)] ((fl, 0, 0, p, q, ad), I, J) (fun v τ => ∃ r14 I14 J14, v = some (.int r14) ∧ τ = ((fl, 0, 0, p, q, ad), I14, J14) ∧ ((r14 = (nI 0) → Q (some (.int (nI 0))) ((fl, n1, n2, p, q, ad), I14, J14)) ∧ (¬ r14 = (nI 0) → mm_wc (d + 5) 64 [.ref 1] ((fl, 0, 0, p, q, ad), I14, J14) (fun v τ => ∃ r15 I15 J15, v = some (.int r15) ∧ τ = ((fl, 0, 0, p, q, ad), I15, J15) ∧ ((r15 = (nI 0) → Q (some (.int (nI 0))) ((fl, n1, n2, p, q, ad), I15, J15)) ∧ (¬ r15 = (nI 0) → Q (some (.int (nI 1))) ((fl, n1, n2, p, q, ad), I15, J15))))))) := by
  have b3 : D 3 ≤ 10 := ho.2.2.2.2.1
  have hT3 : nTr D ≤ 3 := ho.2.2.2.2.2.2.2.2.2.2.2.2.2.2.2.2.1
  have hxy := ho.2.2.2.2.2.2.2.2.2.2.2.2.2.2.1
  obtain ⟨m, a3, a4, a5, a6, a7, a8, a10, a11, r2, r3, r4, r6, r7, r9, r10, r11, r12, sh⟩ := id hD.1
  unfold candF at e
  refine ct_63c (k := fun a1 nc1 x y a2 => if kd4 b N a2 = 4 then .error (1, a2) else if kd4 b N a2 = 3 ∧ 3 ≤ nTr D then .error (5, a2) else .ok (nx b N a2, up1 (up1 (up1 (up1 D (13 + D 3) x) (24 + D 3) y) (35 + D 3) (kd4 b N a2)) 3 (D 3 + 1), nc1)) h hD ho e (fun I7 J7 a1 x y a' sl' dc F7 h7 n7 gx7 gy7 gc7 g7 e7 => ⟨_, _, _, rfl, rfl, fun z => absurd z n10, fun _ => ?_⟩) (fun I7 J7 F7 h7 => ⟨_, _, _, rfl, rfl, fun _ => k0 I7 J7 F7 h7, fun z => absurd rfl z⟩)
  refine ct_64 (D := D) (m := D 3) (by omega) rfl hT3 h7 gc7 (fun c hc => ⟨by rw [g7 4 c (by decide) (by omega) (by omega) (by omega)]; exact r4 c hc, hxy _ (by omega) (by omega)⟩) e7 (fun I8 J8 F8 j8 h8 n8 gk g8 e8 => ⟨_, _, _, rfl, rfl, fun z => absurd z n10, fun _ => k1 I8 J8 (F7.tr F8) ⟨_, _, _, e8.symm, h8, ?_, sl', ?_⟩⟩) (fun I8 J8 F8 h8 => ⟨_, _, _, rfl, rfl, fun _ => k0 I8 J8 (F7.tr F8) h8, fun z => absurd rfl z⟩)
  · have g : ∀ j i, j < 14 → ¬ (j = 2 ∧ i = D 3) → ¬ (j = 3 ∧ i = D 3) → ¬ (j = 1 ∧ i = 3) → ¬ (j = 4 ∧ i = D 3) → I8 (mm_ck q j) i = I (mm_ck q j) i := fun j i hj q1 q2 q3 q4 => by rw [g8 j i hj q4]; exact g7 j i hj q1 q2 q3
    have gx : I8 (mm_ck q 2) (D 3) = nI x := by rw [g8 _ _ (by decide) (by omega)]; exact gx7
    have gy : I8 (mm_ck q 3) (D 3) = nI y := by rw [g8 _ _ (by decide) (by omega)]; exact gy7
    have gc : I8 (mm_ck q 1) 3 = nI (D 3 + 1) := by rw [g8 _ _ (by decide) (by omega)]; exact gc7
    generalize kd4 b N a' = kd at *
    have u : ∀ k, k ≠ 13 + D 3 → k ≠ 24 + D 3 → k ≠ 35 + D 3 → k ≠ 3 → up1 (up1 (up1 (up1 D (13 + D 3) x) (24 + D 3) y) (35 + D 3) kd) 3 (D 3 + 1) k = D k := fun k h1 h2 h3 h4 => by rw [up1_n h4, up1_n h3, up1_n h2, up1_n h1]
    have ux : up1 (up1 (up1 (up1 D (13 + D 3) x) (24 + D 3) y) (35 + D 3) kd) 3 (D 3 + 1) (13 + D 3) = x := by rw [up1_n (by omega), up1_n (by omega), up1_n (by omega), up1_s]
    have uy : up1 (up1 (up1 (up1 D (13 + D 3) x) (24 + D 3) y) (35 + D 3) kd) 3 (D 3 + 1) (24 + D 3) = y := by rw [up1_n (by omega), up1_n (by omega), up1_s]
    have uk : up1 (up1 (up1 (up1 D (13 + D 3) x) (24 + D 3) y) (35 + D 3) kd) 3 (D 3 + 1) (35 + D 3) = kd := by rw [up1_n (by omega), up1_s]
    have uc : up1 (up1 (up1 (up1 D (13 + D 3) x) (24 + D 3) y) (35 + D 3) kd) 3 (D 3 + 1) 3 = D 3 + 1 := up1_s _ _ _
    generalize up1 (up1 (up1 (up1 D (13 + D 3) x) (24 + D 3) y) (35 + D 3) kd) 3 (D 3 + 1) = E at *
    have u0 := u 0 (by omega) (by omega) (by omega) (by omega)
    have u1 := u 1 (by omega) (by omega) (by omega) (by omega)
    have u2 := u 2 (by omega) (by omega) (by omega) (by omega)
    have u4 := u 4 (by omega) (by omega) (by omega) (by omega)
    have u5 := u 5 (by omega) (by omega) (by omega) (by omega)
    have u6 := u 6 (by omega) (by omega) (by omega) (by omega)
    have u7 := u 7 (by omega) (by omega) (by omega) (by omega)
    have u8 := u 8 (by omega) (by omega) (by omega) (by omega)
    have u9 := u 9 (by omega) (by omega) (by omega) (by omega)
    exact ⟨by rw [g 1 0 (by decide) (by omega) (by omega) (by omega) (by omega), g 5 0 (by decide) (by omega) (by omega) (by omega) (by omega), g 8 0 (by decide) (by omega) (by omega) (by omega) (by omega)]; exact m, by rw [gc, uc], by rw [g 5 3 (by decide) (by omega) (by omega) (by omega) (by omega), u4]; exact a4, by rw [g 8 3 (by decide) (by omega) (by omega) (by omega) (by omega), u5]; exact a5, by rw [g 0 6 (by decide) (by omega) (by omega) (by omega) (by omega), u6]; exact a6, by rw [g 0 7 (by decide) (by omega) (by omega) (by omega) (by omega), u0, u1]; exact a7, by rw [g 0 8 (by decide) (by omega) (by omega) (by omega) (by omega), u2]; exact a8, by rw [g 0 10 (by decide) (by omega) (by omega) (by omega) (by omega), u7]; exact a10, by rw [g 0 11 (by decide) (by omega) (by omega) (by omega) (by omega), u8, u9]; exact a11, fun c hc => by
        rw [uc] at hc
        by_cases ec : c = D 3
        · rw [ec, gx, ux]
        · rw [g 2 c (by decide) (by omega) (by omega) (by omega) (by omega), u _ (by omega) (by omega) (by omega) (by omega)]; exact r2 c (by omega), fun c hc => by
        rw [uc] at hc
        by_cases ec : c = D 3
        · rw [ec, gy, uy]
        · rw [g 3 c (by decide) (by omega) (by omega) (by omega) (by omega), u _ (by omega) (by omega) (by omega) (by omega)]; exact r3 c (by omega), fun c hc => by
        rw [uc] at hc
        by_cases ec : c = D 3
        · rw [ec, gk, uk]
        · rw [g 4 c (by decide) (by omega) (by omega) (by omega) (by omega), u _ (by omega) (by omega) (by omega) (by omega)]; exact r4 c (by omega), fun c hc => by rw [u4] at hc; rw [g 6 c (by decide) (by omega) (by omega) (by omega) (by omega), u _ (by omega) (by omega) (by omega) (by omega)]; exact r6 c hc, fun c hc => by rw [u4] at hc; rw [g 7 c (by decide) (by omega) (by omega) (by omega) (by omega), u _ (by omega) (by omega) (by omega) (by omega)]; exact r7 c hc, fun c hc => by rw [u5] at hc; rw [g 9 c (by decide) (by omega) (by omega) (by omega) (by omega), u _ (by omega) (by omega) (by omega) (by omega)]; exact r9 c hc, fun c hc => by rw [u5] at hc; rw [g 10 c (by decide) (by omega) (by omega) (by omega) (by omega), u _ (by omega) (by omega) (by omega) (by omega)]; exact r10 c hc, fun c hc => by rw [u6] at hc; rw [g 11 c (by decide) (by omega) (by omega) (by omega) (by omega), u _ (by omega) (by omega) (by omega) (by omega)]; exact r11 c hc, fun c hc => by rw [u6] at hc; rw [g 12 c (by decide) (by omega) (by omega) (by omega) (by omega), u _ (by omega) (by omega) (by omega) (by omega)]; exact r12 c hc, fun k hk => by rw [g 13 k (by decide) (by omega) (by omega) (by omega) (by omega), u7, u _ (by omega) (by omega) (by omega) (by omega)]; exact sh k hk⟩
  · have u : ∀ k, k ≠ 13 + D 3 → k ≠ 24 + D 3 → k ≠ 35 + D 3 → k ≠ 3 → up1 (up1 (up1 (up1 D (13 + D 3) x) (24 + D 3) y) (35 + D 3) (kd4 b N a')) 3 (D 3 + 1) k = D k := fun k h1 h2 h3 h4 => by rw [up1_n h4, up1_n h3, up1_n h2, up1_n h1]
    rw [u 4 (by omega) (by omega) (by omega) (by omega), u 5 (by omega) (by omega) (by omega) (by omega), u 6 (by omega) (by omega) (by omega) (by omega), up1_s, show D 3 + 1 + D 4 + D 5 + D 6 = D 3 + D 4 + D 5 + D 6 + 1 by omega]
    obtain ⟨c1, c2, c3, c4⟩ := n7
    refine ⟨by rw [n8 1 12 (.inl rfl) (.inl rfl)]; exact c1, c2, fun i hi => ?_, c4⟩
    rw [n8 4 i (.inr (.inl rfl)) (.inr (by decide)), n8 5 i (.inr (.inr rfl)) (.inr (by decide)), j8]
    exact c3 i hi
/-- a candle that was left -/
theorem ct_69 {k : Nat → (Nat → Nat) → zE} (h : cTk b N a I J) (hD : cDr q D nc I J) (ho : okD D nc) (h8 : D 8 = 1) (e : lef1 b N a D nc k = R) (k1 : ∀ I' J' m, frD q I I' → cTk b N (nx b N a) I' J' → m < 10 → (D 9).testBit m = false → okD (up1 D 9 (D 9 ||| 2 ^ m)) nc → cDr q (up1 D 9 (D 9 ||| 2 ^ m)) nc I' J' → k (nx b N a) (up1 D 9 (D 9 ||| 2 ^ m)) = R → Q (some (.int (nI 1))) ((fl, n1, n2, p, q, ad), I', J')) (k0 : ∀ I' J', frD q I I' → cFl R I' → Q (some (.int (nI 0))) ((fl, n1, n2, p, q, ad), I', J')) : mm_wc (d + 4) 69 [.ref 1] ((fl, n1, n2, p, q, ad), I, J) Q := by
  obtain ⟨hK, sl, hN⟩ := hD
  have hoN : okN nc := ho.2.2.2.2.2.2.2.2.2.2.2.2.2.2.2.2.2.2.2.2.2.2
  have h9 : D 9 < 2 ^ 10 := Nat.lt_of_lt_of_le ho.2.2.2.2.2.2.2.2.2.2.1 (Nat.pow_le_pow_right (by decide) ho.2.2.2.2.1)
  obtain ⟨m', a3, a4, a5, a6, a7, a8, a10, a11, r2, r3, r4, r6, r7, r9, r10, r11, r12, sh⟩ := id hK
  rw [if_pos h8] at a11
  refine fx_69 (ct_72 h (fun hi => ⟨_, _, _, rfl, rfl, fun _ => ?_, fun z => absurd z n10⟩) (fun hi => ⟨_, _, _, rfl, rfl, fun z => absurd rfl z, fun _ => ct_60 h (by decide) (by decide) (fun I' f' h' => ⟨_, _, _, rfl, rfl, .inl rfl, k0 I' J (tkS_D f') (by rw [lef1_nn hi] at e; rw [← e]; exact h')⟩)⟩))
  have hcp := cod_pos hi.1
  have hcl := cod_lt hi.1
  rw [h.2.2.2.2.2.2 hi.1]
  have no2 : (∀ j, j < 10 → nc j ≠ cod b N a) → mm_wc (d + 3) 60 [.ref 1, .int (nI 2)] ((fl, 0, 0, p, q, ad), I, J) (fun v τ => ∃ r3 I3 J3, v = some (.int r3) ∧ τ = ((fl, 0, 0, p, q, ad), I3, J3) ∧ ((r3 = 0 ∨ r3 = 1) ∧ Q (some (.int r3)) ((fl, n1, n2, p, q, ad), I3, J3))) := fun hno => by
    rw [lef1_no hi hno] at e
    exact ct_60 h (by decide) (by decide) (fun I' f' h' => ⟨_, _, _, rfl, rfl, .inl rfl, k0 I' J (tkS_D f') (by rw [← e]; exact h')⟩)
  refine ct_71 (by omega) hcl hN (fun i him ei => ⟨_, _, _, rfl, rfl, fun z => ?_, fun _ => ?_⟩) (fun hno => ⟨_, _, _, rfl, rfl, fun _ => no2 (fun j hj => hno j (by omega)), fun z => absurd rfl z⟩)
  · have := hN.2.1
    rw [z_m1 (by omega)] at z; exact z.elim
  · have hm23 := hN.2.1
    obtain ⟨s1, s2, s3, s4, s5, s6⟩ := hN.2.2.1 i him
    rw [z_ix (by omega)]
    refine ⟨z_in (by omega) (by decide), fun e4 => ⟨z_in (by omega) (by decide), ?_⟩, fun n4 => no2 (fun j hj ej => ?_)⟩
    · have hsl : sl i < 10 := by
        rcases Nat.lt_or_ge (sl i) 10 with z | z
        · exact z
        · exact absurd e4 (s6 z)
      rw [(s5 hsl).2, a11, z_bit (by omega), z_and, z_or]
      rw [lef1_eq hoN hi hsl ei] at e
      have hs3 : sl i < D 3 := (ho.2.2.2.2.2.2.2.2.2.2.2.2.2.2.2.2.2.2.1 (sl i) hsl).mp s2
      have hand : D 9 &&& 2 ^ sl i = ((D 9).testBit (sl i)).toNat * 2 ^ sl i := and_2p
      have hp2 : 2 ^ sl i ≤ 2 ^ 10 := Nat.pow_le_pow_right (by decide) (by omega)
      have hp1 : 0 < 2 ^ sl i := Nat.two_pow_pos _
      have hle : D 9 &&& 2 ^ sl i ≤ 2 ^ sl i := Nat.and_le_right
      rw [z_eq (a := D 9 &&& 2 ^ sl i) (by omega) (by decide)]
      refine ⟨fun z => ?_, fun z => ct_60 h (by decide) (by decide) (fun I' f' h' => ⟨_, _, _, rfl, rfl, .inl rfl, k0 I' J (tkS_D f') ?_⟩)⟩
      · have hb : (D 9).testBit (sl i) = false := by
          cases hb : (D 9).testBit (sl i)
          · rfl
          · rw [hand, hb] at z
            have : true.toNat * 2 ^ sl i = 2 ^ sl i := by rw [show true.toNat = 1 from rfl, Nat.one_mul]
            omega
        rw [if_neg (by rw [hb]; decide)] at e
        have o' : okD (up1 D 9 (D 9 ||| 2 ^ sl i)) nc := by
          have := okD_89 (v := 1) ho rfl (or_lt2 ho.2.2.2.2.2.2.2.2.2.2.1 hs3)
          rw [← h8, up1_id] at this
          exact this
        refine ct_77n h.ck (fun I2 J2 f2 j2 h2 => ⟨_, _, rfl, rfl, k1 I2 J2 (sl i) ((frD.rf.up (by omega)).tr (aS_D f2)) h2 hsl hb o' ⟨?_, sl, ?_⟩ e⟩)
        · refine (dK.fr ?_ f2 rfl)
          have g : ∀ j k, j < 14 → ¬ (j = 0 ∧ k = 11) → mm_up I (mm_ck q 0) 11 (nI (D 9 ||| 2 ^ sl i)) (mm_ck q j) k = I (mm_ck q j) k := fun j k hj hn => by
            by_cases ej : j = 0
            · subst ej; rw [up_k (by omega)]
            · rw [up_c (ck_ne ej)]
          have g11 : mm_up I (mm_ck q 0) 11 (nI (D 9 ||| 2 ^ sl i)) (mm_ck q 0) 11 = nI (D 9 ||| 2 ^ sl i) := up_s _ _ _ _
          generalize mm_up I (mm_ck q 0) 11 (nI (D 9 ||| 2 ^ sl i)) = I3 at *
          have u : ∀ k, k ≠ 9 → up1 D 9 (D 9 ||| 2 ^ sl i) k = D k := fun k hk => up1_n hk
          have u9 : up1 D 9 (D 9 ||| 2 ^ sl i) 9 = D 9 ||| 2 ^ sl i := up1_s _ _ _
          generalize up1 D 9 (D 9 ||| 2 ^ sl i) = E at *
          have u0 := u 0 (by decide)
          have u1 := u 1 (by decide)
          have u2 := u 2 (by decide)
          have u3 := u 3 (by decide)
          have u4 := u 4 (by decide)
          have u5 := u 5 (by decide)
          have u6 := u 6 (by decide)
          have u7 := u 7 (by decide)
          have u8 := u 8 (by decide)
          have m := m'
          exact ⟨by rw [g 1 0 (by decide) (by omega), g 5 0 (by decide) (by omega), g 8 0 (by decide) (by omega)]; exact m, by rw [g 1 3 (by decide) (by omega), u3]; exact a3, by rw [g 5 3 (by decide) (by omega), u4]; exact a4, by rw [g 8 3 (by decide) (by omega), u5]; exact a5, by rw [g 0 6 (by decide) (by omega), u6]; exact a6, by rw [g 0 7 (by decide) (by omega), u0, u1]; exact a7, by rw [g 0 8 (by decide) (by omega), u2]; exact a8, by rw [g 0 10 (by decide) (by omega), u7]; exact a10, by rw [g11, u8, u9, if_pos h8], fun c hc => by rw [u3] at hc; rw [g 2 c (by decide) (by omega), u _ (by omega)]; exact r2 c hc, fun c hc => by rw [u3] at hc; rw [g 3 c (by decide) (by omega), u _ (by omega)]; exact r3 c hc, fun c hc => by rw [u3] at hc; rw [g 4 c (by decide) (by omega), u _ (by omega)]; exact r4 c hc, fun c hc => by rw [u4] at hc; rw [g 6 c (by decide) (by omega), u _ (by omega)]; exact r6 c hc, fun c hc => by rw [u4] at hc; rw [g 7 c (by decide) (by omega), u _ (by omega)]; exact r7 c hc, fun c hc => by rw [u5] at hc; rw [g 9 c (by decide) (by omega), u _ (by omega)]; exact r9 c hc, fun c hc => by rw [u5] at hc; rw [g 10 c (by decide) (by omega), u _ (by omega)]; exact r10 c hc, fun c hc => by rw [u6] at hc; rw [g 11 c (by decide) (by omega), u _ (by omega)]; exact r11 c hc, fun c hc => by rw [u6] at hc; rw [g 12 c (by decide) (by omega), u _ (by omega)]; exact r12 c hc, fun k hk => by rw [g 13 k (by decide) (by omega), u7, u _ (by omega)]; exact sh k hk⟩
        · rw [up1_n (by decide), up1_n (by decide), up1_n (by decide), up1_n (by decide)]
          exact cNs_cs hN.ck f2 j2
      · have hb : (D 9).testBit (sl i) = true := by
          cases hb : (D 9).testBit (sl i)
          · rw [hand, hb] at z
            exact absurd (Nat.zero_mul _) z
          · rfl
        rw [if_pos hb] at e; rw [← e]; exact h'
    · have hne : ¬ sl i < 10 := fun z => n4 (s5 z).1
      have := hoN j (sl i) (by omega) s1 (by rw [ej, ei]) (by rw [ej]; omega)
      omega
end SG2
