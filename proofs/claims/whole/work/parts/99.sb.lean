/-! reading: the class's words, numbers, signs, names -/
theorem ckd_lt (k : Nat) : ckd k < 6 := by
  unfold ckd
  split
  · decide
  · split
    · decide
    · split
      · decide
      · split
        · decide
        · split <;> decide
theorem ckd_i {k : Nat} : (ckd k = 0 ↔ k = 0) ∧ (ckd k = 1 ↔ k = 2) ∧ (ckd k = 2 ↔ k = 3) ∧ (ckd k = 3 ↔ k = 59) ∧ (ckd k = 4 ↔ k = 44) := by
  unfold ckd
  split
  · omega
  · split
    · omega
    · split
      · omega
      · split
        · omega
        · split <;> omega
abbrev tkS : List (Nat × List Nat) := [(1, [3, 4, 5, 7, 8, 14])]
abbrev cS : List (Nat × List Nat) := [(1, [3, 4, 5, 7, 8, 12, 14]), (4, []), (5, [])]
theorem b8_w : ∀ i, i < 17 → ∀ j, j < (wL i).length → ∀ c, c < 256 → (by8 c = nI ((wL i).getD j 0) ↔ c = (wL i).getD j 0) := by decide +kernel
theorem cTk.fr {b : Nat → Nat} {N a : Nat} {I I' : mmI} {J J' : mmJ} {L : List (Nat × List Nat)} (h : cTk b N a I J) (hf : fr L I I') (hJ : J' 1 6 = J 1 6) (h1 : (inS L 1 2 || inS L 1 3 || inS L 1 4 || inS L 1 5 || inS L 1 7 || inS L 1 14) = false) (h2 : noR 2 3 L = true) : cTk b N a I' J' := by
  simp only [Bool.or_eq_false_iff] at h1
  obtain ⟨⟨⟨⟨⟨g2, g3⟩, g4⟩, g5⟩, g7⟩, g14⟩ := h1
  obtain ⟨t, a1, a2, a3, a4, a5, a6⟩ := h
  exact ⟨⟨by rw [hf 1 2 g2]; exact t.1, t.2.1, fun k hk => by rw [hf 2 k (inS_no h2 (by decide) (by decide))]; exact t.2.2.1 k hk, t.2.2.2.1, by rw [hf 1 14 g14]; exact t.2.2.2.2⟩, a1, by rw [hf 1 4 g4]; exact a2, by rw [hf 1 5 g5]; exact a3, by rw [hf 1 3 g3]; exact a4, fun z => by rw [hf 1 7 g7]; exact a5 z, fun z => by rw [hJ]; exact a6 z⟩
section SB
variable {d n1 n2 : Nat} {fl : Nat → Bool} {p q : Bool} {ad : Nat → Nat} {I : mmI} {J : mmJ} {Q : mmQ} {b : Nat → Nat} {N a : Nat} {R : zE}
theorem ct_60 {c : Nat} (h : cTk b N a I J) (c1 : 1 ≤ c) (c6 : c ≤ 6) (k : ∀ I', fr tkS I I' → cFl (.error (c, a)) I' → Q (some (.int (nI 0))) ((fl, n1, n2, p, q, ad), I', J)) : mm_wc (d + 1) 60 [.ref 1, .int (nI c)] ((fl, n1, n2, p, q, ad), I, J) Q := by
  have h9 := h.1.2.1
  have ha := h.2.1
  exact fx_60 (k _ (fr.rf.up rfl) ⟨c, a, rfl, c1, c6, by omega, up_s _ _ _ _, by rw [up_k (by decide)]; exact h.2.2.1⟩)
theorem sa_lp {i r : Nat} (hi : i < 17) (k1004 : ∀ (σ : mmS) (Q : mmQ), Q (some (.int (nI (wL i).length))) σ → mm_wc (d + 1) 1004 [.ref r] σ Q) (k1005 : ∀ (j : Nat) (σ : mmS) (Q : mmQ), j < (wL i).length → Q (some (.int (nI ((wL i).getD j 0)))) σ → mm_wc (d + 1) 1005 [.ref r, .int (nI j)] σ Q)
    (fx : ∀ {a2 : Int32}, mm_wc (d + 1) 1004 [.ref r] ((fl, 0, 0, p, q, ad), I, J) (fun v τ => ∃ r1 I1 J1, v = some (.int r1) ∧ τ = ((fl, 0, 0, p, q, ad), I1, J1) ∧ ((r1 ≤ a2 → Q (some (.int (nI 1))) ((fl, n1, n2, p, q, ad), I1, J1)) ∧ (¬ r1 ≤ a2 → (vp_in ((I1 1 4) + a2) 900 ∧ mm_wc (d + 1) 1005 [.ref r, .int a2] ((fl, 0, 0, p, q, ad), I1, J1) (fun v τ => ∃ r2 I2 J2, v = some (.int r2) ∧ τ = ((fl, 0, 0, p, q, ad), I2, J2) ∧ (((I1 2 (((I1 1 4) + a2)).toNatClampNeg) = r2 → mm_w Q (mm_wc (d + 1)) bk_73 28 [some (.ref 1), some (.ref r), some (.int (a2 + (nI 1)))] [] ((fl, n1, n2, p, q, ad), I2, J2)) ∧ (¬ (I1 2 (((I1 1 4) + a2)).toNatClampNeg) = r2 → Q (some (.int (nI 0))) ((fl, n1, n2, p, q, ad), I2, J2)))))))) → mm_w Q (mm_wc (d + 1)) bk_73 28 [some (.ref 1), some (.ref r), some (.int a2)] [] ((fl, n1, n2, p, q, ad), I, J))
    (h : cTk b N a I J) (hK : tkK b N a = 2) (hL : tkE b N a - a = (wL i).length) (k1 : wd b N i a → Q (some (.int (nI 1))) ((fl, n1, n2, p, q, ad), I, J)) (k0 : ¬ wd b N i a → Q (some (.int (nI 0))) ((fl, n1, n2, p, q, ad), I, J)) : ∀ n j, n + j = (wL i).length → (∀ k, k < j → b (a + k) = (wL i).getD k 0) → mm_w Q (mm_wc (d + 1)) bk_73 28 [some (.ref 1), some (.ref r), some (.int (nI j))] [] ((fl, n1, n2, p, q, ad), I, J) := by
  obtain ⟨⟨t1, t2, t3, t4, -⟩, ha, h4, -⟩ := h
  obtain ⟨-, -, -, -, t8, tN, tl⟩ := tk_w hK
  intro n
  induction n with
  | zero =>
    intro j hj hx
    refine fx (k1004 _ _ ⟨_, _, _, rfl, rfl, ?_⟩)
    rw [z_le (by omega) (by omega)]
    exact ⟨fun _ => k1 ⟨hK, hL, fun k hk => hx k (by omega)⟩, fun e => absurd (by omega) e⟩
  | succ n ih =>
    intro j hj hx
    refine fx (k1004 _ _ ⟨_, _, _, rfl, rfl, ?_⟩)
    have hb := t4 (a + j) (by omega)
    rw [z_le (by omega) (by omega), h4, z_add, z_ix (by omega), t3 (a + j) (by omega)]
    refine ⟨fun e => by omega, fun _ => ⟨z_in (by omega) (by decide), k1005 j _ _ (by omega) ⟨_, _, _, rfl, rfl, ?_⟩⟩⟩
    rw [b8_w i hi j (by omega) _ hb, z_add]
    refine ⟨fun e => ih (j + 1) (by omega) (fun k hk => ?_), fun e => k0 (fun z => e (z.2.2 j (by omega)))⟩
    by_cases ek : k = j
    · subst ek; exact e
    · exact hx k (by omega)
theorem ct_73_cake (h : cTk b N a I J) (k1 : wd b N 0 a → Q (some (.int (nI 1))) ((fl, n1, n2, p, q, ad), I, J)) (k0 : ¬ wd b N 0 a → Q (some (.int (nI 0))) ((fl, n1, n2, p, q, ad), I, J)) : mm_wc (d + 2) 73 [.ref 1, .ref 98] ((fl, n1, n2, p, q, ad), I, J) Q := by
  obtain ⟨t, ha, h4, h5, h3, -⟩ := id h
  have hkl := ckd_lt (tkK b N a)
  have hN := t.2.1
  refine fx_73_cake ?_
  rw [h3, z_eq (a := ckd (tkK b N a)) (by omega) (by decide), (ckd_i (k := tkK b N a)).2.1]
  refine ⟨fun e => k0 (fun z => e z.1), fun e => ct_1004_cake ⟨_, _, _, rfl, rfl, ?_⟩⟩
  obtain ⟨-, -, -, t1, t8, tN, -⟩ := tk_w e
  have hl : (wL 0).length = 4 := rfl
  rw [h4, h5, z_sub (by omega), z_eq (a := tkE b N a - a) (by omega) (by decide)]
  exact ⟨fun el => sa_lp (i := 0) (by decide) (fun σ Q hq => ct_1004_cake hq) ct_1005_cake fx_73_cake_28 h e (by rw [hl]; exact el) k1 k0 4 0 (by rw [hl]) (fun k hk => absurd hk (Nat.not_lt_zero k)), fun el => k0 (fun z => el (by rw [← hl]; exact z.2.1))⟩
theorem ct_73_near (h : cTk b N a I J) (k1 : wd b N 1 a → Q (some (.int (nI 1))) ((fl, n1, n2, p, q, ad), I, J)) (k0 : ¬ wd b N 1 a → Q (some (.int (nI 0))) ((fl, n1, n2, p, q, ad), I, J)) : mm_wc (d + 2) 73 [.ref 1, .ref 99] ((fl, n1, n2, p, q, ad), I, J) Q := by
  obtain ⟨t, ha, h4, h5, h3, -⟩ := id h
  have hkl := ckd_lt (tkK b N a)
  have hN := t.2.1
  refine fx_73_near ?_
  rw [h3, z_eq (a := ckd (tkK b N a)) (by omega) (by decide), (ckd_i (k := tkK b N a)).2.1]
  refine ⟨fun e => k0 (fun z => e z.1), fun e => ct_1004_near ⟨_, _, _, rfl, rfl, ?_⟩⟩
  obtain ⟨-, -, -, t1, t8, tN, -⟩ := tk_w e
  have hl : (wL 1).length = 4 := rfl
  rw [h4, h5, z_sub (by omega), z_eq (a := tkE b N a - a) (by omega) (by decide)]
  exact ⟨fun el => sa_lp (i := 1) (by decide) (fun σ Q hq => ct_1004_near hq) ct_1005_near fx_73_near_28 h e (by rw [hl]; exact el) k1 k0 4 0 (by rw [hl]) (fun k hk => absurd hk (Nat.not_lt_zero k)), fun el => k0 (fun z => el (by rw [← hl]; exact z.2.1))⟩
theorem ct_73_wax (h : cTk b N a I J) (k1 : wd b N 2 a → Q (some (.int (nI 1))) ((fl, n1, n2, p, q, ad), I, J)) (k0 : ¬ wd b N 2 a → Q (some (.int (nI 0))) ((fl, n1, n2, p, q, ad), I, J)) : mm_wc (d + 2) 73 [.ref 1, .ref 100] ((fl, n1, n2, p, q, ad), I, J) Q := by
  obtain ⟨t, ha, h4, h5, h3, -⟩ := id h
  have hkl := ckd_lt (tkK b N a)
  have hN := t.2.1
  refine fx_73_wax ?_
  rw [h3, z_eq (a := ckd (tkK b N a)) (by omega) (by decide), (ckd_i (k := tkK b N a)).2.1]
  refine ⟨fun e => k0 (fun z => e z.1), fun e => ct_1004_wax ⟨_, _, _, rfl, rfl, ?_⟩⟩
  obtain ⟨-, -, -, t1, t8, tN, -⟩ := tk_w e
  have hl : (wL 2).length = 3 := rfl
  rw [h4, h5, z_sub (by omega), z_eq (a := tkE b N a - a) (by omega) (by decide)]
  exact ⟨fun el => sa_lp (i := 2) (by decide) (fun σ Q hq => ct_1004_wax hq) ct_1005_wax fx_73_wax_28 h e (by rw [hl]; exact el) k1 k0 3 0 (by rw [hl]) (fun k hk => absurd hk (Nat.not_lt_zero k)), fun el => k0 (fun z => el (by rw [← hl]; exact z.2.1))⟩
theorem ct_73_candle (h : cTk b N a I J) (k1 : wd b N 3 a → Q (some (.int (nI 1))) ((fl, n1, n2, p, q, ad), I, J)) (k0 : ¬ wd b N 3 a → Q (some (.int (nI 0))) ((fl, n1, n2, p, q, ad), I, J)) : mm_wc (d + 2) 73 [.ref 1, .ref 101] ((fl, n1, n2, p, q, ad), I, J) Q := by
  obtain ⟨t, ha, h4, h5, h3, -⟩ := id h
  have hkl := ckd_lt (tkK b N a)
  have hN := t.2.1
  refine fx_73_candle ?_
  rw [h3, z_eq (a := ckd (tkK b N a)) (by omega) (by decide), (ckd_i (k := tkK b N a)).2.1]
  refine ⟨fun e => k0 (fun z => e z.1), fun e => ct_1004_candle ⟨_, _, _, rfl, rfl, ?_⟩⟩
  obtain ⟨-, -, -, t1, t8, tN, -⟩ := tk_w e
  have hl : (wL 3).length = 6 := rfl
  rw [h4, h5, z_sub (by omega), z_eq (a := tkE b N a - a) (by omega) (by decide)]
  exact ⟨fun el => sa_lp (i := 3) (by decide) (fun σ Q hq => ct_1004_candle hq) ct_1005_candle fx_73_candle_28 h e (by rw [hl]; exact el) k1 k0 6 0 (by rw [hl]) (fun k hk => absurd hk (Nat.not_lt_zero k)), fun el => k0 (fun z => el (by rw [← hl]; exact z.2.1))⟩
theorem ct_73_place (h : cTk b N a I J) (k1 : wd b N 4 a → Q (some (.int (nI 1))) ((fl, n1, n2, p, q, ad), I, J)) (k0 : ¬ wd b N 4 a → Q (some (.int (nI 0))) ((fl, n1, n2, p, q, ad), I, J)) : mm_wc (d + 2) 73 [.ref 1, .ref 102] ((fl, n1, n2, p, q, ad), I, J) Q := by
  obtain ⟨t, ha, h4, h5, h3, -⟩ := id h
  have hkl := ckd_lt (tkK b N a)
  have hN := t.2.1
  refine fx_73_place ?_
  rw [h3, z_eq (a := ckd (tkK b N a)) (by omega) (by decide), (ckd_i (k := tkK b N a)).2.1]
  refine ⟨fun e => k0 (fun z => e z.1), fun e => ct_1004_place ⟨_, _, _, rfl, rfl, ?_⟩⟩
  obtain ⟨-, -, -, t1, t8, tN, -⟩ := tk_w e
  have hl : (wL 4).length = 5 := rfl
  rw [h4, h5, z_sub (by omega), z_eq (a := tkE b N a - a) (by omega) (by decide)]
  exact ⟨fun el => sa_lp (i := 4) (by decide) (fun σ Q hq => ct_1004_place hq) ct_1005_place fx_73_place_28 h e (by rw [hl]; exact el) k1 k0 5 0 (by rw [hl]) (fun k hk => absurd hk (Nat.not_lt_zero k)), fun el => k0 (fun z => el (by rw [← hl]; exact z.2.1))⟩
theorem ct_73_spot (h : cTk b N a I J) (k1 : wd b N 5 a → Q (some (.int (nI 1))) ((fl, n1, n2, p, q, ad), I, J)) (k0 : ¬ wd b N 5 a → Q (some (.int (nI 0))) ((fl, n1, n2, p, q, ad), I, J)) : mm_wc (d + 2) 73 [.ref 1, .ref 103] ((fl, n1, n2, p, q, ad), I, J) Q := by
  obtain ⟨t, ha, h4, h5, h3, -⟩ := id h
  have hkl := ckd_lt (tkK b N a)
  have hN := t.2.1
  refine fx_73_spot ?_
  rw [h3, z_eq (a := ckd (tkK b N a)) (by omega) (by decide), (ckd_i (k := tkK b N a)).2.1]
  refine ⟨fun e => k0 (fun z => e z.1), fun e => ct_1004_spot ⟨_, _, _, rfl, rfl, ?_⟩⟩
  obtain ⟨-, -, -, t1, t8, tN, -⟩ := tk_w e
  have hl : (wL 5).length = 4 := rfl
  rw [h4, h5, z_sub (by omega), z_eq (a := tkE b N a - a) (by omega) (by decide)]
  exact ⟨fun el => sa_lp (i := 5) (by decide) (fun σ Q hq => ct_1004_spot hq) ct_1005_spot fx_73_spot_28 h e (by rw [hl]; exact el) k1 k0 4 0 (by rw [hl]) (fun k hk => absurd hk (Nat.not_lt_zero k)), fun el => k0 (fun z => el (by rw [← hl]; exact z.2.1))⟩
theorem ct_73_person (h : cTk b N a I J) (k1 : wd b N 6 a → Q (some (.int (nI 1))) ((fl, n1, n2, p, q, ad), I, J)) (k0 : ¬ wd b N 6 a → Q (some (.int (nI 0))) ((fl, n1, n2, p, q, ad), I, J)) : mm_wc (d + 2) 73 [.ref 1, .ref 104] ((fl, n1, n2, p, q, ad), I, J) Q := by
  obtain ⟨t, ha, h4, h5, h3, -⟩ := id h
  have hkl := ckd_lt (tkK b N a)
  have hN := t.2.1
  refine fx_73_person ?_
  rw [h3, z_eq (a := ckd (tkK b N a)) (by omega) (by decide), (ckd_i (k := tkK b N a)).2.1]
  refine ⟨fun e => k0 (fun z => e z.1), fun e => ct_1004_person ⟨_, _, _, rfl, rfl, ?_⟩⟩
  obtain ⟨-, -, -, t1, t8, tN, -⟩ := tk_w e
  have hl : (wL 6).length = 6 := rfl
  rw [h4, h5, z_sub (by omega), z_eq (a := tkE b N a - a) (by omega) (by decide)]
  exact ⟨fun el => sa_lp (i := 6) (by decide) (fun σ Q hq => ct_1004_person hq) ct_1005_person fx_73_person_28 h e (by rw [hl]; exact el) k1 k0 6 0 (by rw [hl]) (fun k hk => absurd hk (Nat.not_lt_zero k)), fun el => k0 (fun z => el (by rw [← hl]; exact z.2.1))⟩
theorem ct_73_shaky (h : cTk b N a I J) (k1 : wd b N 7 a → Q (some (.int (nI 1))) ((fl, n1, n2, p, q, ad), I, J)) (k0 : ¬ wd b N 7 a → Q (some (.int (nI 0))) ((fl, n1, n2, p, q, ad), I, J)) : mm_wc (d + 2) 73 [.ref 1, .ref 105] ((fl, n1, n2, p, q, ad), I, J) Q := by
  obtain ⟨t, ha, h4, h5, h3, -⟩ := id h
  have hkl := ckd_lt (tkK b N a)
  have hN := t.2.1
  refine fx_73_shaky ?_
  rw [h3, z_eq (a := ckd (tkK b N a)) (by omega) (by decide), (ckd_i (k := tkK b N a)).2.1]
  refine ⟨fun e => k0 (fun z => e z.1), fun e => ct_1004_shaky ⟨_, _, _, rfl, rfl, ?_⟩⟩
  obtain ⟨-, -, -, t1, t8, tN, -⟩ := tk_w e
  have hl : (wL 7).length = 5 := rfl
  rw [h4, h5, z_sub (by omega), z_eq (a := tkE b N a - a) (by omega) (by decide)]
  exact ⟨fun el => sa_lp (i := 7) (by decide) (fun σ Q hq => ct_1004_shaky hq) ct_1005_shaky fx_73_shaky_28 h e (by rw [hl]; exact el) k1 k0 5 0 (by rw [hl]) (fun k hk => absurd hk (Nat.not_lt_zero k)), fun el => k0 (fun z => el (by rw [← hl]; exact z.2.1))⟩
theorem ct_73_left (h : cTk b N a I J) (k1 : wd b N 8 a → Q (some (.int (nI 1))) ((fl, n1, n2, p, q, ad), I, J)) (k0 : ¬ wd b N 8 a → Q (some (.int (nI 0))) ((fl, n1, n2, p, q, ad), I, J)) : mm_wc (d + 2) 73 [.ref 1, .ref 106] ((fl, n1, n2, p, q, ad), I, J) Q := by
  obtain ⟨t, ha, h4, h5, h3, -⟩ := id h
  have hkl := ckd_lt (tkK b N a)
  have hN := t.2.1
  refine fx_73_left ?_
  rw [h3, z_eq (a := ckd (tkK b N a)) (by omega) (by decide), (ckd_i (k := tkK b N a)).2.1]
  refine ⟨fun e => k0 (fun z => e z.1), fun e => ct_1004_left ⟨_, _, _, rfl, rfl, ?_⟩⟩
  obtain ⟨-, -, -, t1, t8, tN, -⟩ := tk_w e
  have hl : (wL 8).length = 4 := rfl
  rw [h4, h5, z_sub (by omega), z_eq (a := tkE b N a - a) (by omega) (by decide)]
  exact ⟨fun el => sa_lp (i := 8) (by decide) (fun σ Q hq => ct_1004_left hq) ct_1005_left fx_73_left_28 h e (by rw [hl]; exact el) k1 k0 4 0 (by rw [hl]) (fun k hk => absurd hk (Nat.not_lt_zero k)), fun el => k0 (fun z => el (by rw [← hl]; exact z.2.1))⟩
theorem ct_73_none (h : cTk b N a I J) (k1 : wd b N 9 a → Q (some (.int (nI 1))) ((fl, n1, n2, p, q, ad), I, J)) (k0 : ¬ wd b N 9 a → Q (some (.int (nI 0))) ((fl, n1, n2, p, q, ad), I, J)) : mm_wc (d + 2) 73 [.ref 1, .ref 107] ((fl, n1, n2, p, q, ad), I, J) Q := by
  obtain ⟨t, ha, h4, h5, h3, -⟩ := id h
  have hkl := ckd_lt (tkK b N a)
  have hN := t.2.1
  refine fx_73_none ?_
  rw [h3, z_eq (a := ckd (tkK b N a)) (by omega) (by decide), (ckd_i (k := tkK b N a)).2.1]
  refine ⟨fun e => k0 (fun z => e z.1), fun e => ct_1004_none ⟨_, _, _, rfl, rfl, ?_⟩⟩
  obtain ⟨-, -, -, t1, t8, tN, -⟩ := tk_w e
  have hl : (wL 9).length = 4 := rfl
  rw [h4, h5, z_sub (by omega), z_eq (a := tkE b N a - a) (by omega) (by decide)]
  exact ⟨fun el => sa_lp (i := 9) (by decide) (fun σ Q hq => ct_1004_none hq) ct_1005_none fx_73_none_28 h e (by rw [hl]; exact el) k1 k0 4 0 (by rw [hl]) (fun k hk => absurd hk (Nat.not_lt_zero k)), fun el => k0 (fun z => el (by rw [← hl]; exact z.2.1))⟩
theorem ct_73_at (h : cTk b N a I J) (k1 : wd b N 10 a → Q (some (.int (nI 1))) ((fl, n1, n2, p, q, ad), I, J)) (k0 : ¬ wd b N 10 a → Q (some (.int (nI 0))) ((fl, n1, n2, p, q, ad), I, J)) : mm_wc (d + 2) 73 [.ref 1, .ref 108] ((fl, n1, n2, p, q, ad), I, J) Q := by
  obtain ⟨t, ha, h4, h5, h3, -⟩ := id h
  have hkl := ckd_lt (tkK b N a)
  have hN := t.2.1
  refine fx_73_at ?_
  rw [h3, z_eq (a := ckd (tkK b N a)) (by omega) (by decide), (ckd_i (k := tkK b N a)).2.1]
  refine ⟨fun e => k0 (fun z => e z.1), fun e => ct_1004_at ⟨_, _, _, rfl, rfl, ?_⟩⟩
  obtain ⟨-, -, -, t1, t8, tN, -⟩ := tk_w e
  have hl : (wL 10).length = 2 := rfl
  rw [h4, h5, z_sub (by omega), z_eq (a := tkE b N a - a) (by omega) (by decide)]
  exact ⟨fun el => sa_lp (i := 10) (by decide) (fun σ Q hq => ct_1004_at hq) ct_1005_at fx_73_at_28 h e (by rw [hl]; exact el) k1 k0 2 0 (by rw [hl]) (fun k hk => absurd hk (Nat.not_lt_zero k)), fun el => k0 (fun z => el (by rw [← hl]; exact z.2.1))⟩
theorem ct_73_plain (h : cTk b N a I J) (k1 : wd b N 11 a → Q (some (.int (nI 1))) ((fl, n1, n2, p, q, ad), I, J)) (k0 : ¬ wd b N 11 a → Q (some (.int (nI 0))) ((fl, n1, n2, p, q, ad), I, J)) : mm_wc (d + 2) 73 [.ref 1, .ref 109] ((fl, n1, n2, p, q, ad), I, J) Q := by
  obtain ⟨t, ha, h4, h5, h3, -⟩ := id h
  have hkl := ckd_lt (tkK b N a)
  have hN := t.2.1
  refine fx_73_plain ?_
  rw [h3, z_eq (a := ckd (tkK b N a)) (by omega) (by decide), (ckd_i (k := tkK b N a)).2.1]
  refine ⟨fun e => k0 (fun z => e z.1), fun e => ct_1004_plain ⟨_, _, _, rfl, rfl, ?_⟩⟩
  obtain ⟨-, -, -, t1, t8, tN, -⟩ := tk_w e
  have hl : (wL 11).length = 5 := rfl
  rw [h4, h5, z_sub (by omega), z_eq (a := tkE b N a - a) (by omega) (by decide)]
  exact ⟨fun el => sa_lp (i := 11) (by decide) (fun σ Q hq => ct_1004_plain hq) ct_1005_plain fx_73_plain_28 h e (by rw [hl]; exact el) k1 k0 5 0 (by rw [hl]) (fun k hk => absurd hk (Nat.not_lt_zero k)), fun el => k0 (fun z => el (by rw [← hl]; exact z.2.1))⟩
theorem ct_73_tall (h : cTk b N a I J) (k1 : wd b N 12 a → Q (some (.int (nI 1))) ((fl, n1, n2, p, q, ad), I, J)) (k0 : ¬ wd b N 12 a → Q (some (.int (nI 0))) ((fl, n1, n2, p, q, ad), I, J)) : mm_wc (d + 2) 73 [.ref 1, .ref 110] ((fl, n1, n2, p, q, ad), I, J) Q := by
  obtain ⟨t, ha, h4, h5, h3, -⟩ := id h
  have hkl := ckd_lt (tkK b N a)
  have hN := t.2.1
  refine fx_73_tall ?_
  rw [h3, z_eq (a := ckd (tkK b N a)) (by omega) (by decide), (ckd_i (k := tkK b N a)).2.1]
  refine ⟨fun e => k0 (fun z => e z.1), fun e => ct_1004_tall ⟨_, _, _, rfl, rfl, ?_⟩⟩
  obtain ⟨-, -, -, t1, t8, tN, -⟩ := tk_w e
  have hl : (wL 12).length = 4 := rfl
  rw [h4, h5, z_sub (by omega), z_eq (a := tkE b N a - a) (by omega) (by decide)]
  exact ⟨fun el => sa_lp (i := 12) (by decide) (fun σ Q hq => ct_1004_tall hq) ct_1005_tall fx_73_tall_28 h e (by rw [hl]; exact el) k1 k0 4 0 (by rw [hl]) (fun k hk => absurd hk (Nat.not_lt_zero k)), fun el => k0 (fun z => el (by rw [← hl]; exact z.2.1))⟩
theorem ct_73_again (h : cTk b N a I J) (k1 : wd b N 13 a → Q (some (.int (nI 1))) ((fl, n1, n2, p, q, ad), I, J)) (k0 : ¬ wd b N 13 a → Q (some (.int (nI 0))) ((fl, n1, n2, p, q, ad), I, J)) : mm_wc (d + 2) 73 [.ref 1, .ref 111] ((fl, n1, n2, p, q, ad), I, J) Q := by
  obtain ⟨t, ha, h4, h5, h3, -⟩ := id h
  have hkl := ckd_lt (tkK b N a)
  have hN := t.2.1
  refine fx_73_again ?_
  rw [h3, z_eq (a := ckd (tkK b N a)) (by omega) (by decide), (ckd_i (k := tkK b N a)).2.1]
  refine ⟨fun e => k0 (fun z => e z.1), fun e => ct_1004_again ⟨_, _, _, rfl, rfl, ?_⟩⟩
  obtain ⟨-, -, -, t1, t8, tN, -⟩ := tk_w e
  have hl : (wL 13).length = 5 := rfl
  rw [h4, h5, z_sub (by omega), z_eq (a := tkE b N a - a) (by omega) (by decide)]
  exact ⟨fun el => sa_lp (i := 13) (by decide) (fun σ Q hq => ct_1004_again hq) ct_1005_again fx_73_again_28 h e (by rw [hl]; exact el) k1 k0 5 0 (by rw [hl]) (fun k hk => absurd hk (Nat.not_lt_zero k)), fun el => k0 (fun z => el (by rw [← hl]; exact z.2.1))⟩
theorem ct_73_trick (h : cTk b N a I J) (k1 : wd b N 14 a → Q (some (.int (nI 1))) ((fl, n1, n2, p, q, ad), I, J)) (k0 : ¬ wd b N 14 a → Q (some (.int (nI 0))) ((fl, n1, n2, p, q, ad), I, J)) : mm_wc (d + 2) 73 [.ref 1, .ref 112] ((fl, n1, n2, p, q, ad), I, J) Q := by
  obtain ⟨t, ha, h4, h5, h3, -⟩ := id h
  have hkl := ckd_lt (tkK b N a)
  have hN := t.2.1
  refine fx_73_trick ?_
  rw [h3, z_eq (a := ckd (tkK b N a)) (by omega) (by decide), (ckd_i (k := tkK b N a)).2.1]
  refine ⟨fun e => k0 (fun z => e z.1), fun e => ct_1004_trick ⟨_, _, _, rfl, rfl, ?_⟩⟩
  obtain ⟨-, -, -, t1, t8, tN, -⟩ := tk_w e
  have hl : (wL 14).length = 5 := rfl
  rw [h4, h5, z_sub (by omega), z_eq (a := tkE b N a - a) (by omega) (by decide)]
  exact ⟨fun el => sa_lp (i := 14) (by decide) (fun σ Q hq => ct_1004_trick hq) ct_1005_trick fx_73_trick_28 h e (by rw [hl]; exact el) k1 k0 5 0 (by rw [hl]) (fun k hk => absurd hk (Nat.not_lt_zero k)), fun el => k0 (fun z => el (by rw [← hl]; exact z.2.1))⟩
theorem ct_73_reach (h : cTk b N a I J) (k1 : wd b N 15 a → Q (some (.int (nI 1))) ((fl, n1, n2, p, q, ad), I, J)) (k0 : ¬ wd b N 15 a → Q (some (.int (nI 0))) ((fl, n1, n2, p, q, ad), I, J)) : mm_wc (d + 2) 73 [.ref 1, .ref 113] ((fl, n1, n2, p, q, ad), I, J) Q := by
  obtain ⟨t, ha, h4, h5, h3, -⟩ := id h
  have hkl := ckd_lt (tkK b N a)
  have hN := t.2.1
  refine fx_73_reach ?_
  rw [h3, z_eq (a := ckd (tkK b N a)) (by omega) (by decide), (ckd_i (k := tkK b N a)).2.1]
  refine ⟨fun e => k0 (fun z => e z.1), fun e => ct_1004_reach ⟨_, _, _, rfl, rfl, ?_⟩⟩
  obtain ⟨-, -, -, t1, t8, tN, -⟩ := tk_w e
  have hl : (wL 15).length = 5 := rfl
  rw [h4, h5, z_sub (by omega), z_eq (a := tkE b N a - a) (by omega) (by decide)]
  exact ⟨fun el => sa_lp (i := 15) (by decide) (fun σ Q hq => ct_1004_reach hq) ct_1005_reach fx_73_reach_28 h e (by rw [hl]; exact el) k1 k0 5 0 (by rw [hl]) (fun k hk => absurd hk (Nat.not_lt_zero k)), fun el => k0 (fun z => el (by rw [← hl]; exact z.2.1))⟩
theorem ct_73_spread (h : cTk b N a I J) (k1 : wd b N 16 a → Q (some (.int (nI 1))) ((fl, n1, n2, p, q, ad), I, J)) (k0 : ¬ wd b N 16 a → Q (some (.int (nI 0))) ((fl, n1, n2, p, q, ad), I, J)) : mm_wc (d + 2) 73 [.ref 1, .ref 114] ((fl, n1, n2, p, q, ad), I, J) Q := by
  obtain ⟨t, ha, h4, h5, h3, -⟩ := id h
  have hkl := ckd_lt (tkK b N a)
  have hN := t.2.1
  refine fx_73_spread ?_
  rw [h3, z_eq (a := ckd (tkK b N a)) (by omega) (by decide), (ckd_i (k := tkK b N a)).2.1]
  refine ⟨fun e => k0 (fun z => e z.1), fun e => ct_1004_spread ⟨_, _, _, rfl, rfl, ?_⟩⟩
  obtain ⟨-, -, -, t1, t8, tN, -⟩ := tk_w e
  have hl : (wL 16).length = 6 := rfl
  rw [h4, h5, z_sub (by omega), z_eq (a := tkE b N a - a) (by omega) (by decide)]
  exact ⟨fun el => sa_lp (i := 16) (by decide) (fun σ Q hq => ct_1004_spread hq) ct_1005_spread fx_73_spread_28 h e (by rw [hl]; exact el) k1 k0 6 0 (by rw [hl]) (fun k hk => absurd hk (Nat.not_lt_zero k)), fun el => k0 (fun z => el (by rw [← hl]; exact z.2.1))⟩
theorem ct_74_near {k : Nat → zE} (h : cTk b N a I J) (e : wdF b N 1 a k = R) (k1 : ∀ I' J', fr tkS I I' → J' 3 = J 3 → cTk b N (nx b N a) I' J' → k (nx b N a) = R → Q (some (.int (nI 1))) ((fl, n1, n2, p, q, ad), I', J')) (k0 : ∀ I', fr tkS I I' → cFl R I' → Q (some (.int (nI 0))) ((fl, n1, n2, p, q, ad), I', J)) : mm_wc (d + 4) 74 [.ref 1, .ref 99] ((fl, n1, n2, p, q, ad), I, J) Q := by
  refine fx_74_near (ct_73_near h (fun z => ⟨_, _, _, rfl, rfl, fun _ => ct_77n h (fun I' J' f' j' h' => ⟨_, _, rfl, rfl, k1 I' J' (f'.sub rfl) j' h' ?_⟩), fun z => absurd z n10⟩) (fun z => ⟨_, _, _, rfl, rfl, fun z => absurd rfl z, fun _ => ct_60 h (by decide) (by decide) (fun I' f' h' => ⟨_, _, _, rfl, rfl, .inl rfl, k0 I' f' ?_⟩)⟩))
  · rw [wdF, if_pos z] at e; exact e
  · rw [wdF, if_neg z] at e; rw [← e]; exact h'
theorem ct_74_wax {k : Nat → zE} (h : cTk b N a I J) (e : wdF b N 2 a k = R) (k1 : ∀ I' J', fr tkS I I' → J' 3 = J 3 → cTk b N (nx b N a) I' J' → k (nx b N a) = R → Q (some (.int (nI 1))) ((fl, n1, n2, p, q, ad), I', J')) (k0 : ∀ I', fr tkS I I' → cFl R I' → Q (some (.int (nI 0))) ((fl, n1, n2, p, q, ad), I', J)) : mm_wc (d + 4) 74 [.ref 1, .ref 100] ((fl, n1, n2, p, q, ad), I, J) Q := by
  refine fx_74_wax (ct_73_wax h (fun z => ⟨_, _, _, rfl, rfl, fun _ => ct_77n h (fun I' J' f' j' h' => ⟨_, _, rfl, rfl, k1 I' J' (f'.sub rfl) j' h' ?_⟩), fun z => absurd z n10⟩) (fun z => ⟨_, _, _, rfl, rfl, fun z => absurd rfl z, fun _ => ct_60 h (by decide) (by decide) (fun I' f' h' => ⟨_, _, _, rfl, rfl, .inl rfl, k0 I' f' ?_⟩)⟩))
  · rw [wdF, if_pos z] at e; exact e
  · rw [wdF, if_neg z] at e; rw [← e]; exact h'
theorem ct_74_at {k : Nat → zE} (h : cTk b N a I J) (e : wdF b N 10 a k = R) (k1 : ∀ I' J', fr tkS I I' → J' 3 = J 3 → cTk b N (nx b N a) I' J' → k (nx b N a) = R → Q (some (.int (nI 1))) ((fl, n1, n2, p, q, ad), I', J')) (k0 : ∀ I', fr tkS I I' → cFl R I' → Q (some (.int (nI 0))) ((fl, n1, n2, p, q, ad), I', J)) : mm_wc (d + 4) 74 [.ref 1, .ref 108] ((fl, n1, n2, p, q, ad), I, J) Q := by
  refine fx_74_at (ct_73_at h (fun z => ⟨_, _, _, rfl, rfl, fun _ => ct_77n h (fun I' J' f' j' h' => ⟨_, _, rfl, rfl, k1 I' J' (f'.sub rfl) j' h' ?_⟩), fun z => absurd z n10⟩) (fun z => ⟨_, _, _, rfl, rfl, fun z => absurd rfl z, fun _ => ct_60 h (by decide) (by decide) (fun I' f' h' => ⟨_, _, _, rfl, rfl, .inl rfl, k0 I' f' ?_⟩)⟩))
  · rw [wdF, if_pos z] at e; exact e
  · rw [wdF, if_neg z] at e; rw [← e]; exact h'
theorem ct_74_reach {k : Nat → zE} (h : cTk b N a I J) (e : wdF b N 15 a k = R) (k1 : ∀ I' J', fr tkS I I' → J' 3 = J 3 → cTk b N (nx b N a) I' J' → k (nx b N a) = R → Q (some (.int (nI 1))) ((fl, n1, n2, p, q, ad), I', J')) (k0 : ∀ I', fr tkS I I' → cFl R I' → Q (some (.int (nI 0))) ((fl, n1, n2, p, q, ad), I', J)) : mm_wc (d + 4) 74 [.ref 1, .ref 113] ((fl, n1, n2, p, q, ad), I, J) Q := by
  refine fx_74_reach (ct_73_reach h (fun z => ⟨_, _, _, rfl, rfl, fun _ => ct_77n h (fun I' J' f' j' h' => ⟨_, _, rfl, rfl, k1 I' J' (f'.sub rfl) j' h' ?_⟩), fun z => absurd z n10⟩) (fun z => ⟨_, _, _, rfl, rfl, fun z => absurd rfl z, fun _ => ct_60 h (by decide) (by decide) (fun I' f' h' => ⟨_, _, _, rfl, rfl, .inl rfl, k0 I' f' ?_⟩)⟩))
  · rw [wdF, if_pos z] at e; exact e
  · rw [wdF, if_neg z] at e; rw [← e]; exact h'
theorem ct_74_spread {k : Nat → zE} (h : cTk b N a I J) (e : wdF b N 16 a k = R) (k1 : ∀ I' J', fr tkS I I' → J' 3 = J 3 → cTk b N (nx b N a) I' J' → k (nx b N a) = R → Q (some (.int (nI 1))) ((fl, n1, n2, p, q, ad), I', J')) (k0 : ∀ I', fr tkS I I' → cFl R I' → Q (some (.int (nI 0))) ((fl, n1, n2, p, q, ad), I', J)) : mm_wc (d + 4) 74 [.ref 1, .ref 114] ((fl, n1, n2, p, q, ad), I, J) Q := by
  refine fx_74_spread (ct_73_spread h (fun z => ⟨_, _, _, rfl, rfl, fun _ => ct_77n h (fun I' J' f' j' h' => ⟨_, _, rfl, rfl, k1 I' J' (f'.sub rfl) j' h' ?_⟩), fun z => absurd z n10⟩) (fun z => ⟨_, _, _, rfl, rfl, fun z => absurd rfl z, fun _ => ct_60 h (by decide) (by decide) (fun I' f' h' => ⟨_, _, _, rfl, rfl, .inl rfl, k0 I' f' ?_⟩)⟩))
  · rw [wdF, if_pos z] at e; exact e
  · rw [wdF, if_neg z] at e; rw [← e]; exact h'
theorem ct_75 {lo hi : Nat} {k : Nat → Nat → zE} (hlo : lo ≤ hi) (hhi : hi < 1000) (h : cTk b N a I J) (e : nuF b N lo hi a k = R) (k1 : ∀ I' J', fr tkS I I' → J' 3 = J 3 → cTk b N (nx b N a) I' J' → I' 1 8 = nI (tv b N a) → lo ≤ tv b N a → tv b N a ≤ hi → k (tv b N a) (nx b N a) = R → Q (some (.int (nI 1))) ((fl, n1, n2, p, q, ad), I', J')) (k0 : ∀ I', fr tkS I I' → cFl R I' → Q (some (.int (nI 0))) ((fl, n1, n2, p, q, ad), I', J)) : mm_wc (d + 4) 75 [.ref 1, .int (nI lo), .int (nI hi)] ((fl, n1, n2, p, q, ad), I, J) Q := by
  obtain ⟨t, ha, h4, h5, h3, h7, -⟩ := id h
  have hkl := ckd_lt (tkK b N a)
  refine fx_75 ?_
  rw [h3, z_eq (a := ckd (tkK b N a)) (by omega) (by decide), (ckd_i (k := tkK b N a)).2.2.1]
  refine ⟨fun e3 => ?_, fun e3 => ct_60 h (by decide) (by decide) (fun I' f' h' => ⟨_, _, _, rfl, rfl, .inl rfl, k0 I' f' ?_⟩)⟩
  · have hv := tv_lt e3
    rw [h7 e3, z_lt (by omega) (by omega), z_le (by omega) (by omega)]
    rw [nuF, if_pos e3] at e
    have bad : ¬ (lo ≤ tv b N a ∧ tv b N a ≤ hi) → mm_wc (d + 3) 60 [.ref 1, .int (nI 4)] ((fl, 0, 0, p, q, ad), I, J) (fun v τ => ∃ r1 I1 J1, v = some (.int r1) ∧ τ = ((fl, 0, 0, p, q, ad), I1, J1) ∧ ((r1 = 0 ∨ r1 = 1) ∧ Q (some (.int r1)) ((fl, n1, n2, p, q, ad), I1, J1))) := fun z => by
      rw [if_neg z] at e
      exact ct_60 h (by decide) (by decide) (fun I' f' h' => ⟨_, _, _, rfl, rfl, .inl rfl, k0 I' f' (by rw [← e]; exact h')⟩)
    refine ⟨fun z => bad (by omega), fun z => ⟨fun y => ?_, fun y => bad (by omega)⟩⟩
    rw [if_pos (by omega)] at e
    have f1 : fr tkS I (mm_up I 1 8 (nI (tv b N a))) := fr.rf.up rfl
    refine ct_77n (h.fr (L := [(1, [8])]) (fr.rf.up rfl) rfl rfl rfl) (fun I' J' f' j' h' => ⟨_, _, rfl, rfl, k1 I' J' (f1.tr (f'.sub rfl)) j' h' (by rw [f' 1 8 rfl, up_s]) (by omega) y e⟩)
  · rw [nuF, if_neg e3] at e; rw [← e]; exact h'
theorem ct_76_59 {k : Nat → zE} (h : cTk b N a I J) (e : sgF b N 59 a k = R) (k1 : ∀ I' J', fr tkS I I' → J' 3 = J 3 → cTk b N (nx b N a) I' J' → k (nx b N a) = R → Q (some (.int (nI 1))) ((fl, n1, n2, p, q, ad), I', J')) (k0 : ∀ I', fr tkS I I' → cFl R I' → Q (some (.int (nI 0))) ((fl, n1, n2, p, q, ad), I', J)) : mm_wc (d + 4) 76 [.ref 1, .int (nI 3)] ((fl, n1, n2, p, q, ad), I, J) Q := by
  have hkl := ckd_lt (tkK b N a)
  refine fx_76 ?_
  rw [h.2.2.2.2.1, z_eq (a := ckd (tkK b N a)) (by omega) (by decide), (ckd_i (k := tkK b N a)).2.2.2.1]
  refine ⟨fun z => ct_77n h (fun I' J' f' j' h' => ⟨_, _, rfl, rfl, k1 I' J' (f'.sub rfl) j' h' ?_⟩), fun z => ct_60 h (by decide) (by decide) (fun I' f' h' => ⟨_, _, _, rfl, rfl, .inl rfl, k0 I' f' ?_⟩)⟩
  · rw [sgF, if_pos z] at e; exact e
  · rw [sgF, if_neg z] at e; rw [← e]; exact h'
theorem ct_76_44 {k : Nat → zE} (h : cTk b N a I J) (e : sgF b N 44 a k = R) (k1 : ∀ I' J', fr tkS I I' → J' 3 = J 3 → cTk b N (nx b N a) I' J' → k (nx b N a) = R → Q (some (.int (nI 1))) ((fl, n1, n2, p, q, ad), I', J')) (k0 : ∀ I', fr tkS I I' → cFl R I' → Q (some (.int (nI 0))) ((fl, n1, n2, p, q, ad), I', J)) : mm_wc (d + 4) 76 [.ref 1, .int (nI 4)] ((fl, n1, n2, p, q, ad), I, J) Q := by
  have hkl := ckd_lt (tkK b N a)
  refine fx_76 ?_
  rw [h.2.2.2.2.1, z_eq (a := ckd (tkK b N a)) (by omega) (by decide), (ckd_i (k := tkK b N a)).2.2.2.2]
  refine ⟨fun z => ct_77n h (fun I' J' f' j' h' => ⟨_, _, rfl, rfl, k1 I' J' (f'.sub rfl) j' h' ?_⟩), fun z => ct_60 h (by decide) (by decide) (fun I' f' h' => ⟨_, _, _, rfl, rfl, .inl rfl, k0 I' f' ?_⟩)⟩
  · rw [sgF, if_pos z] at e; exact e
  · rw [sgF, if_neg z] at e; rw [← e]; exact h'
theorem ct_72 (h : cTk b N a I J) (k1 : isNm b N a → Q (some (.int (nI 1))) ((fl, n1, n2, p, q, ad), I, J)) (k0 : ¬ isNm b N a → Q (some (.int (nI 0))) ((fl, n1, n2, p, q, ad), I, J)) : mm_wc (d + 3) 72 [.ref 1] ((fl, n1, n2, p, q, ad), I, J) Q := by
  have hkl := ckd_lt (tkK b N a)
  have g94 : ¬ isNm b N a → mm_w Q (mm_wc (d + 2)) bk_72 94 [none, none] [] ((fl, n1, n2, p, q, ad), I, J) := fun z => fx_72k_94 (fx_72k_95 ⟨.inl rfl, k0 z⟩)
  have g45 : ¬ isNm b N a → mm_w Q (mm_wc (d + 2)) bk_72 45 [some (.ref 1), none] [] ((fl, n1, n2, p, q, ad), I, J) := fun z => fx_72k_45 (fx_72k_50 ⟨fun _ => g94 z, fun _ => ⟨fun _ => g94 z, fun e => absurd e n10⟩⟩)
  refine fx_72k (ct_73_cake h (fun w0 => ⟨_, _, _, rfl, rfl, fun _ => g45 (fun z => z.2 (.inl w0)), fun e => absurd e n10⟩) (fun w0 => ⟨_, _, _, rfl, rfl, fun e => absurd rfl e, fun _ => ?_⟩))
  refine ct_73_candle h (fun w1 => ⟨_, _, _, rfl, rfl, fun _ => g45 (fun z => z.2 (.inr (.inl w1))), fun e => absurd e n10⟩) (fun w1 => ⟨_, _, _, rfl, rfl, fun e => absurd rfl e, fun _ => ?_⟩)
  refine ct_73_place h (fun w2 => ⟨_, _, _, rfl, rfl, fun _ => g45 (fun z => z.2 (.inr (.inr (.inl w2)))), fun e => absurd e n10⟩) (fun w2 => ⟨_, _, _, rfl, rfl, fun e => absurd rfl e, fun _ => ?_⟩)
  refine ct_73_spot h (fun w3 => ⟨_, _, _, rfl, rfl, fun _ => g45 (fun z => z.2 (.inr (.inr (.inr (.inl w3))))), fun e => absurd e n10⟩) (fun w3 => ⟨_, _, _, rfl, rfl, fun e => absurd rfl e, fun _ => ?_⟩)
  refine ct_73_person h (fun w4 => ⟨_, _, _, rfl, rfl, fun e => absurd e n10, fun _ => g45 (fun z => z.2 (.inr (.inr (.inr (.inr (.inl w4))))))⟩) (fun w4 => ⟨_, _, _, rfl, rfl, fun _ => fx_72k_50 ?_, fun e => absurd rfl e⟩)
  rw [h.2.2.2.2.1, z_eq (a := ckd (tkK b N a)) (by omega) (by decide), (ckd_i (k := tkK b N a)).2.1]
  refine ⟨fun e => g94 (fun z => e z.1), fun e => ⟨fun z => absurd rfl z, fun _ => ?_⟩⟩
  refine ct_73_shaky h (fun w5 => ⟨_, _, _, rfl, rfl, fun _ => g94 (fun z => z.2 (.inr (.inr (.inr (.inr (.inr (.inl w5))))))), fun e => absurd e n10⟩) (fun w5 => ⟨_, _, _, rfl, rfl, fun e => absurd rfl e, fun _ => ?_⟩)
  refine ct_73_left h (fun w6 => ⟨_, _, _, rfl, rfl, fun _ => g94 (fun z => z.2 (.inr (.inr (.inr (.inr (.inr (.inr (.inl w6)))))))), fun e => absurd e n10⟩) (fun w6 => ⟨_, _, _, rfl, rfl, fun e => absurd rfl e, fun _ => ?_⟩)
  refine ct_73_none h (fun w7 => ⟨_, _, _, rfl, rfl, fun _ => g94 (fun z => z.2 (.inr (.inr (.inr (.inr (.inr (.inr (.inr w7)))))))), fun e => absurd e n10⟩) (fun w7 => ⟨_, _, _, rfl, rfl, fun e => absurd rfl e, fun _ => fx_72k_95 ⟨.inr rfl, k1 ⟨e, ?_⟩⟩⟩)
  rintro (z | z | z | z | z | z | z | z)
  · exact w0 z
  · exact w1 z
  · exact w2 z
  · exact w3 z
  · exact w4 z
  · exact w5 z
  · exact w6 z
  · exact w7 z
/-- the names that are told, in the class -/
def cNs (nc : Nat → Nat) (m : Nat) (sl : Nat → Nat) (I : mmI) (J : mmJ) : Prop := I 1 12 = nI m ∧ m ≤ 23 ∧ (∀ i, i < m → sl i < 23 ∧ nc (sl i) ≠ 0 ∧ nc (sl i) < 2 ^ 40 ∧ J 3 i = lN (nc (sl i)) ∧ (sl i < 10 → I 4 i = nI 0 ∧ I 5 i = nI (sl i)) ∧ (10 ≤ sl i → ¬ I 4 i = nI 0)) ∧ ∀ s, s < 23 → nc s ≠ 0 → ∃ i, i < m ∧ sl i = s
theorem cNs.fr {nc : Nat → Nat} {m : Nat} {sl : Nat → Nat} {I I' : mmI} {J J' : mmJ} {L : List (Nat × List Nat)} (h : cNs nc m sl I J) (hf : fr L I I') (hJ : J' 3 = J 3) (h1 : inS L 1 12 = false) (h2 : noR 4 6 L = true) : cNs nc m sl I' J' := by
  obtain ⟨a, b, c, e⟩ := h
  refine ⟨by rw [hf 1 12 h1]; exact a, b, fun i hi => ?_, e⟩
  rw [hf 4 i (inS_no h2 (by decide) (by decide)), hf 5 i (inS_no h2 (by decide) (by decide)), hJ]
  exact c i hi
theorem cod_lt {b : Nat → Nat} {N a : Nat} (h : tkK b N a = 2) : cod b N a < 2 ^ 40 := by
  obtain ⟨-, -, -, t1, t8, -, tl⟩ := tk_w h
  have := cdW_lt (b := b) (a := a) (tkE b N a - a) (fun j hj => (tl j hj).2)
  exact Nat.lt_of_lt_of_le this (Nat.le_trans (Nat.pow_le_pow_right (n := 32) (by decide) t8) (by decide))
theorem ct_71 {nc : Nat → Nat} {m : Nat} {sl : Nat → Nat} {x : Nat} (hx0 : x ≠ 0) (hx : x < 2 ^ 40) (h : cNs nc m sl I J) (k1 : ∀ i, i < m → nc (sl i) = x → Q (some (.int (nI i))) ((fl, n1, n2, p, q, ad), I, J)) (k0 : (∀ s, s < 23 → nc s ≠ x) → Q (some (.int (-1))) ((fl, n1, n2, p, q, ad), I, J)) : mm_wc (d + 1) 71 [.ref 1, .long (lN x)] ((fl, n1, n2, p, q, ad), I, J) Q := by
  obtain ⟨h12, hm, hs, hall⟩ := h
  have lp : ∀ r i, r + i = m → (∀ j, j < i → nc (sl j) ≠ x) → mm_w Q (mm_wc d) bk_71 2 [some (.ref 1), some (.long (lN x)), none, some (.int (nI i))] [] ((fl, n1, n2, p, q, ad), I, J) := by
    intro r
    induction r with
    | zero =>
      intro i hi hn
      refine fx_71_2 ?_
      rw [h12, z_le (by omega) (by omega)]
      refine ⟨fun _ => k0 (fun s hs' e => ?_), fun e => absurd (by omega) e⟩
      obtain ⟨j, j1, j2⟩ := hall s hs' (by omega)
      exact hn j (by omega) (by rw [j2]; exact e)
    | succ r ih =>
      intro i hi hn
      obtain ⟨s1, s2, s3, s4, -⟩ := hs i (by omega)
      refine fx_71_2 ?_
      rw [h12, z_le (by omega) (by omega), z_ix (by omega), s4, z_add]
      have hc : (lg_cmp (lN (nc (sl i))) (lN x) = nI 0) ↔ nc (sl i) = x := (lg_cmp_eq _ _).trans (pk_lEQ (by omega) (by omega))
      rw [hc]
      refine ⟨fun e => by omega, fun _ => ⟨z_in (by omega) (by decide), fun e => ih (i + 1) (by omega) (fun j hj => ?_), fun e => k1 i (by omega) e⟩⟩
      by_cases ej : j = i
      · subst ej; exact e
      · exact hn j (by omega)
  exact fx_71 (lp m 0 (by omega) (fun j hj => absurd hj (Nat.not_lt_zero j)))
theorem ct_70 {nc : Nat → Nat} {m n so wh : Nat} {sl : Nat → Nat} {k : Nat → (Nat → Nat) → zE} (hm : m < 23) (hn : n < 23) (h0 : nc n = 0) (hso : so < 4) (hw1 : n < 10 → so = 0 ∧ wh = n) (hw2 : 10 ≤ n → so ≠ 0) (h : cTk b N a I J) (hN : cNs nc m sl I J) (e : nmF b N n a nc k = R) (k1 : ∀ I' J' sl', fr cS I I' → cTk b N (nx b N a) I' J' → cNs (up1 nc n (cod b N a)) (m + 1) sl' I' J' → k (nx b N a) (up1 nc n (cod b N a)) = R → Q (some (.int (nI 1))) ((fl, n1, n2, p, q, ad), I', J')) (k0 : ∀ I', fr cS I I' → cFl R I' → Q (some (.int (nI 0))) ((fl, n1, n2, p, q, ad), I', J)) : mm_wc (d + 4) 70 [.ref 1, .int (nI so), .int (nI wh)] ((fl, n1, n2, p, q, ad), I, J) Q := by
  refine fx_70 (ct_72 h (fun hi => ⟨_, _, _, rfl, rfl, fun _ => ?_, fun z => absurd z n10⟩) (fun hi => ⟨_, _, _, rfl, rfl, fun z => absurd rfl z, fun _ => ct_60 h (by decide) (by decide) (fun I' f' h' => ⟨_, _, _, rfl, rfl, .inl rfl, k0 I' (f'.sub rfl) ?_⟩)⟩))
  · have hcp := cod_pos hi.1
    have hcl := cod_lt hi.1
    rw [nmF, if_pos hi] at e
    rw [h.2.2.2.2.2.2 hi.1]
    refine ct_71 (by omega) hcl hN (fun i him ei => ⟨_, _, _, rfl, rfl, fun z => ?_, fun _ => ct_60 h (by decide) (by decide) (fun I' f' h' => ⟨_, _, _, rfl, rfl, .inl rfl, k0 I' (f'.sub rfl) ?_⟩)⟩) (fun hno => ⟨_, _, _, rfl, rfl, fun _ => ?_, fun z => absurd rfl z⟩)
    · rw [z_m1 (by omega)] at z; exact z.elim
    · rw [if_pos ⟨sl i, (hN.2.2.1 i him).1, ei⟩] at e; rw [← e]; exact h'
    · rw [if_neg (fun ⟨s, hs, es⟩ => hno s hs es)] at e
      obtain ⟨h12, hm', hs, hall⟩ := hN
      rw [h12, z_lt (by omega) (by decide), z_ix (by omega), z_add]
      refine ⟨fun _ => ⟨z_in (by omega) (by decide), z_in (by omega) (by decide), z_in (by omega) (by decide), ?_⟩, fun z => absurd hm z⟩
      have f1 : fr cS I (mm_up (mm_up (mm_up I 4 m (nI so)) 5 m (nI wh)) 1 12 (nI (m + 1))) := ((fr.rf.up rfl).up rfl).up rfl
      have hT : cTk b N a (mm_up (mm_up (mm_up I 4 m (nI so)) 5 m (nI wh)) 1 12 (nI (m + 1))) (mm_upJ J 3 m (J 1 6)) := h.fr (L := [(1, [12]), (4, []), (5, [])]) (((fr.rf.up rfl).up rfl).up rfl) (by rw [upJ_r (by decide)]) rfl rfl
      have g12 : mm_up (mm_up (mm_up I 4 m (nI so)) 5 m (nI wh)) 1 12 (nI (m + 1)) 1 12 = nI (m + 1) := up_s _ _ _ _
      have g4 : ∀ i, mm_up (mm_up (mm_up I 4 m (nI so)) 5 m (nI wh)) 1 12 (nI (m + 1)) 4 i = if i = m then nI so else I 4 i := fun i => by rw [up_c (by decide), up_c (by decide), up_eq]; simp
      have g5 : ∀ i, mm_up (mm_up (mm_up I 4 m (nI so)) 5 m (nI wh)) 1 12 (nI (m + 1)) 5 i = if i = m then nI wh else I 5 i := fun i => by rw [up_c (by decide), up_eq, up_c (by decide)]; simp
      have gJ : ∀ i, mm_upJ J 3 m (J 1 6) 3 i = if i = m then lN (cod b N a) else J 3 i := fun i => by rw [upJ_eq, h.2.2.2.2.2.2 hi.1]; simp
      generalize mm_up (mm_up (mm_up I 4 m (nI so)) 5 m (nI wh)) 1 12 (nI (m + 1)) = I2 at *
      generalize mm_upJ J 3 m (J 1 6) = J2 at *
      refine ct_77n hT (fun I3 J3 f3 j3 h3 => ⟨_, _, rfl, rfl, k1 I3 J3 (ap sl m n) (f1.tr (f3.sub rfl)) h3 ?_ e⟩)
      refine cNs.fr (L := aS) (I := I2) (J := J2) ⟨g12, by omega, fun i hi' => ?_, fun s hs' hne => ?_⟩ f3 j3 rfl rfl
      · rw [g4, g5, gJ]
        by_cases ei : i = m
        · subst ei
          rw [if_pos rfl, if_pos rfl, if_pos rfl, ap_eq, up1_s]
          refine ⟨hn, by omega, hcl, rfl, fun hl => ?_, fun hl z => ?_⟩
          · rw [(hw1 hl).1, (hw1 hl).2]; exact ⟨rfl, rfl⟩
          · rw [z_eq (by omega) (by decide)] at z; exact hw2 hl z
        · rw [if_neg ei, if_neg ei, if_neg ei, ap_lt (by omega)]
          obtain ⟨s1, s2, s3, s4, s5, s6⟩ := hs i (by omega)
          have hne : sl i ≠ n := fun z => s2 (by rw [z]; exact h0)
          rw [up1_n hne]
          exact ⟨s1, s2, s3, s4, s5, s6⟩
      · by_cases es : s = n
        · subst es; exact ⟨m, by omega, ap_eq _ _ _⟩
        · rw [up1_n es] at hne
          obtain ⟨i, i1, i2⟩ := hall s hs' hne
          exact ⟨i, by omega, by rw [ap_lt i1]; exact i2⟩
  · rw [nmF, if_neg hi] at e; rw [← e]; exact h'
end SB
