/-! reading: the model's words, numbers, signs -/
theorem sb_w : ∀ i, i < 17 → ∀ j, j < (wL i).length → (mm_sb.getD i []).getD j 0 = nI ((wL i).getD j 0) ∧ (wL i).getD j 0 < 256 := by decide +kernel
def mFl (R : zE) (I : mmI) : Prop := ∃ c pl, R = .error (c, pl) ∧ 1 ≤ c ∧ c ≤ 6 ∧ pl ≤ 900 ∧ I 46 13 = nI 1 ∧ I 46 9 = nI c ∧ I 46 10 = nI pl
/-- where the model stands: at a, with X still to say; or it has failed -/
def mAt (b : Nat → Nat) (N : Nat) (R : zE) (I : mmI) (a : Nat) (X : zE) : Prop := (mT b N a I ∧ X = R) ∨ mFl R I
abbrev wS : List (Nat × List Nat) := [(46, [4, 5, 6, 7, 8, 9, 10, 13]), (48, [])]
theorem mFl.fr {R : zE} {I I' : mmI} {L : List (Nat × List Nat)} (h : mFl R I) (hf : fr L I I') (h1 : inS L 46 9 = false ∧ inS L 46 10 = false ∧ inS L 46 13 = false) : mFl R I' := by
  obtain ⟨c, pl, e, c1, c2, c3, a, b, d⟩ := h
  exact ⟨c, pl, e, c1, c2, c3, by rw [hf 46 13 h1.2.2]; exact a, by rw [hf 46 9 h1.1]; exact b, by rw [hf 46 10 h1.2.1]; exact d⟩
theorem mT.fr {b : Nat → Nat} {N a : Nat} {I I' : mmI} {L : List (Nat × List Nat)} (h : mT b N a I) (hf : fr L I I') (h1 : inS L 46 3 = false ∧ inS L 46 4 = false ∧ inS L 46 5 = false ∧ inS L 46 6 = false ∧ inS L 46 7 = false ∧ inS L 46 8 = false ∧ inS L 46 13 = false ∧ inS L 46 9 = false) (h2 : noR 47 49 L = true) : mT b N a I' := by
  obtain ⟨t, a1, a2, a3, a4, a5, a6, a7⟩ := h
  obtain ⟨g1, g2, g3, g4, g5, g6, g7, g9⟩ := h1
  exact ⟨⟨by rw [hf 46 3 g1]; exact t.1, t.2.1, fun k hk => by rw [hf 47 k (inS_no h2 (by decide) (by decide))]; exact t.2.2.1 k hk, t.2.2.2.1, by rw [hf 46 9 g9]; exact t.2.2.2.2⟩, a1, by rw [hf 46 13 g7]; exact a2, by rw [hf 46 4 g2]; exact a3, by rw [hf 46 5 g3]; exact a4, by rw [hf 46 6 g4]; exact a5, fun z => by rw [hf 46 7 g5]; exact a6 z, fun z => ⟨by rw [hf 46 8 g6]; exact (a7 z).1, fun k hk => by rw [hf 48 k (inS_no h2 (by decide) (by decide))]; exact (a7 z).2 k hk⟩⟩
theorem mAt.fr {b : Nat → Nat} {N a : Nat} {R X : zE} {I I' : mmI} {L : List (Nat × List Nat)} (h : mAt b N R I a X) (hf : fr L I I') (h1 : inS L 46 3 = false ∧ inS L 46 4 = false ∧ inS L 46 5 = false ∧ inS L 46 6 = false ∧ inS L 46 7 = false ∧ inS L 46 8 = false ∧ inS L 46 13 = false ∧ inS L 46 9 = false) (h2 : noR 47 49 L = true) (h3 : inS L 46 9 = false ∧ inS L 46 10 = false ∧ inS L 46 13 = false) : mAt b N R I' a X := by
  rcases h with ⟨h, e⟩ | h
  · exact .inl ⟨h.fr hf h1 h2, e⟩
  · exact .inr (h.fr hf h3)
theorem tkK_lt (b : Nat → Nat) (N a : Nat) : tkK b N a < 100 := by
  unfold tkK
  split
  · decide
  · split
    · split <;> decide
    · split
      · split <;> decide
      · split
        · decide
        · split <;> decide
section RD
variable {d n1 n2 : Nat} {fl : Nat → Bool} {p q : Bool} {ad : Nat → Nat} {I : mmI} {J : mmJ} {Q : mmQ} {b : Nat → Nat} {N a : Nat} {R : zE}
theorem mT.le (h : mT b N a I) : a ≤ 900 := by have := h.1.2.1; have := h.2.1; omega
theorem ct_177 {c : Nat} (h : mT b N a I) (c1 : 1 ≤ c) (c6 : c ≤ 6) (k : ∀ I', fr wS I I' → mFl (.error (c, a)) I' → Q none ((fl, n1, n2, p, q, ad), I', J)) : mm_wc (d + 1) 177 [.ref 46, .int (nI c), .int (I 46 4)] ((fl, n1, n2, p, q, ad), I, J) Q := by
  have hl := h.le
  refine fx_177 ⟨fun _ => ?_, fun e => absurd h.2.2.1 e⟩
  rw [h.2.2.2.1]
  exact k _ (((fr.rf.up rfl).up rfl).up rfl) ⟨c, a, rfl, c1, c6, hl, by rw [up_k (by decide), up_k (by decide), up_s], by rw [up_k (by decide), up_s], up_s _ _ _ _⟩
theorem mFl.n13 (h : mFl R I) : ¬ I 46 13 = nI 0 := by
  obtain ⟨c, pl, -, -, -, -, h1, -⟩ := h
  rw [h1]; exact n10
theorem ct_177f {x y : Int32} (h : mFl R I) (k : Q none ((fl, n1, n2, p, q, ad), I, J)) : mm_wc (d + 1) 177 [.ref 46, .int x, .int y] ((fl, n1, n2, p, q, ad), I, J) Q := fx_177 ⟨fun e => absurd e h.n13, fun _ => k⟩
theorem ct_176n (h : mT b N a I) (k : ∀ I', fr wS I I' → mT b N (nx b N a) I' → Q none ((fl, n1, n2, p, q, ad), I', J)) : mm_wc (d + 2) 176 [.ref 46] ((fl, n1, n2, p, q, ad), I, J) Q :=
  ct_176 h.1 h.2.2.1 h.2.2.2.2.1 (tkE_b h.2.1).2.1 (fun I' f' h' => k I' (f'.sub rfl) h')
theorem is_lp {i r : Nat} (hi : i < 17) (k1005 : ∀ (j : Nat) (σ : mmS) (Q : mmQ), j < (wL i).length → Q (some (.int (nI ((wL i).getD j 0)))) σ → mm_wc (d + 1) 1005 [.ref r, .int (nI j)] σ Q)
    (fx : ∀ {a2 a3 : Int32}, (((I 46 8) ≤ a3 → ((a2 = 0 ∨ a2 = 1) ∧ Q (some (.int a2)) ((fl, n1, n2, p, q, ad), I, J))) ∧ (¬ (I 46 8) ≤ a3 → ((a2 = (nI 0) → mm_w Q (mm_wc (d + 1)) bk_178 32 [some (.ref 46), some (.ref r), some (.int (nI 0)), some (.int (a3 + (nI 1)))] [] ((fl, n1, n2, p, q, ad), I, J)) ∧ (¬ a2 = (nI 0) → (vp_in a3 8 ∧ mm_wc (d + 1) 1005 [.ref r, .int a3] ((fl, 0, 0, p, q, ad), I, J) (fun v τ => ∃ r1 I1 J1, v = some (.int r1) ∧ τ = ((fl, 0, 0, p, q, ad), I1, J1) ∧ ((¬ (I 48 a3.toNatClampNeg) = r1 → mm_w Q (mm_wc (d + 1)) bk_178 32 [some (.ref 46), some (.ref r), some (.int (nI 0)), some (.int (a3 + (nI 1)))] [] ((fl, n1, n2, p, q, ad), I1, J1)) ∧ ((I 48 a3.toNatClampNeg) = r1 → mm_w Q (mm_wc (d + 1)) bk_178 32 [some (.ref 46), some (.ref r), some (.int (nI 1)), some (.int (a3 + (nI 1)))] [] ((fl, n1, n2, p, q, ad), I1, J1)))))))))  → mm_w Q (mm_wc (d + 1)) bk_178 32 [some (.ref 46), some (.ref r), some (.int a2), some (.int a3)] [] ((fl, n1, n2, p, q, ad), I, J))
    (h : mT b N a I) (hK : tkK b N a = 2) (hL : tkE b N a - a = (wL i).length) (k1 : wd b N i a → Q (some (.int (nI 1))) ((fl, n1, n2, p, q, ad), I, J)) (k0 : ¬ wd b N i a → Q (some (.int (nI 0))) ((fl, n1, n2, p, q, ad), I, J)) : ∀ n j, n + j = (wL i).length → ∀ x, ((x = nI 1 ∧ ∀ k, k < j → b (a + k) = (wL i).getD k 0) ∨ (x = nI 0 ∧ ¬ wd b N i a)) → mm_w Q (mm_wc (d + 1)) bk_178 32 [some (.ref 46), some (.ref r), some (.int x), some (.int (nI j))] [] ((fl, n1, n2, p, q, ad), I, J) := by
  obtain ⟨-, -, -, -, -, -, -, h8⟩ := h
  obtain ⟨g8, gk⟩ := h8 hK
  obtain ⟨-, -, -, -, t8, -, tl⟩ := tk_w hK
  intro n
  induction n with
  | zero =>
    intro j hj x hx
    refine fx ?_
    rw [g8, z_le (by omega) (by omega)]
    refine ⟨fun _ => ?_, fun e => absurd (by omega) e⟩
    rcases hx with ⟨rfl, hx⟩ | ⟨rfl, hx⟩
    · exact ⟨.inr rfl, k1 ⟨hK, hL, fun k hk => hx k (by omega)⟩⟩
    · exact ⟨.inl rfl, k0 hx⟩
  | succ n ih =>
    intro j hj x hx
    refine fx ?_
    rw [g8, z_le (by omega) (by omega), z_add, z_ix (by omega), gk j (by omega)]
    refine ⟨fun e => by omega, fun _ => ?_⟩
    rcases hx with ⟨rfl, hx⟩ | ⟨rfl, hx⟩
    · refine ⟨fun e => absurd e n10, fun _ => ⟨z_in (by omega) (by decide), k1005 j _ _ (by omega) ⟨_, _, _, rfl, rfl, ?_⟩⟩⟩
      have hw := (sb_w i hi j (by omega)).2
      have hb := tl j (by omega)
      rw [z_eq (by omega) (by omega)]
      refine ⟨fun e => ih (j + 1) (by omega) _ (.inr ⟨rfl, fun z => e (z.2.2 j (by omega))⟩), fun e => ih (j + 1) (by omega) _ (.inl ⟨rfl, fun k hk => ?_⟩)⟩
      by_cases ek : k = j
      · subst ek; exact e
      · exact hx k (by omega)
    · exact ⟨fun _ => ih (j + 1) (by omega) _ (.inr ⟨rfl, hx⟩), fun e => absurd rfl e⟩
theorem ct_1004_cake {σ : mmS} {Q : mmQ} (h : Q (some (.int (nI 4))) σ) : mm_wc (d + 1) 1004 [.ref 98] σ Q := h
theorem ct_1005_cake (j : Nat) (σ : mmS) (Q : mmQ) (hj : j < (wL 0).length) (h : Q (some (.int (nI ((wL 0).getD j 0)))) σ) : mm_wc (d + 1) 1005 [.ref 98, .int (nI j)] σ Q := by
  have hl : (wL 0).length = 4 := rfl
  show vp_in (nI j) 4 ∧ Q (some (.int ((mm_sb.getD (98 - 98) []).getD (nI j).toNatClampNeg 0))) σ
  rw [z_ix (by omega), show 98 - 98 = 0 from rfl, (sb_w 0 (by decide) j hj).1]
  exact ⟨z_in (by omega) (by decide), h⟩
theorem ct_178_cake (h : mT b N a I) (k1 : wd b N 0 a → Q (some (.int (nI 1))) ((fl, n1, n2, p, q, ad), I, J)) (k0 : ¬ wd b N 0 a → Q (some (.int (nI 0))) ((fl, n1, n2, p, q, ad), I, J)) : mm_wc (d + 2) 178 [.ref 46, .ref 98] ((fl, n1, n2, p, q, ad), I, J) Q := by
  obtain ⟨hTp, ha, h13, h4, h5, h6, h7, h8⟩ := id h
  have hkl := tkK_lt b N a
  refine fx_178_cake ?_
  rw [h13, h6, z_eq (a := tkK b N a) (by omega) (by decide)]
  refine ⟨fun e => absurd rfl e, fun _ => ⟨fun e => k0 (fun z => e z.1), fun e => ct_1004_cake ⟨_, _, _, rfl, rfl, ?_⟩⟩⟩
  obtain ⟨g8, gk⟩ := h8 e
  obtain ⟨-, -, -, -, t8, -, -⟩ := tk_w e
  have hl : (wL 0).length = 4 := rfl
  rw [g8, z_eq (a := tkE b N a - a) (by omega) (by decide)]
  exact ⟨fun el => is_lp (i := 0) (by decide) ct_1005_cake fx_178_cake_32 h e (by rw [hl]; exact el) k1 k0 4 0 (by rw [hl]) _ (.inl ⟨rfl, fun k hk => absurd hk (Nat.not_lt_zero k)⟩), fun el => k0 (fun z => el (by rw [← hl]; exact z.2.1))⟩
theorem ct_178f_cake (h : mFl R I) (k : Q (some (.int (nI 0))) ((fl, n1, n2, p, q, ad), I, J)) : mm_wc (d + 1) 178 [.ref 46, .ref 98] ((fl, n1, n2, p, q, ad), I, J) Q := fx_178_cake ⟨fun _ => k, fun e => absurd e h.n13⟩
theorem ct_1004_near {σ : mmS} {Q : mmQ} (h : Q (some (.int (nI 4))) σ) : mm_wc (d + 1) 1004 [.ref 99] σ Q := h
theorem ct_1005_near (j : Nat) (σ : mmS) (Q : mmQ) (hj : j < (wL 1).length) (h : Q (some (.int (nI ((wL 1).getD j 0)))) σ) : mm_wc (d + 1) 1005 [.ref 99, .int (nI j)] σ Q := by
  have hl : (wL 1).length = 4 := rfl
  show vp_in (nI j) 4 ∧ Q (some (.int ((mm_sb.getD (99 - 98) []).getD (nI j).toNatClampNeg 0))) σ
  rw [z_ix (by omega), show 99 - 98 = 1 from rfl, (sb_w 1 (by decide) j hj).1]
  exact ⟨z_in (by omega) (by decide), h⟩
theorem ct_178_near (h : mT b N a I) (k1 : wd b N 1 a → Q (some (.int (nI 1))) ((fl, n1, n2, p, q, ad), I, J)) (k0 : ¬ wd b N 1 a → Q (some (.int (nI 0))) ((fl, n1, n2, p, q, ad), I, J)) : mm_wc (d + 2) 178 [.ref 46, .ref 99] ((fl, n1, n2, p, q, ad), I, J) Q := by
  obtain ⟨hTp, ha, h13, h4, h5, h6, h7, h8⟩ := id h
  have hkl := tkK_lt b N a
  refine fx_178_near ?_
  rw [h13, h6, z_eq (a := tkK b N a) (by omega) (by decide)]
  refine ⟨fun e => absurd rfl e, fun _ => ⟨fun e => k0 (fun z => e z.1), fun e => ct_1004_near ⟨_, _, _, rfl, rfl, ?_⟩⟩⟩
  obtain ⟨g8, gk⟩ := h8 e
  obtain ⟨-, -, -, -, t8, -, -⟩ := tk_w e
  have hl : (wL 1).length = 4 := rfl
  rw [g8, z_eq (a := tkE b N a - a) (by omega) (by decide)]
  exact ⟨fun el => is_lp (i := 1) (by decide) ct_1005_near fx_178_near_32 h e (by rw [hl]; exact el) k1 k0 4 0 (by rw [hl]) _ (.inl ⟨rfl, fun k hk => absurd hk (Nat.not_lt_zero k)⟩), fun el => k0 (fun z => el (by rw [← hl]; exact z.2.1))⟩
theorem ct_178f_near (h : mFl R I) (k : Q (some (.int (nI 0))) ((fl, n1, n2, p, q, ad), I, J)) : mm_wc (d + 1) 178 [.ref 46, .ref 99] ((fl, n1, n2, p, q, ad), I, J) Q := fx_178_near ⟨fun _ => k, fun e => absurd e h.n13⟩
theorem ct_1004_wax {σ : mmS} {Q : mmQ} (h : Q (some (.int (nI 3))) σ) : mm_wc (d + 1) 1004 [.ref 100] σ Q := h
theorem ct_1005_wax (j : Nat) (σ : mmS) (Q : mmQ) (hj : j < (wL 2).length) (h : Q (some (.int (nI ((wL 2).getD j 0)))) σ) : mm_wc (d + 1) 1005 [.ref 100, .int (nI j)] σ Q := by
  have hl : (wL 2).length = 3 := rfl
  show vp_in (nI j) 3 ∧ Q (some (.int ((mm_sb.getD (100 - 98) []).getD (nI j).toNatClampNeg 0))) σ
  rw [z_ix (by omega), show 100 - 98 = 2 from rfl, (sb_w 2 (by decide) j hj).1]
  exact ⟨z_in (by omega) (by decide), h⟩
theorem ct_178_wax (h : mT b N a I) (k1 : wd b N 2 a → Q (some (.int (nI 1))) ((fl, n1, n2, p, q, ad), I, J)) (k0 : ¬ wd b N 2 a → Q (some (.int (nI 0))) ((fl, n1, n2, p, q, ad), I, J)) : mm_wc (d + 2) 178 [.ref 46, .ref 100] ((fl, n1, n2, p, q, ad), I, J) Q := by
  obtain ⟨hTp, ha, h13, h4, h5, h6, h7, h8⟩ := id h
  have hkl := tkK_lt b N a
  refine fx_178_wax ?_
  rw [h13, h6, z_eq (a := tkK b N a) (by omega) (by decide)]
  refine ⟨fun e => absurd rfl e, fun _ => ⟨fun e => k0 (fun z => e z.1), fun e => ct_1004_wax ⟨_, _, _, rfl, rfl, ?_⟩⟩⟩
  obtain ⟨g8, gk⟩ := h8 e
  obtain ⟨-, -, -, -, t8, -, -⟩ := tk_w e
  have hl : (wL 2).length = 3 := rfl
  rw [g8, z_eq (a := tkE b N a - a) (by omega) (by decide)]
  exact ⟨fun el => is_lp (i := 2) (by decide) ct_1005_wax fx_178_wax_32 h e (by rw [hl]; exact el) k1 k0 3 0 (by rw [hl]) _ (.inl ⟨rfl, fun k hk => absurd hk (Nat.not_lt_zero k)⟩), fun el => k0 (fun z => el (by rw [← hl]; exact z.2.1))⟩
theorem ct_178f_wax (h : mFl R I) (k : Q (some (.int (nI 0))) ((fl, n1, n2, p, q, ad), I, J)) : mm_wc (d + 1) 178 [.ref 46, .ref 100] ((fl, n1, n2, p, q, ad), I, J) Q := fx_178_wax ⟨fun _ => k, fun e => absurd e h.n13⟩
theorem ct_1004_candle {σ : mmS} {Q : mmQ} (h : Q (some (.int (nI 6))) σ) : mm_wc (d + 1) 1004 [.ref 101] σ Q := h
theorem ct_1005_candle (j : Nat) (σ : mmS) (Q : mmQ) (hj : j < (wL 3).length) (h : Q (some (.int (nI ((wL 3).getD j 0)))) σ) : mm_wc (d + 1) 1005 [.ref 101, .int (nI j)] σ Q := by
  have hl : (wL 3).length = 6 := rfl
  show vp_in (nI j) 6 ∧ Q (some (.int ((mm_sb.getD (101 - 98) []).getD (nI j).toNatClampNeg 0))) σ
  rw [z_ix (by omega), show 101 - 98 = 3 from rfl, (sb_w 3 (by decide) j hj).1]
  exact ⟨z_in (by omega) (by decide), h⟩
theorem ct_178_candle (h : mT b N a I) (k1 : wd b N 3 a → Q (some (.int (nI 1))) ((fl, n1, n2, p, q, ad), I, J)) (k0 : ¬ wd b N 3 a → Q (some (.int (nI 0))) ((fl, n1, n2, p, q, ad), I, J)) : mm_wc (d + 2) 178 [.ref 46, .ref 101] ((fl, n1, n2, p, q, ad), I, J) Q := by
  obtain ⟨hTp, ha, h13, h4, h5, h6, h7, h8⟩ := id h
  have hkl := tkK_lt b N a
  refine fx_178_candle ?_
  rw [h13, h6, z_eq (a := tkK b N a) (by omega) (by decide)]
  refine ⟨fun e => absurd rfl e, fun _ => ⟨fun e => k0 (fun z => e z.1), fun e => ct_1004_candle ⟨_, _, _, rfl, rfl, ?_⟩⟩⟩
  obtain ⟨g8, gk⟩ := h8 e
  obtain ⟨-, -, -, -, t8, -, -⟩ := tk_w e
  have hl : (wL 3).length = 6 := rfl
  rw [g8, z_eq (a := tkE b N a - a) (by omega) (by decide)]
  exact ⟨fun el => is_lp (i := 3) (by decide) ct_1005_candle fx_178_candle_32 h e (by rw [hl]; exact el) k1 k0 6 0 (by rw [hl]) _ (.inl ⟨rfl, fun k hk => absurd hk (Nat.not_lt_zero k)⟩), fun el => k0 (fun z => el (by rw [← hl]; exact z.2.1))⟩
theorem ct_178f_candle (h : mFl R I) (k : Q (some (.int (nI 0))) ((fl, n1, n2, p, q, ad), I, J)) : mm_wc (d + 1) 178 [.ref 46, .ref 101] ((fl, n1, n2, p, q, ad), I, J) Q := fx_178_candle ⟨fun _ => k, fun e => absurd e h.n13⟩
theorem ct_1004_place {σ : mmS} {Q : mmQ} (h : Q (some (.int (nI 5))) σ) : mm_wc (d + 1) 1004 [.ref 102] σ Q := h
theorem ct_1005_place (j : Nat) (σ : mmS) (Q : mmQ) (hj : j < (wL 4).length) (h : Q (some (.int (nI ((wL 4).getD j 0)))) σ) : mm_wc (d + 1) 1005 [.ref 102, .int (nI j)] σ Q := by
  have hl : (wL 4).length = 5 := rfl
  show vp_in (nI j) 5 ∧ Q (some (.int ((mm_sb.getD (102 - 98) []).getD (nI j).toNatClampNeg 0))) σ
  rw [z_ix (by omega), show 102 - 98 = 4 from rfl, (sb_w 4 (by decide) j hj).1]
  exact ⟨z_in (by omega) (by decide), h⟩
theorem ct_178_place (h : mT b N a I) (k1 : wd b N 4 a → Q (some (.int (nI 1))) ((fl, n1, n2, p, q, ad), I, J)) (k0 : ¬ wd b N 4 a → Q (some (.int (nI 0))) ((fl, n1, n2, p, q, ad), I, J)) : mm_wc (d + 2) 178 [.ref 46, .ref 102] ((fl, n1, n2, p, q, ad), I, J) Q := by
  obtain ⟨hTp, ha, h13, h4, h5, h6, h7, h8⟩ := id h
  have hkl := tkK_lt b N a
  refine fx_178_place ?_
  rw [h13, h6, z_eq (a := tkK b N a) (by omega) (by decide)]
  refine ⟨fun e => absurd rfl e, fun _ => ⟨fun e => k0 (fun z => e z.1), fun e => ct_1004_place ⟨_, _, _, rfl, rfl, ?_⟩⟩⟩
  obtain ⟨g8, gk⟩ := h8 e
  obtain ⟨-, -, -, -, t8, -, -⟩ := tk_w e
  have hl : (wL 4).length = 5 := rfl
  rw [g8, z_eq (a := tkE b N a - a) (by omega) (by decide)]
  exact ⟨fun el => is_lp (i := 4) (by decide) ct_1005_place fx_178_place_32 h e (by rw [hl]; exact el) k1 k0 5 0 (by rw [hl]) _ (.inl ⟨rfl, fun k hk => absurd hk (Nat.not_lt_zero k)⟩), fun el => k0 (fun z => el (by rw [← hl]; exact z.2.1))⟩
theorem ct_178f_place (h : mFl R I) (k : Q (some (.int (nI 0))) ((fl, n1, n2, p, q, ad), I, J)) : mm_wc (d + 1) 178 [.ref 46, .ref 102] ((fl, n1, n2, p, q, ad), I, J) Q := fx_178_place ⟨fun _ => k, fun e => absurd e h.n13⟩
theorem ct_1004_spot {σ : mmS} {Q : mmQ} (h : Q (some (.int (nI 4))) σ) : mm_wc (d + 1) 1004 [.ref 103] σ Q := h
theorem ct_1005_spot (j : Nat) (σ : mmS) (Q : mmQ) (hj : j < (wL 5).length) (h : Q (some (.int (nI ((wL 5).getD j 0)))) σ) : mm_wc (d + 1) 1005 [.ref 103, .int (nI j)] σ Q := by
  have hl : (wL 5).length = 4 := rfl
  show vp_in (nI j) 4 ∧ Q (some (.int ((mm_sb.getD (103 - 98) []).getD (nI j).toNatClampNeg 0))) σ
  rw [z_ix (by omega), show 103 - 98 = 5 from rfl, (sb_w 5 (by decide) j hj).1]
  exact ⟨z_in (by omega) (by decide), h⟩
theorem ct_178_spot (h : mT b N a I) (k1 : wd b N 5 a → Q (some (.int (nI 1))) ((fl, n1, n2, p, q, ad), I, J)) (k0 : ¬ wd b N 5 a → Q (some (.int (nI 0))) ((fl, n1, n2, p, q, ad), I, J)) : mm_wc (d + 2) 178 [.ref 46, .ref 103] ((fl, n1, n2, p, q, ad), I, J) Q := by
  obtain ⟨hTp, ha, h13, h4, h5, h6, h7, h8⟩ := id h
  have hkl := tkK_lt b N a
  refine fx_178_spot ?_
  rw [h13, h6, z_eq (a := tkK b N a) (by omega) (by decide)]
  refine ⟨fun e => absurd rfl e, fun _ => ⟨fun e => k0 (fun z => e z.1), fun e => ct_1004_spot ⟨_, _, _, rfl, rfl, ?_⟩⟩⟩
  obtain ⟨g8, gk⟩ := h8 e
  obtain ⟨-, -, -, -, t8, -, -⟩ := tk_w e
  have hl : (wL 5).length = 4 := rfl
  rw [g8, z_eq (a := tkE b N a - a) (by omega) (by decide)]
  exact ⟨fun el => is_lp (i := 5) (by decide) ct_1005_spot fx_178_spot_32 h e (by rw [hl]; exact el) k1 k0 4 0 (by rw [hl]) _ (.inl ⟨rfl, fun k hk => absurd hk (Nat.not_lt_zero k)⟩), fun el => k0 (fun z => el (by rw [← hl]; exact z.2.1))⟩
theorem ct_178f_spot (h : mFl R I) (k : Q (some (.int (nI 0))) ((fl, n1, n2, p, q, ad), I, J)) : mm_wc (d + 1) 178 [.ref 46, .ref 103] ((fl, n1, n2, p, q, ad), I, J) Q := fx_178_spot ⟨fun _ => k, fun e => absurd e h.n13⟩
theorem ct_1004_person {σ : mmS} {Q : mmQ} (h : Q (some (.int (nI 6))) σ) : mm_wc (d + 1) 1004 [.ref 104] σ Q := h
theorem ct_1005_person (j : Nat) (σ : mmS) (Q : mmQ) (hj : j < (wL 6).length) (h : Q (some (.int (nI ((wL 6).getD j 0)))) σ) : mm_wc (d + 1) 1005 [.ref 104, .int (nI j)] σ Q := by
  have hl : (wL 6).length = 6 := rfl
  show vp_in (nI j) 6 ∧ Q (some (.int ((mm_sb.getD (104 - 98) []).getD (nI j).toNatClampNeg 0))) σ
  rw [z_ix (by omega), show 104 - 98 = 6 from rfl, (sb_w 6 (by decide) j hj).1]
  exact ⟨z_in (by omega) (by decide), h⟩
theorem ct_178_person (h : mT b N a I) (k1 : wd b N 6 a → Q (some (.int (nI 1))) ((fl, n1, n2, p, q, ad), I, J)) (k0 : ¬ wd b N 6 a → Q (some (.int (nI 0))) ((fl, n1, n2, p, q, ad), I, J)) : mm_wc (d + 2) 178 [.ref 46, .ref 104] ((fl, n1, n2, p, q, ad), I, J) Q := by
  obtain ⟨hTp, ha, h13, h4, h5, h6, h7, h8⟩ := id h
  have hkl := tkK_lt b N a
  refine fx_178_person ?_
  rw [h13, h6, z_eq (a := tkK b N a) (by omega) (by decide)]
  refine ⟨fun e => absurd rfl e, fun _ => ⟨fun e => k0 (fun z => e z.1), fun e => ct_1004_person ⟨_, _, _, rfl, rfl, ?_⟩⟩⟩
  obtain ⟨g8, gk⟩ := h8 e
  obtain ⟨-, -, -, -, t8, -, -⟩ := tk_w e
  have hl : (wL 6).length = 6 := rfl
  rw [g8, z_eq (a := tkE b N a - a) (by omega) (by decide)]
  exact ⟨fun el => is_lp (i := 6) (by decide) ct_1005_person fx_178_person_32 h e (by rw [hl]; exact el) k1 k0 6 0 (by rw [hl]) _ (.inl ⟨rfl, fun k hk => absurd hk (Nat.not_lt_zero k)⟩), fun el => k0 (fun z => el (by rw [← hl]; exact z.2.1))⟩
theorem ct_178f_person (h : mFl R I) (k : Q (some (.int (nI 0))) ((fl, n1, n2, p, q, ad), I, J)) : mm_wc (d + 1) 178 [.ref 46, .ref 104] ((fl, n1, n2, p, q, ad), I, J) Q := fx_178_person ⟨fun _ => k, fun e => absurd e h.n13⟩
theorem ct_1004_shaky {σ : mmS} {Q : mmQ} (h : Q (some (.int (nI 5))) σ) : mm_wc (d + 1) 1004 [.ref 105] σ Q := h
theorem ct_1005_shaky (j : Nat) (σ : mmS) (Q : mmQ) (hj : j < (wL 7).length) (h : Q (some (.int (nI ((wL 7).getD j 0)))) σ) : mm_wc (d + 1) 1005 [.ref 105, .int (nI j)] σ Q := by
  have hl : (wL 7).length = 5 := rfl
  show vp_in (nI j) 5 ∧ Q (some (.int ((mm_sb.getD (105 - 98) []).getD (nI j).toNatClampNeg 0))) σ
  rw [z_ix (by omega), show 105 - 98 = 7 from rfl, (sb_w 7 (by decide) j hj).1]
  exact ⟨z_in (by omega) (by decide), h⟩
theorem ct_178_shaky (h : mT b N a I) (k1 : wd b N 7 a → Q (some (.int (nI 1))) ((fl, n1, n2, p, q, ad), I, J)) (k0 : ¬ wd b N 7 a → Q (some (.int (nI 0))) ((fl, n1, n2, p, q, ad), I, J)) : mm_wc (d + 2) 178 [.ref 46, .ref 105] ((fl, n1, n2, p, q, ad), I, J) Q := by
  obtain ⟨hTp, ha, h13, h4, h5, h6, h7, h8⟩ := id h
  have hkl := tkK_lt b N a
  refine fx_178_shaky ?_
  rw [h13, h6, z_eq (a := tkK b N a) (by omega) (by decide)]
  refine ⟨fun e => absurd rfl e, fun _ => ⟨fun e => k0 (fun z => e z.1), fun e => ct_1004_shaky ⟨_, _, _, rfl, rfl, ?_⟩⟩⟩
  obtain ⟨g8, gk⟩ := h8 e
  obtain ⟨-, -, -, -, t8, -, -⟩ := tk_w e
  have hl : (wL 7).length = 5 := rfl
  rw [g8, z_eq (a := tkE b N a - a) (by omega) (by decide)]
  exact ⟨fun el => is_lp (i := 7) (by decide) ct_1005_shaky fx_178_shaky_32 h e (by rw [hl]; exact el) k1 k0 5 0 (by rw [hl]) _ (.inl ⟨rfl, fun k hk => absurd hk (Nat.not_lt_zero k)⟩), fun el => k0 (fun z => el (by rw [← hl]; exact z.2.1))⟩
theorem ct_178f_shaky (h : mFl R I) (k : Q (some (.int (nI 0))) ((fl, n1, n2, p, q, ad), I, J)) : mm_wc (d + 1) 178 [.ref 46, .ref 105] ((fl, n1, n2, p, q, ad), I, J) Q := fx_178_shaky ⟨fun _ => k, fun e => absurd e h.n13⟩
theorem ct_1004_left {σ : mmS} {Q : mmQ} (h : Q (some (.int (nI 4))) σ) : mm_wc (d + 1) 1004 [.ref 106] σ Q := h
theorem ct_1005_left (j : Nat) (σ : mmS) (Q : mmQ) (hj : j < (wL 8).length) (h : Q (some (.int (nI ((wL 8).getD j 0)))) σ) : mm_wc (d + 1) 1005 [.ref 106, .int (nI j)] σ Q := by
  have hl : (wL 8).length = 4 := rfl
  show vp_in (nI j) 4 ∧ Q (some (.int ((mm_sb.getD (106 - 98) []).getD (nI j).toNatClampNeg 0))) σ
  rw [z_ix (by omega), show 106 - 98 = 8 from rfl, (sb_w 8 (by decide) j hj).1]
  exact ⟨z_in (by omega) (by decide), h⟩
theorem ct_178_left (h : mT b N a I) (k1 : wd b N 8 a → Q (some (.int (nI 1))) ((fl, n1, n2, p, q, ad), I, J)) (k0 : ¬ wd b N 8 a → Q (some (.int (nI 0))) ((fl, n1, n2, p, q, ad), I, J)) : mm_wc (d + 2) 178 [.ref 46, .ref 106] ((fl, n1, n2, p, q, ad), I, J) Q := by
  obtain ⟨hTp, ha, h13, h4, h5, h6, h7, h8⟩ := id h
  have hkl := tkK_lt b N a
  refine fx_178_left ?_
  rw [h13, h6, z_eq (a := tkK b N a) (by omega) (by decide)]
  refine ⟨fun e => absurd rfl e, fun _ => ⟨fun e => k0 (fun z => e z.1), fun e => ct_1004_left ⟨_, _, _, rfl, rfl, ?_⟩⟩⟩
  obtain ⟨g8, gk⟩ := h8 e
  obtain ⟨-, -, -, -, t8, -, -⟩ := tk_w e
  have hl : (wL 8).length = 4 := rfl
  rw [g8, z_eq (a := tkE b N a - a) (by omega) (by decide)]
  exact ⟨fun el => is_lp (i := 8) (by decide) ct_1005_left fx_178_left_32 h e (by rw [hl]; exact el) k1 k0 4 0 (by rw [hl]) _ (.inl ⟨rfl, fun k hk => absurd hk (Nat.not_lt_zero k)⟩), fun el => k0 (fun z => el (by rw [← hl]; exact z.2.1))⟩
theorem ct_178f_left (h : mFl R I) (k : Q (some (.int (nI 0))) ((fl, n1, n2, p, q, ad), I, J)) : mm_wc (d + 1) 178 [.ref 46, .ref 106] ((fl, n1, n2, p, q, ad), I, J) Q := fx_178_left ⟨fun _ => k, fun e => absurd e h.n13⟩
theorem ct_1004_none {σ : mmS} {Q : mmQ} (h : Q (some (.int (nI 4))) σ) : mm_wc (d + 1) 1004 [.ref 107] σ Q := h
theorem ct_1005_none (j : Nat) (σ : mmS) (Q : mmQ) (hj : j < (wL 9).length) (h : Q (some (.int (nI ((wL 9).getD j 0)))) σ) : mm_wc (d + 1) 1005 [.ref 107, .int (nI j)] σ Q := by
  have hl : (wL 9).length = 4 := rfl
  show vp_in (nI j) 4 ∧ Q (some (.int ((mm_sb.getD (107 - 98) []).getD (nI j).toNatClampNeg 0))) σ
  rw [z_ix (by omega), show 107 - 98 = 9 from rfl, (sb_w 9 (by decide) j hj).1]
  exact ⟨z_in (by omega) (by decide), h⟩
theorem ct_178_none (h : mT b N a I) (k1 : wd b N 9 a → Q (some (.int (nI 1))) ((fl, n1, n2, p, q, ad), I, J)) (k0 : ¬ wd b N 9 a → Q (some (.int (nI 0))) ((fl, n1, n2, p, q, ad), I, J)) : mm_wc (d + 2) 178 [.ref 46, .ref 107] ((fl, n1, n2, p, q, ad), I, J) Q := by
  obtain ⟨hTp, ha, h13, h4, h5, h6, h7, h8⟩ := id h
  have hkl := tkK_lt b N a
  refine fx_178_none ?_
  rw [h13, h6, z_eq (a := tkK b N a) (by omega) (by decide)]
  refine ⟨fun e => absurd rfl e, fun _ => ⟨fun e => k0 (fun z => e z.1), fun e => ct_1004_none ⟨_, _, _, rfl, rfl, ?_⟩⟩⟩
  obtain ⟨g8, gk⟩ := h8 e
  obtain ⟨-, -, -, -, t8, -, -⟩ := tk_w e
  have hl : (wL 9).length = 4 := rfl
  rw [g8, z_eq (a := tkE b N a - a) (by omega) (by decide)]
  exact ⟨fun el => is_lp (i := 9) (by decide) ct_1005_none fx_178_none_32 h e (by rw [hl]; exact el) k1 k0 4 0 (by rw [hl]) _ (.inl ⟨rfl, fun k hk => absurd hk (Nat.not_lt_zero k)⟩), fun el => k0 (fun z => el (by rw [← hl]; exact z.2.1))⟩
theorem ct_178f_none (h : mFl R I) (k : Q (some (.int (nI 0))) ((fl, n1, n2, p, q, ad), I, J)) : mm_wc (d + 1) 178 [.ref 46, .ref 107] ((fl, n1, n2, p, q, ad), I, J) Q := fx_178_none ⟨fun _ => k, fun e => absurd e h.n13⟩
theorem ct_1004_at {σ : mmS} {Q : mmQ} (h : Q (some (.int (nI 2))) σ) : mm_wc (d + 1) 1004 [.ref 108] σ Q := h
theorem ct_1005_at (j : Nat) (σ : mmS) (Q : mmQ) (hj : j < (wL 10).length) (h : Q (some (.int (nI ((wL 10).getD j 0)))) σ) : mm_wc (d + 1) 1005 [.ref 108, .int (nI j)] σ Q := by
  have hl : (wL 10).length = 2 := rfl
  show vp_in (nI j) 2 ∧ Q (some (.int ((mm_sb.getD (108 - 98) []).getD (nI j).toNatClampNeg 0))) σ
  rw [z_ix (by omega), show 108 - 98 = 10 from rfl, (sb_w 10 (by decide) j hj).1]
  exact ⟨z_in (by omega) (by decide), h⟩
theorem ct_178_at (h : mT b N a I) (k1 : wd b N 10 a → Q (some (.int (nI 1))) ((fl, n1, n2, p, q, ad), I, J)) (k0 : ¬ wd b N 10 a → Q (some (.int (nI 0))) ((fl, n1, n2, p, q, ad), I, J)) : mm_wc (d + 2) 178 [.ref 46, .ref 108] ((fl, n1, n2, p, q, ad), I, J) Q := by
  obtain ⟨hTp, ha, h13, h4, h5, h6, h7, h8⟩ := id h
  have hkl := tkK_lt b N a
  refine fx_178_at ?_
  rw [h13, h6, z_eq (a := tkK b N a) (by omega) (by decide)]
  refine ⟨fun e => absurd rfl e, fun _ => ⟨fun e => k0 (fun z => e z.1), fun e => ct_1004_at ⟨_, _, _, rfl, rfl, ?_⟩⟩⟩
  obtain ⟨g8, gk⟩ := h8 e
  obtain ⟨-, -, -, -, t8, -, -⟩ := tk_w e
  have hl : (wL 10).length = 2 := rfl
  rw [g8, z_eq (a := tkE b N a - a) (by omega) (by decide)]
  exact ⟨fun el => is_lp (i := 10) (by decide) ct_1005_at fx_178_at_32 h e (by rw [hl]; exact el) k1 k0 2 0 (by rw [hl]) _ (.inl ⟨rfl, fun k hk => absurd hk (Nat.not_lt_zero k)⟩), fun el => k0 (fun z => el (by rw [← hl]; exact z.2.1))⟩
theorem ct_178f_at (h : mFl R I) (k : Q (some (.int (nI 0))) ((fl, n1, n2, p, q, ad), I, J)) : mm_wc (d + 1) 178 [.ref 46, .ref 108] ((fl, n1, n2, p, q, ad), I, J) Q := fx_178_at ⟨fun _ => k, fun e => absurd e h.n13⟩
theorem ct_1004_plain {σ : mmS} {Q : mmQ} (h : Q (some (.int (nI 5))) σ) : mm_wc (d + 1) 1004 [.ref 109] σ Q := h
theorem ct_1005_plain (j : Nat) (σ : mmS) (Q : mmQ) (hj : j < (wL 11).length) (h : Q (some (.int (nI ((wL 11).getD j 0)))) σ) : mm_wc (d + 1) 1005 [.ref 109, .int (nI j)] σ Q := by
  have hl : (wL 11).length = 5 := rfl
  show vp_in (nI j) 5 ∧ Q (some (.int ((mm_sb.getD (109 - 98) []).getD (nI j).toNatClampNeg 0))) σ
  rw [z_ix (by omega), show 109 - 98 = 11 from rfl, (sb_w 11 (by decide) j hj).1]
  exact ⟨z_in (by omega) (by decide), h⟩
theorem ct_178_plain (h : mT b N a I) (k1 : wd b N 11 a → Q (some (.int (nI 1))) ((fl, n1, n2, p, q, ad), I, J)) (k0 : ¬ wd b N 11 a → Q (some (.int (nI 0))) ((fl, n1, n2, p, q, ad), I, J)) : mm_wc (d + 2) 178 [.ref 46, .ref 109] ((fl, n1, n2, p, q, ad), I, J) Q := by
  obtain ⟨hTp, ha, h13, h4, h5, h6, h7, h8⟩ := id h
  have hkl := tkK_lt b N a
  refine fx_178_plain ?_
  rw [h13, h6, z_eq (a := tkK b N a) (by omega) (by decide)]
  refine ⟨fun e => absurd rfl e, fun _ => ⟨fun e => k0 (fun z => e z.1), fun e => ct_1004_plain ⟨_, _, _, rfl, rfl, ?_⟩⟩⟩
  obtain ⟨g8, gk⟩ := h8 e
  obtain ⟨-, -, -, -, t8, -, -⟩ := tk_w e
  have hl : (wL 11).length = 5 := rfl
  rw [g8, z_eq (a := tkE b N a - a) (by omega) (by decide)]
  exact ⟨fun el => is_lp (i := 11) (by decide) ct_1005_plain fx_178_plain_32 h e (by rw [hl]; exact el) k1 k0 5 0 (by rw [hl]) _ (.inl ⟨rfl, fun k hk => absurd hk (Nat.not_lt_zero k)⟩), fun el => k0 (fun z => el (by rw [← hl]; exact z.2.1))⟩
theorem ct_178f_plain (h : mFl R I) (k : Q (some (.int (nI 0))) ((fl, n1, n2, p, q, ad), I, J)) : mm_wc (d + 1) 178 [.ref 46, .ref 109] ((fl, n1, n2, p, q, ad), I, J) Q := fx_178_plain ⟨fun _ => k, fun e => absurd e h.n13⟩
theorem ct_1004_tall {σ : mmS} {Q : mmQ} (h : Q (some (.int (nI 4))) σ) : mm_wc (d + 1) 1004 [.ref 110] σ Q := h
theorem ct_1005_tall (j : Nat) (σ : mmS) (Q : mmQ) (hj : j < (wL 12).length) (h : Q (some (.int (nI ((wL 12).getD j 0)))) σ) : mm_wc (d + 1) 1005 [.ref 110, .int (nI j)] σ Q := by
  have hl : (wL 12).length = 4 := rfl
  show vp_in (nI j) 4 ∧ Q (some (.int ((mm_sb.getD (110 - 98) []).getD (nI j).toNatClampNeg 0))) σ
  rw [z_ix (by omega), show 110 - 98 = 12 from rfl, (sb_w 12 (by decide) j hj).1]
  exact ⟨z_in (by omega) (by decide), h⟩
theorem ct_178_tall (h : mT b N a I) (k1 : wd b N 12 a → Q (some (.int (nI 1))) ((fl, n1, n2, p, q, ad), I, J)) (k0 : ¬ wd b N 12 a → Q (some (.int (nI 0))) ((fl, n1, n2, p, q, ad), I, J)) : mm_wc (d + 2) 178 [.ref 46, .ref 110] ((fl, n1, n2, p, q, ad), I, J) Q := by
  obtain ⟨hTp, ha, h13, h4, h5, h6, h7, h8⟩ := id h
  have hkl := tkK_lt b N a
  refine fx_178_tall ?_
  rw [h13, h6, z_eq (a := tkK b N a) (by omega) (by decide)]
  refine ⟨fun e => absurd rfl e, fun _ => ⟨fun e => k0 (fun z => e z.1), fun e => ct_1004_tall ⟨_, _, _, rfl, rfl, ?_⟩⟩⟩
  obtain ⟨g8, gk⟩ := h8 e
  obtain ⟨-, -, -, -, t8, -, -⟩ := tk_w e
  have hl : (wL 12).length = 4 := rfl
  rw [g8, z_eq (a := tkE b N a - a) (by omega) (by decide)]
  exact ⟨fun el => is_lp (i := 12) (by decide) ct_1005_tall fx_178_tall_32 h e (by rw [hl]; exact el) k1 k0 4 0 (by rw [hl]) _ (.inl ⟨rfl, fun k hk => absurd hk (Nat.not_lt_zero k)⟩), fun el => k0 (fun z => el (by rw [← hl]; exact z.2.1))⟩
theorem ct_178f_tall (h : mFl R I) (k : Q (some (.int (nI 0))) ((fl, n1, n2, p, q, ad), I, J)) : mm_wc (d + 1) 178 [.ref 46, .ref 110] ((fl, n1, n2, p, q, ad), I, J) Q := fx_178_tall ⟨fun _ => k, fun e => absurd e h.n13⟩
theorem ct_1004_again {σ : mmS} {Q : mmQ} (h : Q (some (.int (nI 5))) σ) : mm_wc (d + 1) 1004 [.ref 111] σ Q := h
theorem ct_1005_again (j : Nat) (σ : mmS) (Q : mmQ) (hj : j < (wL 13).length) (h : Q (some (.int (nI ((wL 13).getD j 0)))) σ) : mm_wc (d + 1) 1005 [.ref 111, .int (nI j)] σ Q := by
  have hl : (wL 13).length = 5 := rfl
  show vp_in (nI j) 5 ∧ Q (some (.int ((mm_sb.getD (111 - 98) []).getD (nI j).toNatClampNeg 0))) σ
  rw [z_ix (by omega), show 111 - 98 = 13 from rfl, (sb_w 13 (by decide) j hj).1]
  exact ⟨z_in (by omega) (by decide), h⟩
theorem ct_178_again (h : mT b N a I) (k1 : wd b N 13 a → Q (some (.int (nI 1))) ((fl, n1, n2, p, q, ad), I, J)) (k0 : ¬ wd b N 13 a → Q (some (.int (nI 0))) ((fl, n1, n2, p, q, ad), I, J)) : mm_wc (d + 2) 178 [.ref 46, .ref 111] ((fl, n1, n2, p, q, ad), I, J) Q := by
  obtain ⟨hTp, ha, h13, h4, h5, h6, h7, h8⟩ := id h
  have hkl := tkK_lt b N a
  refine fx_178_again ?_
  rw [h13, h6, z_eq (a := tkK b N a) (by omega) (by decide)]
  refine ⟨fun e => absurd rfl e, fun _ => ⟨fun e => k0 (fun z => e z.1), fun e => ct_1004_again ⟨_, _, _, rfl, rfl, ?_⟩⟩⟩
  obtain ⟨g8, gk⟩ := h8 e
  obtain ⟨-, -, -, -, t8, -, -⟩ := tk_w e
  have hl : (wL 13).length = 5 := rfl
  rw [g8, z_eq (a := tkE b N a - a) (by omega) (by decide)]
  exact ⟨fun el => is_lp (i := 13) (by decide) ct_1005_again fx_178_again_32 h e (by rw [hl]; exact el) k1 k0 5 0 (by rw [hl]) _ (.inl ⟨rfl, fun k hk => absurd hk (Nat.not_lt_zero k)⟩), fun el => k0 (fun z => el (by rw [← hl]; exact z.2.1))⟩
theorem ct_178f_again (h : mFl R I) (k : Q (some (.int (nI 0))) ((fl, n1, n2, p, q, ad), I, J)) : mm_wc (d + 1) 178 [.ref 46, .ref 111] ((fl, n1, n2, p, q, ad), I, J) Q := fx_178_again ⟨fun _ => k, fun e => absurd e h.n13⟩
theorem ct_1004_trick {σ : mmS} {Q : mmQ} (h : Q (some (.int (nI 5))) σ) : mm_wc (d + 1) 1004 [.ref 112] σ Q := h
theorem ct_1005_trick (j : Nat) (σ : mmS) (Q : mmQ) (hj : j < (wL 14).length) (h : Q (some (.int (nI ((wL 14).getD j 0)))) σ) : mm_wc (d + 1) 1005 [.ref 112, .int (nI j)] σ Q := by
  have hl : (wL 14).length = 5 := rfl
  show vp_in (nI j) 5 ∧ Q (some (.int ((mm_sb.getD (112 - 98) []).getD (nI j).toNatClampNeg 0))) σ
  rw [z_ix (by omega), show 112 - 98 = 14 from rfl, (sb_w 14 (by decide) j hj).1]
  exact ⟨z_in (by omega) (by decide), h⟩
theorem ct_178_trick (h : mT b N a I) (k1 : wd b N 14 a → Q (some (.int (nI 1))) ((fl, n1, n2, p, q, ad), I, J)) (k0 : ¬ wd b N 14 a → Q (some (.int (nI 0))) ((fl, n1, n2, p, q, ad), I, J)) : mm_wc (d + 2) 178 [.ref 46, .ref 112] ((fl, n1, n2, p, q, ad), I, J) Q := by
  obtain ⟨hTp, ha, h13, h4, h5, h6, h7, h8⟩ := id h
  have hkl := tkK_lt b N a
  refine fx_178_trick ?_
  rw [h13, h6, z_eq (a := tkK b N a) (by omega) (by decide)]
  refine ⟨fun e => absurd rfl e, fun _ => ⟨fun e => k0 (fun z => e z.1), fun e => ct_1004_trick ⟨_, _, _, rfl, rfl, ?_⟩⟩⟩
  obtain ⟨g8, gk⟩ := h8 e
  obtain ⟨-, -, -, -, t8, -, -⟩ := tk_w e
  have hl : (wL 14).length = 5 := rfl
  rw [g8, z_eq (a := tkE b N a - a) (by omega) (by decide)]
  exact ⟨fun el => is_lp (i := 14) (by decide) ct_1005_trick fx_178_trick_32 h e (by rw [hl]; exact el) k1 k0 5 0 (by rw [hl]) _ (.inl ⟨rfl, fun k hk => absurd hk (Nat.not_lt_zero k)⟩), fun el => k0 (fun z => el (by rw [← hl]; exact z.2.1))⟩
theorem ct_178f_trick (h : mFl R I) (k : Q (some (.int (nI 0))) ((fl, n1, n2, p, q, ad), I, J)) : mm_wc (d + 1) 178 [.ref 46, .ref 112] ((fl, n1, n2, p, q, ad), I, J) Q := fx_178_trick ⟨fun _ => k, fun e => absurd e h.n13⟩
theorem ct_1004_reach {σ : mmS} {Q : mmQ} (h : Q (some (.int (nI 5))) σ) : mm_wc (d + 1) 1004 [.ref 113] σ Q := h
theorem ct_1005_reach (j : Nat) (σ : mmS) (Q : mmQ) (hj : j < (wL 15).length) (h : Q (some (.int (nI ((wL 15).getD j 0)))) σ) : mm_wc (d + 1) 1005 [.ref 113, .int (nI j)] σ Q := by
  have hl : (wL 15).length = 5 := rfl
  show vp_in (nI j) 5 ∧ Q (some (.int ((mm_sb.getD (113 - 98) []).getD (nI j).toNatClampNeg 0))) σ
  rw [z_ix (by omega), show 113 - 98 = 15 from rfl, (sb_w 15 (by decide) j hj).1]
  exact ⟨z_in (by omega) (by decide), h⟩
theorem ct_178_reach (h : mT b N a I) (k1 : wd b N 15 a → Q (some (.int (nI 1))) ((fl, n1, n2, p, q, ad), I, J)) (k0 : ¬ wd b N 15 a → Q (some (.int (nI 0))) ((fl, n1, n2, p, q, ad), I, J)) : mm_wc (d + 2) 178 [.ref 46, .ref 113] ((fl, n1, n2, p, q, ad), I, J) Q := by
  obtain ⟨hTp, ha, h13, h4, h5, h6, h7, h8⟩ := id h
  have hkl := tkK_lt b N a
  refine fx_178_reach ?_
  rw [h13, h6, z_eq (a := tkK b N a) (by omega) (by decide)]
  refine ⟨fun e => absurd rfl e, fun _ => ⟨fun e => k0 (fun z => e z.1), fun e => ct_1004_reach ⟨_, _, _, rfl, rfl, ?_⟩⟩⟩
  obtain ⟨g8, gk⟩ := h8 e
  obtain ⟨-, -, -, -, t8, -, -⟩ := tk_w e
  have hl : (wL 15).length = 5 := rfl
  rw [g8, z_eq (a := tkE b N a - a) (by omega) (by decide)]
  exact ⟨fun el => is_lp (i := 15) (by decide) ct_1005_reach fx_178_reach_32 h e (by rw [hl]; exact el) k1 k0 5 0 (by rw [hl]) _ (.inl ⟨rfl, fun k hk => absurd hk (Nat.not_lt_zero k)⟩), fun el => k0 (fun z => el (by rw [← hl]; exact z.2.1))⟩
theorem ct_178f_reach (h : mFl R I) (k : Q (some (.int (nI 0))) ((fl, n1, n2, p, q, ad), I, J)) : mm_wc (d + 1) 178 [.ref 46, .ref 113] ((fl, n1, n2, p, q, ad), I, J) Q := fx_178_reach ⟨fun _ => k, fun e => absurd e h.n13⟩
theorem ct_1004_spread {σ : mmS} {Q : mmQ} (h : Q (some (.int (nI 6))) σ) : mm_wc (d + 1) 1004 [.ref 114] σ Q := h
theorem ct_1005_spread (j : Nat) (σ : mmS) (Q : mmQ) (hj : j < (wL 16).length) (h : Q (some (.int (nI ((wL 16).getD j 0)))) σ) : mm_wc (d + 1) 1005 [.ref 114, .int (nI j)] σ Q := by
  have hl : (wL 16).length = 6 := rfl
  show vp_in (nI j) 6 ∧ Q (some (.int ((mm_sb.getD (114 - 98) []).getD (nI j).toNatClampNeg 0))) σ
  rw [z_ix (by omega), show 114 - 98 = 16 from rfl, (sb_w 16 (by decide) j hj).1]
  exact ⟨z_in (by omega) (by decide), h⟩
theorem ct_178_spread (h : mT b N a I) (k1 : wd b N 16 a → Q (some (.int (nI 1))) ((fl, n1, n2, p, q, ad), I, J)) (k0 : ¬ wd b N 16 a → Q (some (.int (nI 0))) ((fl, n1, n2, p, q, ad), I, J)) : mm_wc (d + 2) 178 [.ref 46, .ref 114] ((fl, n1, n2, p, q, ad), I, J) Q := by
  obtain ⟨hTp, ha, h13, h4, h5, h6, h7, h8⟩ := id h
  have hkl := tkK_lt b N a
  refine fx_178_spread ?_
  rw [h13, h6, z_eq (a := tkK b N a) (by omega) (by decide)]
  refine ⟨fun e => absurd rfl e, fun _ => ⟨fun e => k0 (fun z => e z.1), fun e => ct_1004_spread ⟨_, _, _, rfl, rfl, ?_⟩⟩⟩
  obtain ⟨g8, gk⟩ := h8 e
  obtain ⟨-, -, -, -, t8, -, -⟩ := tk_w e
  have hl : (wL 16).length = 6 := rfl
  rw [g8, z_eq (a := tkE b N a - a) (by omega) (by decide)]
  exact ⟨fun el => is_lp (i := 16) (by decide) ct_1005_spread fx_178_spread_32 h e (by rw [hl]; exact el) k1 k0 6 0 (by rw [hl]) _ (.inl ⟨rfl, fun k hk => absurd hk (Nat.not_lt_zero k)⟩), fun el => k0 (fun z => el (by rw [← hl]; exact z.2.1))⟩
theorem ct_178f_spread (h : mFl R I) (k : Q (some (.int (nI 0))) ((fl, n1, n2, p, q, ad), I, J)) : mm_wc (d + 1) 178 [.ref 46, .ref 114] ((fl, n1, n2, p, q, ad), I, J) Q := fx_178_spread ⟨fun _ => k, fun e => absurd e h.n13⟩
theorem ct_179_near (h : mT b N a I) (k1 : ∀ I', wd b N 1 a → fr wS I I' → mT b N (nx b N a) I' → Q (some (.int (nI 1))) ((fl, n1, n2, p, q, ad), I', J)) (k0 : ¬ wd b N 1 a → Q (some (.int (nI 0))) ((fl, n1, n2, p, q, ad), I, J)) : mm_wc (d + 3) 179 [.ref 46, .ref 99] ((fl, n1, n2, p, q, ad), I, J) Q :=
  fx_179_near (ct_178_near h (fun z => ⟨_, _, _, rfl, rfl, fun _ => ct_176n h (fun I' f' h' => ⟨_, _, rfl, rfl, k1 I' z f' h'⟩), fun e => absurd e n10⟩) (fun z => ⟨_, _, _, rfl, rfl, fun e => absurd rfl e, fun _ => k0 z⟩))
theorem ct_179_wax (h : mT b N a I) (k1 : ∀ I', wd b N 2 a → fr wS I I' → mT b N (nx b N a) I' → Q (some (.int (nI 1))) ((fl, n1, n2, p, q, ad), I', J)) (k0 : ¬ wd b N 2 a → Q (some (.int (nI 0))) ((fl, n1, n2, p, q, ad), I, J)) : mm_wc (d + 3) 179 [.ref 46, .ref 100] ((fl, n1, n2, p, q, ad), I, J) Q :=
  fx_179_wax (ct_178_wax h (fun z => ⟨_, _, _, rfl, rfl, fun _ => ct_176n h (fun I' f' h' => ⟨_, _, rfl, rfl, k1 I' z f' h'⟩), fun e => absurd e n10⟩) (fun z => ⟨_, _, _, rfl, rfl, fun e => absurd rfl e, fun _ => k0 z⟩))
theorem ct_179_at (h : mT b N a I) (k1 : ∀ I', wd b N 10 a → fr wS I I' → mT b N (nx b N a) I' → Q (some (.int (nI 1))) ((fl, n1, n2, p, q, ad), I', J)) (k0 : ¬ wd b N 10 a → Q (some (.int (nI 0))) ((fl, n1, n2, p, q, ad), I, J)) : mm_wc (d + 3) 179 [.ref 46, .ref 108] ((fl, n1, n2, p, q, ad), I, J) Q :=
  fx_179_at (ct_178_at h (fun z => ⟨_, _, _, rfl, rfl, fun _ => ct_176n h (fun I' f' h' => ⟨_, _, rfl, rfl, k1 I' z f' h'⟩), fun e => absurd e n10⟩) (fun z => ⟨_, _, _, rfl, rfl, fun e => absurd rfl e, fun _ => k0 z⟩))
theorem ct_179_reach (h : mT b N a I) (k1 : ∀ I', wd b N 15 a → fr wS I I' → mT b N (nx b N a) I' → Q (some (.int (nI 1))) ((fl, n1, n2, p, q, ad), I', J)) (k0 : ¬ wd b N 15 a → Q (some (.int (nI 0))) ((fl, n1, n2, p, q, ad), I, J)) : mm_wc (d + 3) 179 [.ref 46, .ref 113] ((fl, n1, n2, p, q, ad), I, J) Q :=
  fx_179_reach (ct_178_reach h (fun z => ⟨_, _, _, rfl, rfl, fun _ => ct_176n h (fun I' f' h' => ⟨_, _, rfl, rfl, k1 I' z f' h'⟩), fun e => absurd e n10⟩) (fun z => ⟨_, _, _, rfl, rfl, fun e => absurd rfl e, fun _ => k0 z⟩))
theorem ct_179_spread (h : mT b N a I) (k1 : ∀ I', wd b N 16 a → fr wS I I' → mT b N (nx b N a) I' → Q (some (.int (nI 1))) ((fl, n1, n2, p, q, ad), I', J)) (k0 : ¬ wd b N 16 a → Q (some (.int (nI 0))) ((fl, n1, n2, p, q, ad), I, J)) : mm_wc (d + 3) 179 [.ref 46, .ref 114] ((fl, n1, n2, p, q, ad), I, J) Q :=
  fx_179_spread (ct_178_spread h (fun z => ⟨_, _, _, rfl, rfl, fun _ => ct_176n h (fun I' f' h' => ⟨_, _, rfl, rfl, k1 I' z f' h'⟩), fun e => absurd e n10⟩) (fun z => ⟨_, _, _, rfl, rfl, fun e => absurd rfl e, fun _ => k0 z⟩))
theorem ct_179_none (h : mT b N a I) (k1 : ∀ I', wd b N 9 a → fr wS I I' → mT b N (nx b N a) I' → Q (some (.int (nI 1))) ((fl, n1, n2, p, q, ad), I', J)) (k0 : ¬ wd b N 9 a → Q (some (.int (nI 0))) ((fl, n1, n2, p, q, ad), I, J)) : mm_wc (d + 3) 179 [.ref 46, .ref 107] ((fl, n1, n2, p, q, ad), I, J) Q :=
  fx_179_none (ct_178_none h (fun z => ⟨_, _, _, rfl, rfl, fun _ => ct_176n h (fun I' f' h' => ⟨_, _, rfl, rfl, k1 I' z f' h'⟩), fun e => absurd e n10⟩) (fun z => ⟨_, _, _, rfl, rfl, fun e => absurd rfl e, fun _ => k0 z⟩))
theorem ct_180_near {k : Nat → zE} (h : mAt b N R I a (wdF b N 1 a k)) (c : ∀ I', fr wS I I' → mAt b N R I' (nx b N a) (k (nx b N a)) → Q none ((fl, n1, n2, p, q, ad), I', J)) : mm_wc (d + 4) 180 [.ref 46, .ref 99] ((fl, n1, n2, p, q, ad), I, J) Q := by
  rcases h with ⟨h, e⟩ | h
  · refine fx_180_near ⟨fun z => absurd h.2.2.1 z, fun _ => ct_179_near h (fun I' z f' h' => ⟨_, _, _, rfl, rfl, fun _ => c I' f' (.inl ⟨h', ?_⟩), fun z => absurd z n10⟩) (fun z => ⟨_, _, _, rfl, rfl, fun z => absurd rfl z, fun _ => ct_177 h (by decide) (by decide) (fun I' f' h' => ⟨_, _, rfl, rfl, c I' f' (.inr ?_)⟩)⟩)⟩
    · rw [wdF, if_pos z] at e; exact e
    · rw [wdF, if_neg z] at e; rw [← e]; exact h'
  · exact fx_180_near ⟨fun _ => c I fr.rf (.inr h), fun z => absurd z h.n13⟩
theorem ct_180_wax {k : Nat → zE} (h : mAt b N R I a (wdF b N 2 a k)) (c : ∀ I', fr wS I I' → mAt b N R I' (nx b N a) (k (nx b N a)) → Q none ((fl, n1, n2, p, q, ad), I', J)) : mm_wc (d + 4) 180 [.ref 46, .ref 100] ((fl, n1, n2, p, q, ad), I, J) Q := by
  rcases h with ⟨h, e⟩ | h
  · refine fx_180_wax ⟨fun z => absurd h.2.2.1 z, fun _ => ct_179_wax h (fun I' z f' h' => ⟨_, _, _, rfl, rfl, fun _ => c I' f' (.inl ⟨h', ?_⟩), fun z => absurd z n10⟩) (fun z => ⟨_, _, _, rfl, rfl, fun z => absurd rfl z, fun _ => ct_177 h (by decide) (by decide) (fun I' f' h' => ⟨_, _, rfl, rfl, c I' f' (.inr ?_)⟩)⟩)⟩
    · rw [wdF, if_pos z] at e; exact e
    · rw [wdF, if_neg z] at e; rw [← e]; exact h'
  · exact fx_180_wax ⟨fun _ => c I fr.rf (.inr h), fun z => absurd z h.n13⟩
theorem ct_180_at {k : Nat → zE} (h : mAt b N R I a (wdF b N 10 a k)) (c : ∀ I', fr wS I I' → mAt b N R I' (nx b N a) (k (nx b N a)) → Q none ((fl, n1, n2, p, q, ad), I', J)) : mm_wc (d + 4) 180 [.ref 46, .ref 108] ((fl, n1, n2, p, q, ad), I, J) Q := by
  rcases h with ⟨h, e⟩ | h
  · refine fx_180_at ⟨fun z => absurd h.2.2.1 z, fun _ => ct_179_at h (fun I' z f' h' => ⟨_, _, _, rfl, rfl, fun _ => c I' f' (.inl ⟨h', ?_⟩), fun z => absurd z n10⟩) (fun z => ⟨_, _, _, rfl, rfl, fun z => absurd rfl z, fun _ => ct_177 h (by decide) (by decide) (fun I' f' h' => ⟨_, _, rfl, rfl, c I' f' (.inr ?_)⟩)⟩)⟩
    · rw [wdF, if_pos z] at e; exact e
    · rw [wdF, if_neg z] at e; rw [← e]; exact h'
  · exact fx_180_at ⟨fun _ => c I fr.rf (.inr h), fun z => absurd z h.n13⟩
theorem ct_180_reach {k : Nat → zE} (h : mAt b N R I a (wdF b N 15 a k)) (c : ∀ I', fr wS I I' → mAt b N R I' (nx b N a) (k (nx b N a)) → Q none ((fl, n1, n2, p, q, ad), I', J)) : mm_wc (d + 4) 180 [.ref 46, .ref 113] ((fl, n1, n2, p, q, ad), I, J) Q := by
  rcases h with ⟨h, e⟩ | h
  · refine fx_180_reach ⟨fun z => absurd h.2.2.1 z, fun _ => ct_179_reach h (fun I' z f' h' => ⟨_, _, _, rfl, rfl, fun _ => c I' f' (.inl ⟨h', ?_⟩), fun z => absurd z n10⟩) (fun z => ⟨_, _, _, rfl, rfl, fun z => absurd rfl z, fun _ => ct_177 h (by decide) (by decide) (fun I' f' h' => ⟨_, _, rfl, rfl, c I' f' (.inr ?_)⟩)⟩)⟩
    · rw [wdF, if_pos z] at e; exact e
    · rw [wdF, if_neg z] at e; rw [← e]; exact h'
  · exact fx_180_reach ⟨fun _ => c I fr.rf (.inr h), fun z => absurd z h.n13⟩
theorem ct_180_spread {k : Nat → zE} (h : mAt b N R I a (wdF b N 16 a k)) (c : ∀ I', fr wS I I' → mAt b N R I' (nx b N a) (k (nx b N a)) → Q none ((fl, n1, n2, p, q, ad), I', J)) : mm_wc (d + 4) 180 [.ref 46, .ref 114] ((fl, n1, n2, p, q, ad), I, J) Q := by
  rcases h with ⟨h, e⟩ | h
  · refine fx_180_spread ⟨fun z => absurd h.2.2.1 z, fun _ => ct_179_spread h (fun I' z f' h' => ⟨_, _, _, rfl, rfl, fun _ => c I' f' (.inl ⟨h', ?_⟩), fun z => absurd z n10⟩) (fun z => ⟨_, _, _, rfl, rfl, fun z => absurd rfl z, fun _ => ct_177 h (by decide) (by decide) (fun I' f' h' => ⟨_, _, rfl, rfl, c I' f' (.inr ?_)⟩)⟩)⟩
    · rw [wdF, if_pos z] at e; exact e
    · rw [wdF, if_neg z] at e; rw [← e]; exact h'
  · exact fx_180_spread ⟨fun _ => c I fr.rf (.inr h), fun z => absurd z h.n13⟩
theorem ct_184 {lo hi : Nat} {k : Nat → Nat → zE} (hlo : lo ≤ hi) (hhi : hi < 1000) (h : mAt b N R I a (nuF b N lo hi a k)) (c : ∀ I' v, v ≤ hi → fr wS I I' → mAt b N R I' (nx b N a) (k v (nx b N a)) → Q (some (.int (nI v))) ((fl, n1, n2, p, q, ad), I', J)) : mm_wc (d + 3) 184 [.ref 46, .int (nI lo), .int (nI hi)] ((fl, n1, n2, p, q, ad), I, J) Q := by
  rcases h with ⟨h, e⟩ | h
  · obtain ⟨hTp, ha, h13, h4, h5, h6, h7, h8⟩ := id h
    have hkl := tkK_lt b N a
    refine fx_184 ⟨fun _ => ?_, fun z => absurd h13 z⟩
    rw [h6, z_eq (by omega) (by decide)]
    refine ⟨fun e3 => ?_, fun e3 => ct_177 h (by decide) (by decide) (fun I' f' h' => ⟨_, _, rfl, rfl, c I' lo hlo f' (.inr ?_)⟩)⟩
    · have hv := tv_lt e3
      rw [h7 e3]
      refine ct_169 ⟨_, _, _, rfl, rfl, ?_⟩
      rw [bI_0, decide_eq_false_iff_not, z_lt (by omega) (by omega), z_lt (by omega) (by omega)]
      rw [nuF, if_pos e3] at e
      refine ⟨fun z => ct_176n h (fun I' f' h' => ⟨_, _, rfl, rfl, c I' (tv b N a) ?_ f' (.inl ⟨h', ?_⟩)⟩), fun z => ct_177 h (by decide) (by decide) (fun I' f' h' => ⟨_, _, rfl, rfl, c I' lo hlo f' (.inr ?_)⟩)⟩
      · omega
      · rw [if_pos (by omega)] at e; exact e
      · rw [if_neg (by omega)] at e; rw [← e]; exact h'
    · rw [nuF, if_neg e3] at e; rw [← e]; exact h'
  · exact fx_184 ⟨fun z => absurd z h.n13, fun _ => c I lo hlo fr.rf (.inr h)⟩
theorem ct_185_near {lo hi : Nat} {k : Nat → Nat → zE} (hlo : lo ≤ hi) (hhi : hi < 1000) (h : mAt b N R I a (wdF b N 1 a fun a1 => nuF b N lo hi a1 k)) (c : ∀ I' v, v ≤ hi → fr wS I I' → mAt b N R I' (nx b N (nx b N a)) (k v (nx b N (nx b N a))) → Q (some (.int (nI v))) ((fl, n1, n2, p, q, ad), I', J)) : mm_wc (d + 5) 185 [.ref 46, .ref 99, .int (nI lo), .int (nI hi)] ((fl, n1, n2, p, q, ad), I, J) Q :=
  fx_185_near (ct_180_near h (fun I1 f1 h1 => ⟨_, _, rfl, rfl, ct_184 hlo hhi h1 (fun I2 v hv f2 h2 => ⟨_, _, _, rfl, rfl, c I2 v hv (f1.tr f2) h2⟩)⟩))
theorem ct_185_wax {lo hi : Nat} {k : Nat → Nat → zE} (hlo : lo ≤ hi) (hhi : hi < 1000) (h : mAt b N R I a (wdF b N 2 a fun a1 => nuF b N lo hi a1 k)) (c : ∀ I' v, v ≤ hi → fr wS I I' → mAt b N R I' (nx b N (nx b N a)) (k v (nx b N (nx b N a))) → Q (some (.int (nI v))) ((fl, n1, n2, p, q, ad), I', J)) : mm_wc (d + 5) 185 [.ref 46, .ref 100, .int (nI lo), .int (nI hi)] ((fl, n1, n2, p, q, ad), I, J) Q :=
  fx_185_wax (ct_180_wax h (fun I1 f1 h1 => ⟨_, _, rfl, rfl, ct_184 hlo hhi h1 (fun I2 v hv f2 h2 => ⟨_, _, _, rfl, rfl, c I2 v hv (f1.tr f2) h2⟩)⟩))
theorem ct_185_at {lo hi : Nat} {k : Nat → Nat → zE} (hlo : lo ≤ hi) (hhi : hi < 1000) (h : mAt b N R I a (wdF b N 10 a fun a1 => nuF b N lo hi a1 k)) (c : ∀ I' v, v ≤ hi → fr wS I I' → mAt b N R I' (nx b N (nx b N a)) (k v (nx b N (nx b N a))) → Q (some (.int (nI v))) ((fl, n1, n2, p, q, ad), I', J)) : mm_wc (d + 5) 185 [.ref 46, .ref 108, .int (nI lo), .int (nI hi)] ((fl, n1, n2, p, q, ad), I, J) Q :=
  fx_185_at (ct_180_at h (fun I1 f1 h1 => ⟨_, _, rfl, rfl, ct_184 hlo hhi h1 (fun I2 v hv f2 h2 => ⟨_, _, _, rfl, rfl, c I2 v hv (f1.tr f2) h2⟩)⟩))
theorem ct_185_reach {lo hi : Nat} {k : Nat → Nat → zE} (hlo : lo ≤ hi) (hhi : hi < 1000) (h : mAt b N R I a (wdF b N 15 a fun a1 => nuF b N lo hi a1 k)) (c : ∀ I' v, v ≤ hi → fr wS I I' → mAt b N R I' (nx b N (nx b N a)) (k v (nx b N (nx b N a))) → Q (some (.int (nI v))) ((fl, n1, n2, p, q, ad), I', J)) : mm_wc (d + 5) 185 [.ref 46, .ref 113, .int (nI lo), .int (nI hi)] ((fl, n1, n2, p, q, ad), I, J) Q :=
  fx_185_reach (ct_180_reach h (fun I1 f1 h1 => ⟨_, _, rfl, rfl, ct_184 hlo hhi h1 (fun I2 v hv f2 h2 => ⟨_, _, _, rfl, rfl, c I2 v hv (f1.tr f2) h2⟩)⟩))
theorem ct_185_spread {lo hi : Nat} {k : Nat → Nat → zE} (hlo : lo ≤ hi) (hhi : hi < 1000) (h : mAt b N R I a (wdF b N 16 a fun a1 => nuF b N lo hi a1 k)) (c : ∀ I' v, v ≤ hi → fr wS I I' → mAt b N R I' (nx b N (nx b N a)) (k v (nx b N (nx b N a))) → Q (some (.int (nI v))) ((fl, n1, n2, p, q, ad), I', J)) : mm_wc (d + 5) 185 [.ref 46, .ref 114, .int (nI lo), .int (nI hi)] ((fl, n1, n2, p, q, ad), I, J) Q :=
  fx_185_spread (ct_180_spread h (fun I1 f1 h1 => ⟨_, _, rfl, rfl, ct_184 hlo hhi h1 (fun I2 v hv f2 h2 => ⟨_, _, _, rfl, rfl, c I2 v hv (f1.tr f2) h2⟩)⟩))
theorem ct_186 (h : mT b N a I) (k1 : ∀ I', tkK b N a = 44 → fr wS I I' → mT b N (nx b N a) I' → Q (some (.int (nI 1))) ((fl, n1, n2, p, q, ad), I', J)) (k0 : ¬ tkK b N a = 44 → Q (some (.int (nI 0))) ((fl, n1, n2, p, q, ad), I, J)) : mm_wc (d + 3) 186 [.ref 46] ((fl, n1, n2, p, q, ad), I, J) Q := by
  have hkl := tkK_lt b N a
  refine fx_186 ⟨fun z => absurd h.2.2.1 z, fun _ => ?_⟩
  rw [h.2.2.2.2.2.1, z_eq (by omega) (by decide)]
  exact ⟨fun e => ct_176n h (fun I' f' h' => ⟨_, _, rfl, rfl, k1 I' e f' h'⟩), k0⟩
theorem ct_187 {k : Nat → zE} (h : mAt b N R I a (sgF b N 44 a k)) (c : ∀ I', fr wS I I' → mAt b N R I' (nx b N a) (k (nx b N a)) → Q none ((fl, n1, n2, p, q, ad), I', J)) : mm_wc (d + 4) 187 [.ref 46] ((fl, n1, n2, p, q, ad), I, J) Q := by
  rcases h with ⟨h, e⟩ | h
  · refine fx_187 ⟨fun z => absurd h.2.2.1 z, fun _ => ct_186 h (fun I' z f' h' => ⟨_, _, _, rfl, rfl, fun _ => c I' f' (.inl ⟨h', ?_⟩), fun z => absurd z n10⟩) (fun z => ⟨_, _, _, rfl, rfl, fun z => absurd rfl z, fun _ => ct_177 h (by decide) (by decide) (fun I' f' h' => ⟨_, _, rfl, rfl, c I' f' (.inr ?_)⟩)⟩)⟩
    · rw [sgF, if_pos z] at e; exact e
    · rw [sgF, if_neg z] at e; rw [← e]; exact h'
  · exact fx_187 ⟨fun _ => c I fr.rf (.inr h), fun z => absurd z h.n13⟩
theorem ct_181 (h : mT b N a I) (k1 : isNm b N a → Q none ((fl, n1, n2, p, q, ad), I, J)) (k0 : ∀ I', ¬ isNm b N a → fr wS I I' → mFl (.error (1, a)) I' → Q none ((fl, n1, n2, p, q, ad), I', J)) : mm_wc (d + 3) 181 [.ref 46] ((fl, n1, n2, p, q, ad), I, J) Q := by
  have hkl := tkK_lt b N a
  have g90 : ¬ isNm b N a → mm_w Q (mm_wc (d + 2)) bk_181 90 [some (.ref 46), none] [] ((fl, n1, n2, p, q, ad), I, J) := fun z => fx_181k_90 (ct_177 h (by decide) (by decide) (fun I' f' h' => ⟨_, _, rfl, rfl, fx_181k_99 (k0 I' z f' h')⟩))
  have g72 : ¬ isNm b N a → mm_w Q (mm_wc (d + 2)) bk_181 72 [some (.ref 46), none] [] ((fl, n1, n2, p, q, ad), I, J) := fun z => by
    refine fx_181k_72 (fx_181k_77 ?_)
    rw [h.2.2.2.2.2.1, z_eq (by omega) (by decide)]
    exact ⟨fun _ => g90 z, fun _ => ⟨fun e => absurd e n10, fun _ => g90 z⟩⟩
  refine fx_181k (ct_178_cake h (fun w0 => ⟨_, _, _, rfl, rfl, fun _ => g72 (fun z => z.2 (.inl w0)), fun e => absurd e n10⟩) (fun w0 => ⟨_, _, _, rfl, rfl, fun e => absurd rfl e, fun _ => ?_⟩))
  refine ct_178_candle h (fun w1 => ⟨_, _, _, rfl, rfl, fun _ => g72 (fun z => z.2 (.inr (.inl w1))), fun e => absurd e n10⟩) (fun w1 => ⟨_, _, _, rfl, rfl, fun e => absurd rfl e, fun _ => ?_⟩)
  refine ct_178_place h (fun w2 => ⟨_, _, _, rfl, rfl, fun _ => g72 (fun z => z.2 (.inr (.inr (.inl w2)))), fun e => absurd e n10⟩) (fun w2 => ⟨_, _, _, rfl, rfl, fun e => absurd rfl e, fun _ => ?_⟩)
  refine ct_178_spot h (fun w3 => ⟨_, _, _, rfl, rfl, fun _ => g72 (fun z => z.2 (.inr (.inr (.inr (.inl w3))))), fun e => absurd e n10⟩) (fun w3 => ⟨_, _, _, rfl, rfl, fun e => absurd rfl e, fun _ => ?_⟩)
  refine ct_178_person h (fun w4 => ⟨_, _, _, rfl, rfl, fun _ => g72 (fun z => z.2 (.inr (.inr (.inr (.inr (.inl w4)))))), fun e => absurd e n10⟩) (fun w4 => ⟨_, _, _, rfl, rfl, fun e => absurd rfl e, fun _ => ?_⟩)
  refine ct_178_shaky h (fun w5 => ⟨_, _, _, rfl, rfl, fun _ => g72 (fun z => z.2 (.inr (.inr (.inr (.inr (.inr (.inl w5))))))), fun e => absurd e n10⟩) (fun w5 => ⟨_, _, _, rfl, rfl, fun e => absurd rfl e, fun _ => ?_⟩)
  refine ct_178_left h (fun w6 => ⟨_, _, _, rfl, rfl, fun _ => g72 (fun z => z.2 (.inr (.inr (.inr (.inr (.inr (.inr (.inl w6)))))))), fun e => absurd e n10⟩) (fun w6 => ⟨_, _, _, rfl, rfl, fun e => absurd rfl e, fun _ => ?_⟩)
  refine ct_178_none h (fun w7 => ⟨_, _, _, rfl, rfl, fun e => absurd e n10, fun _ => g72 (fun z => z.2 (.inr (.inr (.inr (.inr (.inr (.inr (.inr w7))))))))⟩) (fun w7 => ⟨_, _, _, rfl, rfl, fun _ => ?_, fun e => absurd rfl e⟩)
  refine fx_181k_77 ?_
  rw [h.2.2.2.2.2.1, z_eq (by omega) (by decide)]
  refine ⟨fun e => g90 (fun z => e z.1), fun e => ⟨fun _ => fx_181k_99 (k1 ⟨e, ?_⟩), fun z => absurd rfl z⟩⟩
  rintro (z | z | z | z | z | z | z | z)
  · exact w0 z
  · exact w1 z
  · exact w2 z
  · exact w3 z
  · exact w4 z
  · exact w5 z
  · exact w6 z
  · exact w7 z
end RD
