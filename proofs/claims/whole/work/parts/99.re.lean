/-! reading: the model's names -/
/-- the names that are told, in the model -/
def mNm (b : Nat → Nat) (nc : Nat → Nat) (I : mmI) : Prop := ∀ n, n < 23 → (nc n = 0 ∧ I 50 (72 + n) = nI 0) ∨ ∃ c L, 1 ≤ L ∧ L ≤ 8 ∧ (∀ j, j < L → 97 ≤ b (c + j) ∧ b (c + j) ≤ 122) ∧ nc n = cdW b c L ∧ I 50 (72 + n) = nI L ∧ ∀ j, j < L → I 50 (95 + 8 * n + j) = nI (b (c + j))
def mDr (b : Nat → Nat) (D nc : Nat → Nat) (I : mmI) : Prop := (∀ k, k < 72 → I 50 k = nI (D k)) ∧ mNm b nc I
theorem mNm.of {b nc : Nat → Nat} {I I' : mmI} (h : mNm b nc I) (hf : ∀ k, 72 ≤ k → I' 50 k = I 50 k) : mNm b nc I' := by
  intro n hn
  rw [hf (72 + n) (by omega)]
  rcases h n hn with z | ⟨c, L, h1, h2, h3, h4, h5, h6⟩
  · exact .inl z
  · exact .inr ⟨c, L, h1, h2, h3, h4, h5, fun j hj => by rw [hf _ (by omega)]; exact h6 j hj⟩
theorem mNm.fr {b nc : Nat → Nat} {I I' : mmI} {L : List (Nat × List Nat)} (h : mNm b nc I) (hf : fr L I I') (h1 : noR 50 51 L = true) : mNm b nc I' := h.of (fun k _ => hf 50 k (inS_no h1 (by decide) (by decide)))
theorem cdW_pos {b : Nat → Nat} {a k : Nat} (hk : 1 ≤ k) (h : ∀ j, j < k → 97 ≤ b (a + j) ∧ b (a + j) ≤ 122) : 0 < cdW b a k := by
  obtain ⟨j, rfl⟩ : ∃ j, k = j + 1 := ⟨k - 1, by omega⟩
  have := h j (by omega)
  rw [cdW]; omega
theorem cod_pos {b : Nat → Nat} {N a : Nat} (h : tkK b N a = 2) : 0 < cod b N a := by
  obtain ⟨-, -, -, t1, -, -, t2⟩ := tk_w h
  exact cdW_pos t1 t2
section RE
variable {d n1 n2 : Nat} {fl : Nat → Bool} {p q : Bool} {ad : Nat → Nat} {I : mmI} {J : mmJ} {Q : mmQ} {b nc D : Nat → Nat} {N a : Nat} {R : zE}
/-- comparing letters: from x on -/
theorem fi_44 {n : Nat} (hn : n < 23) (h : mT b N a I) (hK : tkK b N a = 2) (kno : mm_w Q (mm_wc d) bk_182 2 [some (.ref 46), some (.int (nI n + nI 1)), none, none] [] ((fl, n1, n2, p, q, ad), I, J)) :
    mm_w Q (mm_wc d) bk_182 44 [some (.ref 46), some (.int (nI n)), some (.int (nI 0)), some (.int (nI 0))] [] ((fl, n1, n2, p, q, ad), I, J) := by
  obtain ⟨-, -, -, -, -, -, -, h8⟩ := h
  obtain ⟨g8, gk⟩ := h8 hK
  obtain ⟨-, -, -, t1, t8, -, tl⟩ := tk_w hK
  refine fx_182k_44 ?_
  rw [g8, z_le (by omega) (by decide)]
  exact ⟨fun e => by omega, fun _ => ⟨fun _ => fx_182k_91 ⟨fun _ => kno, fun e => absurd rfl e⟩, fun e => absurd rfl e⟩⟩
theorem fi_lp {n c : Nat} (hn : n < 23) (h : mT b N a I) (hK : tkK b N a = 2) (hl : ∀ j, j < tkE b N a - a → 97 ≤ b (c + j) ∧ b (c + j) ≤ 122) (hI : ∀ j, j < tkE b N a - a → I 50 (95 + 8 * n + j) = nI (b (c + j))) (kno : (¬ ∀ j, j < tkE b N a - a → b (c + j) = b (a + j)) → mm_w Q (mm_wc d) bk_182 2 [some (.ref 46), some (.int (nI n + nI 1)), none, none] [] ((fl, n1, n2, p, q, ad), I, J)) (kyes : (∀ j, j < tkE b N a - a → b (c + j) = b (a + j)) → Q (some (.int (nI n))) ((fl, n1, n2, p, q, ad), I, J)) :
    ∀ r j, r + j = tkE b N a - a → (∀ k, k < j → b (c + k) = b (a + k)) → mm_w Q (mm_wc d) bk_182 44 [some (.ref 46), some (.int (nI n)), some (.int (nI 1)), some (.int (nI j))] [] ((fl, n1, n2, p, q, ad), I, J) := by
  obtain ⟨-, -, -, -, -, -, -, h8⟩ := h
  obtain ⟨g8, gk⟩ := h8 hK
  obtain ⟨-, -, -, t1, t8, -, tl⟩ := tk_w hK
  intro r
  induction r with
  | zero =>
    intro j hj hx
    refine fx_182k_44 ?_
    rw [g8, z_le (by omega) (by omega)]
    refine ⟨fun _ => fx_182k_91 ⟨fun e => absurd e n10, fun _ => kyes (fun k hk => hx k (by omega))⟩, fun e => absurd (by omega) e⟩
  | succ r ih =>
    intro j hj hx
    have b1 := hl j (by omega)
    have b2 := tl j (by omega)
    refine fx_182k_44 ?_
    rw [g8, z_le (by omega) (by omega), z_mul, z_add, z_add, z_ix (a := 95 + 8 * n + j) (by omega), z_ix (a := j) (by omega), hI j (by omega), gk j (by omega), z_eq (a := b (c + j)) (by omega) (by omega)]
    refine ⟨fun e => by omega, fun _ => ⟨fun e => absurd e n10, fun _ => ⟨z_in (by omega) (by decide), z_in (by omega) (by decide), fun e => fx_182k_84 ?_, fun e => fx_182k_84 ?_⟩⟩⟩
    · have g8' := g8
      refine fx_182k_44 ?_
      rw [g8, z_add, z_le (by omega) (by omega)]
      exact ⟨fun _ => fx_182k_91 ⟨fun _ => kno (fun z => e (z j (by omega))), fun e => absurd rfl e⟩, fun _ => ⟨fun _ => fx_182k_91 ⟨fun _ => kno (fun z => e (z j (by omega))), fun e => absurd rfl e⟩, fun e => absurd rfl e⟩⟩
    · rw [z_add]
      refine ih (j + 1) (by omega) (fun k hk => ?_)
      by_cases ek : k = j
      · subst ek; exact e
      · exact hx k (by omega)
theorem ct_182 (h : mT b N a I) (hK : tkK b N a = 2) (hN : mNm b nc I) (k1 : ∀ n, n < 23 → nc n = cod b N a → Q (some (.int (nI n))) ((fl, n1, n2, p, q, ad), I, J)) (k0 : (∀ n, n < 23 → nc n ≠ cod b N a) → Q (some (.int (-1))) ((fl, n1, n2, p, q, ad), I, J)) : mm_wc (d + 1) 182 [.ref 46] ((fl, n1, n2, p, q, ad), I, J) Q := by
  have hcp := cod_pos hK
  obtain ⟨-, -, -, t1, t8, -, tl⟩ := tk_w hK
  have g8 := (h.2.2.2.2.2.2.2 hK).1
  have lp : ∀ r n, r + n = 23 → (∀ m, m < n → nc m ≠ cod b N a) → mm_w Q (mm_wc d) bk_182 2 [some (.ref 46), some (.int (nI n)), none, none] [] ((fl, n1, n2, p, q, ad), I, J) := by
    intro r
    induction r with
    | zero =>
      intro n hn hx
      refine fx_182k_2 ?_
      rw [z_le (by decide) (by omega)]
      exact ⟨fun _ => k0 (fun m hm => hx m (by omega)), fun e => absurd (by omega) e⟩
    | succ r ih =>
      intro n hn hx
      have nx' : nc n ≠ cod b N a → mm_w Q (mm_wc d) bk_182 2 [some (.ref 46), some (.int (nI n + nI 1)), none, none] [] ((fl, n1, n2, p, q, ad), I, J) := fun hne => by
        rw [z_add]
        refine ih (n + 1) (by omega) (fun m hm => ?_)
        by_cases e : m = n
        · subst e; exact hne
        · exact hx m (by omega)
      refine fx_182k_2 ?_
      rw [z_le (by decide) (by omega), z_add, z_ix (by omega), g8]
      refine ⟨fun e => by omega, fun _ => ⟨z_in (by omega) (by decide), ?_⟩⟩
      rcases hN n (by omega) with ⟨e0, z0⟩ | ⟨c, L, l1, l2, l3, l4, l5, l6⟩
      · rw [z0]
        exact ⟨fun _ => fx_182k_40 (fx_182k_41 (fi_44 (by omega) h hK (nx' (by omega)))), fun e => absurd (by rw [z_le (by decide) (by decide)]; exact Nat.le_refl _) e⟩
      · rw [l5, z_le (by omega) (by decide), z_eq (a := L) (by omega) (by omega)]
        refine ⟨fun e => by omega, fun _ => ⟨z_in (by omega) (by decide), fun e => ?_, fun e => ?_⟩⟩
        · refine fx_182k_40 (fx_182k_41 (fi_44 (by omega) h hK (nx' (fun z => e ?_))))
          rw [l4] at z
          exact (cdW_inj L _ l3 tl z).1
        · subst e
          refine fx_182k_41 (fi_lp (c := c) (by omega) h hK l3 l6 (fun z => nx' (fun y => z ?_)) (fun z => k1 n (by omega) ?_) (tkE b N a - a) 0 (by omega) (fun k hk => absurd hk (Nat.not_lt_zero k)))
          · rw [l4] at y
            exact (cdW_inj _ _ l3 tl y).2
          · rw [l4]; exact cdW_cg _ z
  exact fx_182k (lp 23 0 rfl (fun m hm => absurd hm (Nat.not_lt_zero m)))
abbrev nmS : List (Nat × List Nat) := [(46, [4, 5, 6, 7, 8, 9, 10, 13]), (48, []), (50, [])]
/-- a new name; the row below the names is as it was -/
theorem ct_183 {n : Nat} {k : Nat → (Nat → Nat) → zE} (hn : n < 23) (h : mT b N a I) (hN : mNm b nc I) (e : nmF b N n a nc k = R) (c : ∀ I' nc', fr nmS I I' → (∀ k, k < 72 → I' 50 k = I 50 k) → ((mT b N (nx b N a) I' ∧ k (nx b N a) nc' = R ∧ mNm b nc' I') ∨ mFl R I') → Q none ((fl, n1, n2, p, q, ad), I', J)) : mm_wc (d + 4) 183 [.ref 46, .int (nI n)] ((fl, n1, n2, p, q, ad), I, J) Q := by
  refine fx_183k ⟨fun _ => ct_181 h (fun z => ⟨_, _, rfl, rfl, ?_⟩) (fun I' z f' h' => ⟨_, _, rfl, rfl, ?_⟩), fun z => absurd h.2.2.1 z⟩
  · have hK := z.1
    rw [nmF, if_pos z] at e
    refine ⟨fun y => absurd h.2.2.1 y, fun _ => ct_182 h hK hN (fun m hm em => ⟨_, _, _, rfl, rfl, fun y => ?_, fun _ => ct_177 h (by decide) (by decide) (fun I' f' h' => ⟨_, _, rfl, rfl, ?_⟩)⟩) (fun hno => ⟨_, _, _, rfl, rfl, fun _ => ?_, fun y => absurd nm1_lt y⟩)⟩
    · rw [z_lt (by omega) (by decide)] at y; omega
    · rw [if_pos ⟨m, hm, em⟩] at e
      rw [e] at h'
      exact fx_183k_35 ⟨fun y => absurd y h'.n13, fun _ => c I' nc (f'.sub rfl) (fun k _ => f' 50 k rfl) (.inr h')⟩
    · rw [if_neg (fun ⟨m, hm, em⟩ => hno m hm em)] at e
      obtain ⟨-, -, -, t1, t8, -, tl⟩ := tk_w hK
      obtain ⟨g8, gk⟩ := h.2.2.2.2.2.2.2 hK
      have lp : ∀ r j, r + j = tkE b N a - a → ∀ I', fr [(50, [])] I I' → (∀ x, x < 95 + 8 * n → I' 50 x = I 50 x) → (∀ x, 103 + 8 * n ≤ x → I' 50 x = I 50 x) → (∀ i, i < j → I' 50 (95 + 8 * n + i) = nI (b (a + i))) → mm_w Q (mm_wc (d + 3)) bk_183 45 [some (.ref 46), some (.int (nI n)), some (.int (nI j))] [] ((fl, n1, n2, p, q, ad), I', J) := by
        intro r
        induction r with
        | zero =>
          intro j hj I' f1 h1 h2 h3
          refine fx_183k_45 ?_
          rw [f1 46 8 rfl, g8, z_le (by omega) (by omega), z_add, z_ix (by omega)]
          refine ⟨fun _ => ⟨z_in (by omega) (by decide), ?_⟩, fun y => absurd (by omega) y⟩
          have f2 : fr [(50, [])] I (mm_up I' 50 (72 + n) (nI (tkE b N a - a))) := f1.up rfl
          refine ct_176n (h.fr f2 ⟨rfl, rfl, rfl, rfl, rfl, rfl, rfl, rfl⟩ rfl) (fun I3 f3 h4 => ⟨_, _, rfl, rfl, c I3 (up1 nc n (cod b N a)) ((f2.sub rfl).tr (f3.sub rfl)) (fun x hx => ?_) (.inl ⟨h4, e, fun m hm => ?_⟩)⟩)
          · rw [f3 50 x rfl, up_k (by omega)]; exact h1 x (by omega)
          · rw [f3 50 (72 + m) rfl]
            by_cases em : m = n
            · subst em
              refine .inr ⟨a, tkE b N a - a, t1, t8, tl, by unfold up1; rw [if_pos rfl]; rfl, up_s _ _ _ _, fun i hi => ?_⟩
              rw [f3 50 _ rfl, up_k (by omega)]; exact h3 i (by omega)
            · rw [up_k (by omega), h1 _ (by omega)]
              rcases hN m hm with ⟨y1, y2⟩ | ⟨c', L, y1, y2, y3, y4, y5, y6⟩
              · exact .inl ⟨by unfold up1; rw [if_neg em]; exact y1, y2⟩
              · refine .inr ⟨c', L, y1, y2, y3, by unfold up1; rw [if_neg em]; exact y4, y5, fun i hi => ?_⟩
                rw [f3 50 _ rfl, up_k (by omega)]
                rcases Nat.lt_or_ge m n with w | w
                · rw [h1 _ (by omega)]; exact y6 i hi
                · rw [h2 _ (by omega)]; exact y6 i hi
        | succ r ih =>
          intro j hj I' f1 h1 h2 h3
          refine fx_183k_45 ?_
          rw [f1 46 8 rfl, g8, z_le (by omega) (by omega), z_mul, z_add, z_add, z_add, z_add, z_ix (a := 95 + 8 * n + j) (by omega), z_ix (a := j) (by omega), f1 48 j rfl, gk j (by omega)]
          refine ⟨fun y => by omega, fun _ => ⟨z_in (by omega) (by decide), z_in (by omega) (by decide), ih (j + 1) (by omega) _ (f1.up rfl) (fun x hx => ?_) (fun x hx => ?_) (fun i hi => ?_)⟩⟩
          · rw [up_k (by omega)]; exact h1 x hx
          · rw [up_k (by omega)]; exact h2 x hx
          · by_cases ei : i = j
            · subst ei; rw [up_s]
            · rw [up_k (by omega)]; exact h3 i (by omega)
      exact fx_183k_35 ⟨fun _ => lp (tkE b N a - a) 0 (by omega) I fr.rf (fun _ _ => rfl) (fun _ _ => rfl) (fun i hi => absurd hi (Nat.not_lt_zero i)), fun y => absurd h.2.2.1 y⟩
  · rw [nmF, if_neg z] at e
    rw [e] at h'
    exact ⟨fun _ => fx_183k_35 ⟨fun y => absurd y h'.n13, fun _ => c I' nc (f'.sub rfl) (fun k _ => f' 50 k rfl) (.inr h')⟩, fun y => absurd y h'.n13⟩
end RE
