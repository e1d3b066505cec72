/-! the class's walk: one moment's cells -/
section WE
variable {d n1 n2 : Nat} {b1 b2 p q : Bool} {ad : Nat → Nat} {J : mmJ} {Q : mmQ} {K : Nat → Nat} {h s cnt : Nat} {al qq dp : Nat → Nat} {tl hd f L : Nat} {I0 : mmI}
theorem cW_of {I I' : mmI} {j a : Nat} (g : cW K h qq dp L I j a) (e : I' 74 (j * 5 + a) = I 74 (j * 5 + a)) : cW K h qq dp L I' j a := by
  obtain ⟨c, c1, c2⟩ := g
  exact ⟨c, by rw [e]; exact c1, c2⟩
theorem ct_98 (g : pW K h s cnt al qq dp tl hd f L) (hK : cK I0 p K) (hD : bD I0 K) (hms : I0 6 13 = nI 0) (hq : cQ I0 qq dp tl) (hh : h < K 6) {i : Nat} (hi : i < tl) (hdi : dp i < L) (hc : ∀ j a, i < j → j < tl → a < K 4 → cW K h qq dp L I0 j a) (k : ∀ I, fr [(74, []), (75, [])] I0 I → (∀ z, z < i * 5 ∨ i * 5 + 5 ≤ z → I 74 z = I0 74 z) → (∀ a, a < K 4 → cW K h qq dp L I i a) → Q none ((mm_fl true b1 b2, n1, n2, p, q, ad), I, J)) : mm_wc (d + 4) 98 [.ref 70, .int (nI i), .int (nI h)] ((mm_fl true b1 b2, n1, n2, p, q, ad), I0, J) Q := by
  obtain ⟨g1, g2, g3, g4, g5, g6, g7, g8, g9, g10, g11, ok⟩ := id g
  have h4 := ok.p
  have qf : ∀ I, fr [(74, []), (75, [])] I0 I → cQ I qq dp tl := fun I hf => ⟨by rw [hf 70 5 rfl]; exact hq.1, fun i hi => by rw [hf 72 i rfl]; exact hq.2.1 i hi, fun i hi => by rw [hf 73 i rfl]; exact hq.2.2.1 i hi, fun i hi => by rw [hf 71 _ rfl]; exact hq.2.2.2.1 i hi, fun s hs hn => by rw [hf 71 s rfl]; exact hq.2.2.2.2 s hs hn⟩
  -- the inner least
  have inn : ∀ I (c5 : Nat → Nat) a, a < K 4 → fr [(74, []), (75, [])] I0 I → (∀ a', a' < K 4 → I 75 a' = nI (c5 a') ∧ lP2 K h (L - dp i - 1) (qq i) a' 16 (c5 a')) → (∀ c, lW K h (L - dp i) (qq i) a c → mm_w Q (mm_wc (d + 3)) bk_98 47 [some (.ref 70), some (.int (nI i)), none, some (.int (nI (K 4))), some (.int (nI (a + 1))), none, none] [] ((mm_fl true b1 b2, n1, n2, p, q, ad), mm_up I 74 (i * 5 + a) (nI c), J)) → ∀ n a', n + a' = K 4 → ∀ c, c ≤ 1000000 → (∀ b w1, b < nB K → b / 16 / K 4 = h → b / 16 % K 4 < a' → ∀ m' e', wf K h (L - dp i - 1) (zst K (qq i) b) (b / 16 % K 4) m' e' w1 → m' / 8 = 0 → c ≤ fa K a (b / 16 % K 4) + w1) → (c = 1000000 ∨ ∃ m' e', wf K h (L - dp i) (qq i) a m' e' c ∧ m' / 8 = 0) → mm_w Q (mm_wc (d + 3)) bk_98 60 [some (.ref 70), some (.int (nI i)), none, some (.int (nI (K 4))), some (.int (nI a)), some (.int (nI c)), some (.int (nI a'))] [] ((mm_fl true b1 b2, n1, n2, p, q, ad), I, J) := by
    intro I c5 a ha hf h5 nx n
    have eL : L - dp i = (L - dp i - 1) + 1 := by omega
    induction n with
    | zero =>
      intro a' hn c c1 c2 c3
      refine fx_98_60 ?_
      rw [z_le (by omega) (by omega), z_mul, z_add (i * 5), z_ix (by omega), z_add a 1]
      refine ⟨fun _ => ⟨z_in (by omega) (by decide), nx c ⟨c1, fun m' e' w hw h0 => ?_, c3⟩⟩, fun e => absurd (by omega) e⟩
      rw [eL] at hw
      obtain ⟨b, w1, y1, y2, y3, y4⟩ := hw
      rw [y4]
      exact c2 b w1 y1 y2 (by have := Nat.mod_lt (b / 16) (show 0 < K 4 by omega); omega) m' e' y3 h0
    | succ n ih =>
      intro a' hn c c1 c2 c3
      have ha' : a' < K 4 := by omega
      have hf5 := fa_lt ok ha ha'
      obtain ⟨z1, z2, z3, z4⟩ := h5 a' ha'
      refine fx_98_60 ?_
      rw [z_le (by omega) (by omega)]
      refine ⟨fun e => absurd e (by omega), fun _ => ct_30 (d := d + 1) (hK.fr hf rfl) ha ha' ⟨_, _, _, rfl, rfl, z_in (by omega) (by decide), ?_⟩⟩
      rw [z_ix (by omega), z1, z_add]
      refine ct_1002 ⟨_, _, _, rfl, rfl, ?_⟩
      rw [z_add]
      by_cases e : fa K a a' + c5 a' < c
      · rw [if_pos (by rw [z_lt (by omega) (by omega)]; exact e)]
        refine ih (a' + 1) (by omega) _ (by omega) (fun b w1 y1 y2 y3 m' e' y4 y5 => ?_) ?_
        · by_cases ea : b / 16 % K 4 = a'
          · rw [ea] at y4 ⊢
            have := z3 b y1 y2 ea (Nat.mod_lt _ (by decide)) m' e' w1 y4 y5
            omega
          · have := c2 b w1 y1 y2 (by omega) m' e' y4 y5; omega
        · obtain ⟨b, y1, y2, y3, m', e', y4, y5⟩ := z4.resolve_left (by omega)
          refine .inr ⟨m', e', ?_, y5⟩
          rw [eL]
          exact ⟨b, c5 a', y1, y2, by rw [y3]; exact y4, by rw [y3]⟩
      · rw [if_neg (by rw [z_lt (by omega) (by omega)]; exact e)]
        refine ih (a' + 1) (by omega) c c1 (fun b w1 y1 y2 y3 m' e' y4 y5 => ?_) c3
        by_cases ea : b / 16 % K 4 = a'
        · rw [ea] at y4 ⊢
          have := z3 b y1 y2 ea (Nat.mod_lt _ (by decide)) m' e' w1 y4 y5
          omega
        · exact c2 b w1 y1 y2 (by omega) m' e' y4 y5
  have mid : ∀ n a, n + a = K 4 → ∀ I (c5 : Nat → Nat), fr [(74, []), (75, [])] I0 I → (∀ z, z < i * 5 ∨ i * 5 + 5 ≤ z → I 74 z = I0 74 z) → (∀ a', a' < K 4 → I 75 a' = nI (c5 a') ∧ lP2 K h (L - dp i - 1) (qq i) a' 16 (c5 a')) → (∀ a', a' < a → cW K h qq dp L I i a') → mm_w Q (mm_wc (d + 3)) bk_98 47 [some (.ref 70), some (.int (nI i)), none, some (.int (nI (K 4))), some (.int (nI a)), none, none] [] ((mm_fl true b1 b2, n1, n2, p, q, ad), I, J) := by
    intro n
    induction n with
    | zero =>
      intro a hn I c5 hf ho h5 hd
      refine fx_98_47 ?_
      rw [z_le (by omega) (by omega)]
      exact ⟨fun _ => k I hf ho (fun a' ha' => hd a' (by omega)), fun e => absurd (by omega) e⟩
    | succ n ih =>
      intro a hn I c5 hf ho h5 hd
      refine fx_98_47 ?_
      rw [z_le (by omega) (by omega)]
      refine ⟨fun e => absurd e (by omega), fun _ => inn I c5 a (by omega) hf h5 (fun c hl => ih (a + 1) (by omega) _ c5 (hf.up rfl) (fun z hz => by rw [up_k (by omega)]; exact ho z hz) (fun a' ha' => by rw [up_c (by decide)]; exact h5 a' ha') (fun a' ha' => ?_)) (K 4) 0 (by omega) 1000000 (Nat.le_refl _) (fun b w1 _ _ y3 => absurd y3 (Nat.not_lt_zero _)) (.inl rfl)⟩
      by_cases e : a' = a
      · subst e; exact ⟨c, up_s _ _ _ _, hl.1, fun _ => hl⟩
      · exact cW_of (hd a' (by omega)) (up_k (by omega))
  have fst : ∀ n a, n + a = K 4 → ∀ I (c5 : Nat → Nat), fr [(75, [])] I0 I → (∀ a', a' < a → I 75 a' = nI (c5 a') ∧ lP2 K h (L - dp i - 1) (qq i) a' 16 (c5 a')) → mm_w Q (mm_wc (d + 3)) bk_98 17 [some (.ref 70), some (.int (nI i)), some (.int (nI h)), some (.int (nI (K 4))), some (.int (nI a)), none, none] [] ((mm_fl true b1 b2, n1, n2, p, q, ad), I, J) := by
    intro n
    induction n with
    | zero =>
      intro a hn I c5 hf h5
      refine fx_98_17 ?_
      rw [z_le (by omega) (by omega)]
      exact ⟨fun _ => mid (K 4) 0 (by omega) I c5 (hf.sub rfl) (fun z _ => hf 74 z rfl) (fun a' ha' => h5 a' (by omega)) (fun a' ha' => absurd ha' (Nat.not_lt_zero _)), fun e => absurd (by omega) e⟩
    | succ n ih =>
      intro a hn I c5 hf h5
      refine fx_98_17 ?_
      rw [z_le (by omega) (by omega)]
      refine ⟨fun e => absurd e (by omega), fun _ => ct_99 g (hK.fr hf rfl) (hD.fr hf rfl rfl rfl rfl) (by rw [hf 6 13 rfl]; exact hms) (qf I (hf.sub rfl)) hh hi hdi (by omega) (fun j y1 y2 => cW_of (hc j a y1 y2 (by omega)) (hf 74 _ rfl)) (fun c hl => ⟨_, _, _, rfl, rfl, z_in (by omega) (by decide), ?_⟩)⟩
      rw [z_ix (by omega), z_add]
      refine ih (a + 1) (by omega) _ (ap c5 a c) (hf.up rfl) (fun a' ha' => ?_)
      by_cases e : a' = a
      · subst e; rw [up_s, ap_eq]; exact ⟨rfl, hl⟩
      · rw [up_k e]
        have : ap c5 a c a' = c5 a' := ap_lt (by omega)
        rw [this]; exact h5 a' (by omega)
  refine fx_98 ?_
  rw [hK.2.2.1]
  exact fst (K 4) 0 (by omega) I0 (fun _ => 0) fr.rf (fun a' ha' => absurd ha' (Nat.not_lt_zero _))
end WE
