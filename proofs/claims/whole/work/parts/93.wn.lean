/-! the model's walk: the loop over breaths -/
section WN
variable {d n1 n2 : Nat} {fl : Nat → Bool} {p q : Bool} {ad : Nat → Nat} {J : mmJ} {Q : mmQ} {R F N K : Nat → Nat} {th cnt h s pl : Nat} {al qq dp : Nat → Nat} {tl L : Nat} {I3 : mmI}
theorem fa_ag {K R : Nat → Nat} (ag : agR R K) {a b : Nat} (ha : a < 5) (hb : b < 5) : fa R a b = fa K a b := by
  unfold fa
  rw [ag (46 + a) (by omega) (by omega) (by omega), ag (46 + b) (by omega) (by omega) (by omega), ag (51 + a) (by omega) (by omega) (by omega), ag (51 + b) (by omega) (by omega) (by omega)]
theorem wm_k (c : wC K h s cnt al qq dp tl L) (hpl : pl < K 4) (hC : mC I3 R F N th cnt al) (hq : mQ I3 qq dp tl) (ag : agR R K) (hz : ∀ b, b < nB K → ∀ m, vm K False m → zstp R th N (F b) m = zst K m b) (hLl : L < 20000) {r : Int32} {i0 a0 w : Nat} (hi : i0 < tl) (ha : a0 < K 4) (hwk : wk K h s pl (dp i0) (qq i0) a0 w) {Ik : mmI}
    (next : ∀ I', fr [(61, [])] I3 I' → (∀ j a, j ≤ i0 → a < K 4 → I' 61 (5 * std (qq j) + a) = Ik 61 (5 * std (qq j) + a)) → wI K h s pl cnt al qq dp tl L I' i0 (a0 + 1) 0 → mm_w Q (mm_wc (d + 3)) bk_250 327 [some (.ref 46), none, none, some (.int (nI L)), some (.int r), some (.int (nI i0)), some (.int (nI (std (qq i0)))), some (.int (nI a0)), none, none, none, none, none] [] ((fl, n1, n2, p, q, ad), I', J)) :
    ∀ n k, n + k = cnt → ∀ I', fr [(61, [])] I3 I' → (∀ j a, j ≤ i0 → a < K 4 → I' 61 (5 * std (qq j) + a) = Ik 61 (5 * std (qq j) + a)) → I' 61 (5 * std (qq i0) + a0) = nI w → wI K h s pl cnt al qq dp tl L I' i0 a0 k → mm_w Q (mm_wc (d + 3)) bk_250 196 [some (.ref 46), none, none, some (.int (nI L)), some (.int r), some (.int (nI i0)), some (.int (nI (std (qq i0)))), some (.int (nI a0)), some (.int (nI w)), some (.int (nI k)), none, none, none] [] ((fl, n1, n2, p, q, ad), I', J) := by
  obtain ⟨ok, c1, c2, c3, c4, c5, c6, c7, c8, c9, c10, c11, c12, c13, c14⟩ := id c
  have h4 := ok.p
  have e4 : R 4 = K 4 := ag 4 (by decide) (by decide) (by decide)
  have hBl := nB_le ok
  have hc := hC.2.2.1
  have hwl := (wk_le ok hpl _ _ _ _ hwk).2
  have hdi := c7 i0 hi
  have vi := c6 i0 hi
  have hsi := std_lt (vi.lt ok)
  have done : ∀ k I', (k = cnt ∨ L ≤ dp i0) → wI K h s pl cnt al qq dp tl L I' i0 a0 k → wI K h s pl cnt al qq dp tl L I' i0 (a0 + 1) 0 := fun k I' hx g => wI_wk g (fun i a k' d1 d2 d3 d4 d5 => .inl (by
    rcases d1 with z | ⟨z1, z2⟩
    · exact .inl z
    · refine .inr ⟨z1, ?_⟩
      rw [z1] at d3
      omega))
  intro n
  induction n with
  | zero =>
    intro k hk I' hf hfr hw g
    refine fx_250k_196 ?_
    rw [hf 46 32 rfl, hC.2.1, z_le (by omega) (by omega)]
    exact ⟨fun _ => next I' hf hfr (done k I' (.inl (by omega)) g), fun e => absurd (by omega) e⟩
  | succ n ih =>
    intro k hk I' hf hfr hw g
    have hC' : mC I' R F N th cnt al := ⟨hC.1.of (fun k _ => hf 49 k rfl) (fun k _ => hf 54 k rfl) (hf 46 27 rfl) (fun k _ => hf 53 k rfl), by rw [hf 46 32 rfl]; exact hC.2.1, hc, fun k hk => by rw [hf 57 k rfl]; exact hC.2.2.2.1 k hk, hC.2.2.2.2⟩
    have hak := c10 k (by omega)
    have hkn : vp_in (nI k) 320 := z_in (by omega) (by decide)
    refine fx_250k_196 ?_
    rw [hf 46 32 rfl, hC.2.1, z_le (by omega) (by omega), z_ix (by omega), hf 58 _ rfl, hq.2.2.1 i0 hi, z_le (by omega) (by omega), z_ix (by omega), hC'.2.2.2.1 k (by omega)]
    refine ⟨fun e => absurd e (by omega), fun _ => ⟨z_in hsi (by decide), fun e => next I' hf hfr (done k I' (.inr e) g), fun e => ⟨hkn, ct_238 hC'.1 (vi.lt ok) (hC.2.2.2.2 k (by omega)) ⟨_, _, _, rfl, rfl, hkn, ?_⟩⟩⟩⟩
    rw [hz _ hak.1 _ vi, hC'.2.2.2.1 k (by omega)]
    have hp : al k / 16 % K 4 < K 4 := Nat.mod_lt _ (by omega)
    refine ct_208 hC'.1.1 (by omega) ⟨_, _, _, rfl, rfl, hkn, ?_⟩
    rw [hC'.2.2.2.1 k (by omega)]
    refine ct_208 hC'.1.1 (by omega) ⟨_, _, _, rfl, rfl, ?_⟩
    rw [e4]
    refine ct_249 hC'.1.1 (by omega) (by omega) ⟨_, _, _, rfl, rfl, ?_⟩
    rw [fa_ag ag (by omega) (by omega)]
    have hfl := fa_lt ok ha hp
    obtain ⟨j, hj, ej, edj⟩ := c9 i0 hi (by omega) k (by omega)
    have hsj := std_lt ((c6 j hj).lt ok)
    have hdj := c7 j hj
    -- not taken
    have skip : ((dp j = dp i0 + 1 → ∃ w', I' 61 (5 * std (qq j) + al k / 16 % K 4) = nI w' ∧ w' ≤ w + fa K a0 (al k / 16 % K 4))) → mm_w Q (mm_wc (d + 3)) bk_250 321 [some (.ref 46), none, none, some (.int (nI L)), some (.int r), some (.int (nI i0)), some (.int (nI (std (qq i0)))), some (.int (nI a0)), some (.int (nI w)), some (.int (nI k)), none, none, none] [] ((fl, n1, n2, p, q, ad), I', J) := fun hs => by
      refine fx_250k_321 ?_
      rw [z_add]
      refine ih (k + 1) (by omega) I' hf hfr hw ⟨g.1, g.2.1, fun i a k' w2 j2 d1 d2 d3 d4 d5 d6 d7 d8 d9 d10 => ?_⟩
      by_cases en : wD i0 a0 k i a k'
      · exact g.2.2 i a k' w2 j2 en d2 d3 d4 d5 d6 d7 d8 d9 d10
      · have e3 : i = i0 ∧ a = a0 ∧ k' = k := by
          unfold wD at d1 en
          omega
        obtain ⟨x1, x2, x3⟩ := e3
        subst x1; subst x2; subst x3
        have ejj : j2 = j := c5 j2 j d8 hj (by rw [d9, ej])
        subst ejj
        rw [hw, z_eq (by omega) d7] at d6
        rw [← d6]
        exact hs d10
    have take : dp j = dp i0 + 1 → (I' 61 (5 * std (qq j) + al k / 16 % K 4) = -1 ∨ ∃ w', I' 61 (5 * std (qq j) + al k / 16 % K 4) = nI w' ∧ w' < 2 ^ 31 ∧ w + fa K a0 (al k / 16 % K 4) < w') → mm_w Q (mm_wc (d + 3)) bk_250 312 [some (.ref 46), none, none, some (.int (nI L)), some (.int r), some (.int (nI i0)), some (.int (nI (std (qq i0)))), some (.int (nI a0)), some (.int (nI w)), some (.int (nI k)), none, some (.int (nI (5 * std (qq j) + al k / 16 % K 4))), some (.int (nI (w + fa K a0 (al k / 16 % K 4))))] [] ((fl, n1, n2, p, q, ad), I', J) := fun ed old => by
      refine fx_250k_312 ?_
      rw [z_ix (by omega)]
      refine ⟨z_in (by omega) (by decide), fx_250k_321 ?_⟩
      rw [z_add]
      have ne : ∀ j' a, j' ≤ i0 → a < K 4 → 5 * std (qq j') + a ≠ 5 * std (qq j) + al k / 16 % K 4 := fun j' a h1 h2 e' => by
        have e1 : std (qq j') = std (qq j) := by omega
        have e2 := c5 j' j (by omega) hj (std_inj ((c6 j' (by omega)).lt ok) ((c6 j hj).lt ok) e1)
        have := c8 j' i0 h1 hi
        rw [e2] at this; omega
      refine ih (k + 1) (by omega) _ (hf.up rfl) (fun j' a h1 h2 => by rw [up_k (ne j' a h1 h2)]; exact hfr j' a h1 h2) (by rw [up_k (ne i0 a0 (Nat.le_refl _) ha)]; exact hw) ?_
      exact wI_up c hpl g hi (by omega) ha (by omega) hw hwk (by omega) hj ej ed old
    rw [← ej, z_ix (by omega), hf 58 _ rfl, hq.2.2.1 j hj, hf 58 _ rfl, hq.2.2.1 i0 hi, z_add (dp i0) 1, z_eq (by omega) (by omega), z_mul, z_add (5 * std (qq j)), z_ix (by omega), z_add w]
    have hvi : vp_in (nI (5 * std (qq j) + al k / 16 % K 4)) 81920 := z_in (by omega) (by decide)
    refine ⟨z_in hsj (by decide), z_in hsi (by decide), fun e5 => skip (fun y => absurd y e5), fun e5 => ⟨hvi, fun e6 => take e5 (.inl ?_), fun e6 => ⟨hvi, fun e7 => skip (fun _ => ?_), fun e7 => take e5 (.inr ?_)⟩⟩⟩
    all_goals
      rcases g.1 j _ hj hp with z | ⟨w', z1, z2⟩
    · exact z
    · have := (wk_le ok hpl _ _ _ _ z2).2
      rw [z1, z_lt (by omega) (by decide)] at e6; omega
    · exact absurd (by rw [z]; exact nm1_lt) e6
    · have := (wk_le ok hpl _ _ _ _ z2).2
      rw [z1, z_le (by omega) (by omega)] at e7
      exact ⟨w', z1, e7⟩
    · exact absurd (by rw [z]; exact nm1_lt) e6
    · have := (wk_le ok hpl _ _ _ _ z2).2
      rw [z1, z_le (by omega) (by omega)] at e7
      exact ⟨w', z1, by omega, by omega⟩
end WN
