/-! the class's walk: the best way on from one place -/
/-- c is the least walking of n breaths on from (m, a), or 1000000 -/
def lW (K : Nat → Nat) (h n m a c : Nat) : Prop := c ≤ 1000000 ∧ (∀ m' a' w, wf K h n m a m' a' w → m' / 8 = 0 → c ≤ w) ∧ (c = 1000000 ∨ ∃ m' a', wf K h n m a m' a' c ∧ m' / 8 = 0)
def cW (K : Nat → Nat) (h : Nat) (qq dp : Nat → Nat) (L : Nat) (I : mmI) (j a : Nat) : Prop := ∃ c, I 74 (j * 5 + a) = nI c ∧ c ≤ 1000000 ∧ (dp j ≤ L → lW K h (L - dp j) (qq j) a c)
/-- the least by the breaths blown at pl -/
def lP2 (K : Nat → Nat) (h n m pl W c : Nat) : Prop := c ≤ 1000000 ∧ (∀ b, b < nB K → b / 16 / K 4 = h → b / 16 % K 4 = pl → b % 16 < W → ∀ m' a' w, wf K h n (zst K m b) pl m' a' w → m' / 8 = 0 → c ≤ w) ∧ (c = 1000000 ∨ ∃ b, b < nB K ∧ b / 16 / K 4 = h ∧ b / 16 % K 4 = pl ∧ ∃ m' a', wf K h n (zst K m b) pl m' a' c ∧ m' / 8 = 0)
theorem wf_goal {K : Nat → Nat} {h m a n m' a' w : Nat} (g : wf K h n m a m' a' w) (h0 : m' / 8 = 0) : goal0 (kby K h) m n := ⟨m', wk_rch n m' a' w ((wk_wf n m' a' w).mpr g), h0⟩
section WD
variable {d n1 n2 : Nat} {b1 b2 p q : Bool} {ad : Nat → Nat} {J : mmJ} {Q : mmQ} {K : Nat → Nat} {h s cnt : Nat} {al qq dp : Nat → Nat} {tl hd f L : Nat} {I : mmI}
theorem ct_99 (g : pW K h s cnt al qq dp tl hd f L) (hK : cK I p K) (hD : bD I K) (hms : I 6 13 = nI 0) (hq : cQ I qq dp tl) (hh : h < K 6) {i pl : Nat} (hi : i < tl) (hdi : dp i < L) (hpl : pl < K 4) (hc : ∀ j, i < j → j < tl → cW K h qq dp L I j pl) (k : ∀ c, lP2 K h (L - dp i - 1) (qq i) pl 16 c → Q (some (.int (nI c))) ((mm_fl true b1 b2, n1, n2, p, q, ad), I, J)) : mm_wc (d + 3) 99 [.ref 70, .int (nI i), .int (nI h), .int (nI pl)] ((mm_fl true b1 b2, n1, n2, p, q, ad), I, J) Q := by
  obtain ⟨g1, g2, g3, g4, g5, g6, g7, g8, g9, g10, g11, ok⟩ := id g
  obtain ⟨q1, q2, q3, q4, q5⟩ := id hq
  have h4 := ok.p
  have h6 := ok.h
  have hBl := nB_le ok
  have lp : ∀ n W, n + W = 16 → ∀ c, lP2 K h (L - dp i - 1) (qq i) pl W c → mm_w Q (mm_wc (d + 2)) bk_99 7 [some (.ref 70), some (.int (nI i)), some (.int (nI h)), some (.int (nI pl)), some (.int (nI c)), some (.int (nI W)), none, none] [] ((mm_fl true b1 b2, n1, n2, p, q, ad), I, J) := by
    intro n
    induction n with
    | zero =>
      intro W hW c hl
      have : W = 16 := by omega
      subst this
      refine fx_99_7 ?_
      rw [z_le (by decide) (by decide)]
      exact ⟨fun _ => k c hl, fun e => absurd (Nat.le_refl _) e⟩
    | succ n ih =>
      intro W hW c hl
      have e16 : (16 * (K 4 * h + pl) + W) / 16 = K 4 * h + pl := by omega
      have eh : (16 * (K 4 * h + pl) + W) / 16 / K 4 = h := by rw [e16, Nat.mul_add_div (by omega), Nat.div_eq_of_lt hpl, Nat.add_zero]
      have ep : (16 * (K 4 * h + pl) + W) / 16 % K 4 = pl := by rw [e16, Nat.mul_add_mod, Nat.mod_eq_of_lt hpl]
      have eW : (16 * (K 4 * h + pl) + W) % 16 = W := by omega
      have hbB : 16 * (K 4 * h + pl) + W < nB K := by
        have e1 : K 4 * (h + 1) ≤ K 4 * K 6 := Nat.mul_le_mul_left _ (by omega)
        rw [Nat.mul_add] at e1
        have e2 : nB K = 16 * (K 4 * K 6) := by unfold nB; rw [Nat.mul_assoc]
        omega
      have uqb : ∀ b, b / 16 / K 4 = h → b / 16 % K 4 = pl → b % 16 = W → b = 16 * (K 4 * h + pl) + W := fun b a1 a2 a3 => by
        have := Nat.div_add_mod (b / 16) (K 4)
        rw [a1, a2] at this
        omega
      generalize hb : 16 * (K 4 * h + pl) + W = b at *
      have vi := g4 i hi
      have v1 : vm K False (zst K (qq i) b) := cstp_vm ok vi (fun i hi => by rw [Nat.zero_testBit] at hi; cases hi)
      have v2 := v1.lt ok
      have ck := pW_ck g hi hdi hbB eh
      have hdii := g2 i hi
      have skip : ¬ goal0 (kby K h) (zst K (qq i) b) (L - dp i - 1) → lP2 K h (L - dp i - 1) (qq i) pl (W + 1) c := fun hn => ⟨hl.1, fun b' a1 a2 a3 a4 m' a' w hw h0 => by
        by_cases eb : b' % 16 = W
        · have := uqb b' a2 a3 eb
          subst this
          exact absurd (wf_goal hw h0) hn
        · exact hl.2.1 b' a1 a2 a3 (by omega) m' a' w hw h0, hl.2.2⟩
      refine fx_99_7 ?_
      rw [z_le (by decide) (by omega)]
      refine ⟨fun e => absurd e (by omega), fun _ => ct_9 hK ⟨_, _, _, rfl, rfl, ?_⟩⟩
      rw [hb, z_ix (by omega), z_ix (by omega), q2 i hi, hD.2.2.1 b hbB, z_add W 1]
      refine ⟨z_in (by omega) (by decide), z_in (by omega) (by decide), ct_24n hD hms vi ⟨_, _, _, rfl, rfl, ?_⟩⟩
      rw [z_ix (by omega)]
      refine ⟨z_in (by omega) (by decide), ?_⟩
      by_cases hx : ∃ j, j < tl ∧ qq j = zst K (qq i) b
      · obtain ⟨j, hj, ej⟩ := hx
        have hdj := g2 j hj
        have uq : ∀ j', j' < tl → qq j' = zst K (qq i) b → j' = j := fun j' a1 a2 => g1.2.2.2.2.1 j' j a1 hj (a2.trans ej.symm)
        rw [← ej, q4 j hj, z_sub (by omega), Nat.add_sub_cancel, z_le (by omega) (by omega), z_ix (by omega), q3 j hj, q3 i hi, z_add (dp i) 1, z_eq (by omega) (by omega), z_mul, z_add (j * 5), z_ix (by omega)]
        refine ⟨fun e => ih (W + 1) (by omega) c (skip (fun gg => ?_)), fun e => ⟨z_in (by omega) (by decide), z_in (by omega) (by decide), fun e2 => ih (W + 1) (by omega) c (skip (fun gg => ?_)), fun e2 => ⟨z_in (by omega) (by decide), ct_1002 ⟨_, _, _, rfl, rfl, ?_⟩⟩⟩⟩
        · obtain ⟨j', a1, a2, a3, -⟩ := ck.mpr gg
          rw [uq j' a1 a2] at a3; omega
        · obtain ⟨j', a1, a2, -, a4, -⟩ := ck.mpr gg
          rw [uq j' a1 a2] at a4; exact e2 a4
        · obtain ⟨c', y1, y2, y3⟩ := hc j (by omega) hj
          obtain ⟨-, z2, z3⟩ := y3 (by omega)
          rw [e2, show L - (dp i + 1) = L - dp i - 1 by omega, ej] at z2 z3
          rw [y1]
          have new : lP2 K h (L - dp i - 1) (qq i) pl (W + 1) (if c' < c then c' else c) := by
            refine ⟨by have := hl.1; split <;> omega, fun b' a1 a2 a3 a4 m' a' w hw h0 => ?_, ?_⟩
            · by_cases eb : b' % 16 = W
              · have := uqb b' a2 a3 eb
                subst this
                have := z2 m' a' w hw h0
                split <;> omega
              · have := hl.2.1 b' a1 a2 a3 (by omega) m' a' w hw h0
                split <;> omega
            · by_cases e7 : c' < c
              · rw [if_pos e7]
                rcases z3 with w | ⟨m', a', w1, w2⟩
                · exact .inl w
                · exact .inr ⟨b, hbB, eh, ep, m', a', w1, w2⟩
              · rw [if_neg e7]; exact hl.2.2
          by_cases e7 : c' < c
          · rw [if_pos e7] at new
            rw [if_pos (by rw [z_lt (by omega) (by have := hl.1; omega)]; exact e7)]
            exact ih (W + 1) (by omega) c' new
          · rw [if_neg e7] at new
            rw [if_neg (by rw [z_lt (by omega) (by have := hl.1; omega)]; exact e7)]
            exact ih (W + 1) (by omega) c new
      · rw [q5 _ (by omega) (fun j hj e => hx ⟨j, hj, e⟩)]
        refine ⟨fun _ => ih (W + 1) (by omega) c (skip (fun gg => ?_)), fun e => absurd (m1_le (by omega)) e⟩
        obtain ⟨j', a1, a2, -⟩ := ck.mpr gg
        exact hx ⟨j', a1, a2⟩
  exact fx_99 (lp 16 0 rfl 1000000 ⟨Nat.le_refl _, fun b _ _ _ a4 => absurd a4 (Nat.not_lt_zero _), .inl rfl⟩)
end WD
