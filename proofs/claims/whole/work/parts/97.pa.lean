/-! odds: the class; what is kept, choices -/
/-- its choices: firsts fs, ch of them, over the first B breaths -/
def oCh (K : Nat → Nat) (B ch : Nat) (fs : Nat → Nat) (I : mmI) : Prop :=
  I 81 9 = nI ch ∧ ch ≤ B ∧ (∀ i, i < ch → fs i < B ∧ I 95 i = nI (fs i) ∧ I 92 i = (if wt K 0 = 0 then nI 0 else I 8 (bre (fs i) 0)) ∧ I 93 i = (if wt K 1 = 0 then nI 0 else I 8 (bre (fs i) 1)) ∧ I 94 i = (if wt K 2 = 0 then nI 0 else I 8 (bre (fs i) 2))) ∧
  (∀ i j, i < j → j < ch → fs i < fs j) ∧ ∀ b, b < B → ∃ i, i < ch ∧ fs i ≤ b ∧ ∀ k, k < 3 → wt K k ≠ 0 → fanK K (bre (fs i) k) = fanK K (bre b k)
def oWt (K : Nat → Nat) (I : mmI) : Prop := I 81 10 = nI (wt K 0) ∧ I 81 11 = nI (wt K 1) ∧ I 81 12 = nI (wt K 2)
def oB (K : Nat → Nat) (ch : Nat) (fs : Nat → Nat) (I : mmI) : Prop := bD I K ∧ I 6 13 = nI 0 ∧ I 81 1 = I 6 1 ∧ oWt K I ∧ oCh K (nB K) ch fs I
/-- kept answers -/
def oKp (K : Nat → Nat) (I : mmI) : Prop := ∀ m, vm K False m → (I 83 m = -1 ∨ I 83 m = nI (chA K 1 m)) ∧ (I 84 m = -1 ∨ I 84 m = nI (chA K 2 m)) ∧ (I 86 m = -1 ∨ I 86 m = nI (ctA K 1 m)) ∧ (I 87 m = -1 ∨ I 87 m = nI (ctA K 2 m))
abbrev odW : List (Nat × List Nat) := [(83, []), (84, []), (86, []), (87, []), (89, []), (90, []), (91, [])]
theorem oB.fr {K : Nat → Nat} {ch : Nat} {fs : Nat → Nat} {I I' : mmI} (h : oB K ch fs I) (hf : fr odW I I') : oB K ch fs I' := by
  obtain ⟨a, b, c, ⟨d0, d1, d2⟩, e0, e1, e2, e3, e4⟩ := h
  refine ⟨a.fr hf rfl rfl rfl rfl, by rw [hf 6 13 rfl]; exact b, by rw [hf 81 1 rfl, hf 6 1 rfl]; exact c, ⟨by rw [hf 81 10 rfl]; exact d0, by rw [hf 81 11 rfl]; exact d1, by rw [hf 81 12 rfl]; exact d2⟩, by rw [hf 81 9 rfl]; exact e0, e1, fun i hi => ?_, e3, e4⟩
  rw [hf 95 i rfl, hf 92 i rfl, hf 93 i rfl, hf 94 i rfl, hf 8 _ rfl, hf 8 _ rfl, hf 8 _ rfl]
  exact e2 i hi
theorem oKp.fr {K : Nat → Nat} {I I' : mmI} {L : List (Nat × List Nat)} (h : oKp K I) (hf : fr L I I') (hL : noR 83 88 L = true) : oKp K I' := by
  intro m hm
  rw [hf 83 m (inS_no hL (by decide) (by decide)), hf 84 m (inS_no hL (by decide) (by decide)), hf 86 m (inS_no hL (by decide) (by decide)), hf 87 m (inS_no hL (by decide) (by decide))]
  exact h m hm
theorem oKp.up83 {K : Nat → Nat} {I : mmI} (h : oKp K I) (m : Nat) : oKp K (mm_up I 83 m (nI (chA K 1 m))) := by
  intro m' hm'
  obtain ⟨a, b, c, d⟩ := h m' hm'
  refine ⟨?_, by rw [up_c (by decide)]; exact b, by rw [up_c (by decide)]; exact c, by rw [up_c (by decide)]; exact d⟩
  by_cases e : m' = m
  · subst e; exact .inr (up_s _ _ _ _)
  · rw [up_k e]; exact a
theorem oKp.up84 {K : Nat → Nat} {I : mmI} (h : oKp K I) (m : Nat) : oKp K (mm_up I 84 m (nI (chA K 2 m))) := by
  intro m' hm'
  obtain ⟨a, b, c, d⟩ := h m' hm'
  refine ⟨by rw [up_c (by decide)]; exact a, ?_, by rw [up_c (by decide)]; exact c, by rw [up_c (by decide)]; exact d⟩
  by_cases e : m' = m
  · subst e; exact .inr (up_s _ _ _ _)
  · rw [up_k e]; exact b
theorem oKp.up86 {K : Nat → Nat} {I : mmI} (h : oKp K I) (m : Nat) : oKp K (mm_up I 86 m (nI (ctA K 1 m))) := by
  intro m' hm'
  obtain ⟨a, b, c, d⟩ := h m' hm'
  refine ⟨by rw [up_c (by decide)]; exact a, by rw [up_c (by decide)]; exact b, ?_, by rw [up_c (by decide)]; exact d⟩
  by_cases e : m' = m
  · subst e; exact .inr (up_s _ _ _ _)
  · rw [up_k e]; exact c
theorem oKp.up87 {K : Nat → Nat} {I : mmI} (h : oKp K I) (m : Nat) : oKp K (mm_up I 87 m (nI (ctA K 2 m))) := by
  intro m' hm'
  obtain ⟨a, b, c, d⟩ := h m' hm'
  refine ⟨by rw [up_c (by decide)]; exact a, by rw [up_c (by decide)]; exact b, by rw [up_c (by decide)]; exact c, ?_⟩
  by_cases e : m' = m
  · subst e; exact .inr (up_s _ _ _ _)
  · rw [up_k e]; exact d
theorem bre_1 (b : Nat) : bre b 1 = b := by unfold bre; omega
section PA
variable {d n1 n2 : Nat} {b0 b2 p q : Bool} {ad : Nat → Nat} {I : mmI} {J : mmJ} {Q : mmQ} {K : Nat → Nat} {ch : Nat} {fs : Nat → Nat}
theorem lp_281 (h : oWt K I) {n : Nat} (hn : n ≤ 3) (k : Q (some (.int (nI (ws K ^ n)))) ((mm_fl b0 true b2, n1, n2, p, q, ad), I, J)) : ∀ r i, r + i = n → mm_w Q (mm_wc d) bk_281 4 [some (.ref 81), some (.int (nI n)), some (.int (nI (ws K ^ i))), some (.int (nI i))] [] ((mm_fl b0 true b2, n1, n2, p, q, ad), I, J) := by
  intro r
  induction r with
  | zero =>
    intro i hi
    have : i = n := by omega
    subst this
    refine fx_281_4 ?_
    rw [z_le (by omega) (by omega)]
    exact ⟨fun _ => k, fun e => absurd (Nat.le_refl _) e⟩
  | succ r ih =>
    intro i hi
    refine fx_281_4 ?_
    rw [z_le (by omega) (by omega), h.1, h.2.1, h.2.2, z_add, z_add, z_add, z_mul]
    refine ⟨fun e => by omega, fun _ => ?_⟩
    have := ih (i + 1) (by omega)
    rw [Nat.pow_succ] at this
    exact this
/-- prepared already -/
theorem ct_42y (h : I 81 1 = I 6 1) (k : Q none ((mm_fl b0 true b2, n1, n2, p, q, ad), I, J)) : mm_wc (d + 1) 42 [.ref 81] ((mm_fl b0 true b2, n1, n2, p, q, ad), I, J) Q := fx_42 ⟨fun e => absurd h e, fun _ => k⟩
/-- how many parts n breaths have -/
theorem ct_281 (h : oWt K I) {n : Nat} (hn : n ≤ 3) (k : Q (some (.int (nI (ws K ^ n)))) ((mm_fl b0 true b2, n1, n2, p, q, ad), I, J)) : mm_wc (d + 1) 281 [.ref 81, .int (nI n)] ((mm_fl b0 true b2, n1, n2, p, q, ad), I, J) Q :=
  fx_281 (lp_281 h hn k n 0 (by omega))
/-- is the latest choice new -/
theorem ct_44 {g0 g1 g2 : Nat → Nat} (h9 : I 81 9 = nI ch) (hch : ch < 320) (h : ∀ i, i ≤ ch → I 92 i = nI (g0 i) ∧ I 93 i = nI (g1 i) ∧ I 94 i = nI (g2 i) ∧ g0 i < 2 ^ 31 ∧ g1 i < 2 ^ 31 ∧ g2 i < 2 ^ 31) (k1 : (∀ i, i < ch → ¬ (g0 i = g0 ch ∧ g1 i = g1 ch ∧ g2 i = g2 ch)) → Q (some (.int (nI 1))) ((mm_fl b0 true b2, n1, n2, p, q, ad), I, J)) (k0 : ∀ i, i < ch → g0 i = g0 ch → g1 i = g1 ch → g2 i = g2 ch → Q (some (.int (nI 0))) ((mm_fl b0 true b2, n1, n2, p, q, ad), I, J)) : mm_wc (d + 1) 44 [.ref 81] ((mm_fl b0 true b2, n1, n2, p, q, ad), I, J) Q := by
  have lp : ∀ r i, r + i = ch → (∀ j, j < i → ¬ (g0 j = g0 ch ∧ g1 j = g1 ch ∧ g2 j = g2 ch)) → mm_w Q (mm_wc d) bk_44 2 [some (.ref 81), some (.int (nI i))] [] ((mm_fl b0 true b2, n1, n2, p, q, ad), I, J) := by
    intro r
    induction r with
    | zero =>
      intro i hi hj
      have : i = ch := by omega
      subst this
      refine fx_44_2 ?_
      rw [h9, z_le (by omega) (by omega)]
      exact ⟨fun _ => k1 hj, fun e => absurd (Nat.le_refl _) e⟩
    | succ r ih =>
      intro i hi hj
      obtain ⟨a0, a1, a2, l0, l1, l2⟩ := h i (by omega)
      obtain ⟨c0, c1, c2, m0, m1, m2⟩ := h ch (Nat.le_refl _)
      have nx : ¬ (g0 i = g0 ch ∧ g1 i = g1 ch ∧ g2 i = g2 ch) → mm_w Q (mm_wc d) bk_44 2 [some (.ref 81), some (.int (nI i + nI 1))] [] ((mm_fl b0 true b2, n1, n2, p, q, ad), I, J) := fun hn => by
        rw [z_add]
        refine ih (i + 1) (by omega) (fun j hj' => ?_)
        by_cases e : j = i
        · subst e; exact hn
        · exact hj j (by omega)
      refine fx_44_2 ?_
      rw [h9, z_le (by omega) (by omega), z_ix (by omega), z_ix (by omega), a0, a1, a2, c0, c1, c2, z_eq l0 m0, z_eq l1 m1, z_eq l2 m2]
      exact ⟨fun e => by omega, fun _ => ⟨z_in (by omega) (by decide), z_in (by omega) (by decide), fun e1 => nx (fun z => e1 z.2.1), fun e1 => ⟨z_in (by omega) (by decide), z_in (by omega) (by decide), fun e0 => nx (fun z => e0 z.1), fun e0 => ⟨z_in (by omega) (by decide), z_in (by omega) (by decide), fun e2 => nx (fun z => e2 z.2.2), fun e2 => k0 i (by omega) e0 e1 e2⟩⟩⟩⟩
  exact fx_44 (lp ch 0 (by omega) (fun j hj => absurd hj (Nat.not_lt_zero j)))
/-- a choice's total, of the row at 88 + n -/
theorem tot_v {r : Nat} (h : oB K ch fs I) {u : Nat} {un uo g : Nat → Nat} (hu : uni (fanK K) I (nB K) u un uo) (hg : ∀ b, b < nB K → I r (uo b) = nI (g b)) {i : Nat} (hi : i < ch) : vp_in (I 92 i) 320 ∧ vp_in (I 93 i) 320 ∧ vp_in (I 94 i) 320 ∧ I 81 10 * I r (I 92 i).toNatClampNeg + I 81 11 * I r (I 93 i).toNatClampNeg + I 81 12 * I r (I 94 i).toNatClampNeg = nI (smk K g (fs i) 3) := by
  obtain ⟨a, -, -, ⟨d0, d1, d2⟩, e0, e1, e2, e3, e4⟩ := h
  have hB := nB_le a.1
  obtain ⟨hf, -, h92, h93, h94⟩ := e2 i hi
  obtain ⟨u0, u1, -, -, u4, -⟩ := hu
  have one : ∀ (k : Nat) (x w : Int32), k < 3 → x = (if wt K k = 0 then nI 0 else I 8 (bre (fs i) k)) → w = nI (wt K k) → vp_in x 320 ∧ w * I r x.toNatClampNeg = nI (wt K k * g (bre (fs i) k)) := fun k x w hk hx hw => by
    by_cases e : wt K k = 0
    · rw [if_pos e] at hx
      rw [hx, hw, e, Nat.zero_mul]
      exact ⟨z_in (by decide) (by decide), by rw [show nI 0 = (0 : Int32) from rfl, Int32.zero_mul]⟩
    · rw [if_neg e] at hx
      obtain ⟨q1, q2, q3⟩ := u4 (bre (fs i) k) (bre_lt hf)
      rw [hx, hw, q1, z_ix (by omega), hg _ (bre_lt hf), z_mul]
      exact ⟨z_in (by omega) (by decide), rfl⟩
  obtain ⟨v0, w0⟩ := one 0 _ _ (by decide) h92 d0
  obtain ⟨v1, w1⟩ := one 1 _ _ (by decide) h93 d1
  obtain ⟨v2, w2⟩ := one 2 _ _ (by decide) h94 d2
  refine ⟨v0, v1, v2, ?_⟩
  rw [w0, w1, w2, z_add, z_add]
  show nI _ = nI (0 + wt K 0 * g (bre (fs i) 0) + wt K 1 * g (bre (fs i) 1) + wt K 2 * g (bre (fs i) 2))
  rw [Nat.zero_add]
theorem ct_45_1 (h : oB K ch fs I) {u : Nat} {un uo g : Nat → Nat} (hu : uni (fanK K) I (nB K) u un uo) (hg : ∀ b, b < nB K → I 89 (uo b) = nI (g b)) {i : Nat} (hi : i < ch) (k : Q (some (.int (nI (smk K g (fs i) 3)))) ((mm_fl b0 true b2, n1, n2, p, q, ad), I, J)) : mm_wc (d + 1) 45 [.ref 81, .int (nI i), .int (nI 1)] ((mm_fl b0 true b2, n1, n2, p, q, ad), I, J) Q := by
  have hB := nB_le h.1.1
  have hch : ch ≤ nB K := h.2.2.2.2.2.1
  obtain ⟨v0, v1, v2, w⟩ := tot_v h hu hg hi
  refine fx_45_n1 ?_
  rw [z_ix (by omega), w]
  exact ⟨z_in (by omega) (by decide), v0, z_in (by omega) (by decide), v1, z_in (by omega) (by decide), v2, k⟩
theorem ct_45_2 (h : oB K ch fs I) {u : Nat} {un uo g : Nat → Nat} (hu : uni (fanK K) I (nB K) u un uo) (hg : ∀ b, b < nB K → I 90 (uo b) = nI (g b)) {i : Nat} (hi : i < ch) (k : Q (some (.int (nI (smk K g (fs i) 3)))) ((mm_fl b0 true b2, n1, n2, p, q, ad), I, J)) : mm_wc (d + 1) 45 [.ref 81, .int (nI i), .int (nI 2)] ((mm_fl b0 true b2, n1, n2, p, q, ad), I, J) Q := by
  have hB := nB_le h.1.1
  have hch : ch ≤ nB K := h.2.2.2.2.2.1
  obtain ⟨v0, v1, v2, w⟩ := tot_v h hu hg hi
  refine fx_45_n2 ?_
  rw [z_ix (by omega), w]
  exact ⟨z_in (by omega) (by decide), v0, z_in (by omega) (by decide), v1, z_in (by omega) (by decide), v2, k⟩
theorem ct_45_3 (h : oB K ch fs I) {u : Nat} {un uo g : Nat → Nat} (hu : uni (fanK K) I (nB K) u un uo) (hg : ∀ b, b < nB K → I 91 (uo b) = nI (g b)) {i : Nat} (hi : i < ch) (k : Q (some (.int (nI (smk K g (fs i) 3)))) ((mm_fl b0 true b2, n1, n2, p, q, ad), I, J)) : mm_wc (d + 1) 45 [.ref 81, .int (nI i), .int (nI 3)] ((mm_fl b0 true b2, n1, n2, p, q, ad), I, J) Q := by
  have hB := nB_le h.1.1
  have hch : ch ≤ nB K := h.2.2.2.2.2.1
  obtain ⟨v0, v1, v2, w⟩ := tot_v h hu hg hi
  refine fx_45_n3 ?_
  rw [z_ix (by omega), w]
  exact ⟨z_in (by omega) (by decide), v0, z_in (by omega) (by decide), v1, z_in (by omega) (by decide), v2, k⟩
end PA
