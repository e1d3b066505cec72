/-! the model's walk: the loops over places and moments -/
def wLt (j a i0 a0 : Nat) : Prop := j < i0 ∨ (j = i0 ∧ a < a0)
def wB (K qq dp : Nat → Nat) (tl L : Nat) (I : mmI) (i0 a0 : Nat) (r : Int32) : Prop :=
  (r = -1 ∧ ∀ j a, wLt j a i0 a0 → j < tl → a < K 4 → dp j = L → qq j / 8 = 0 → I 61 (5 * std (qq j) + a) = -1) ∨
  ∃ w, r = nI w ∧ w < 2 ^ 31 ∧ (∃ j a, j ≤ i0 ∧ j < tl ∧ a < K 4 ∧ dp j = L ∧ qq j / 8 = 0 ∧ I 61 (5 * std (qq j) + a) = nI w) ∧ ∀ j a w', wLt j a i0 a0 → j < tl → a < K 4 → dp j = L → qq j / 8 = 0 → I 61 (5 * std (qq j) + a) = nI w' → w' < 2 ^ 31 → w ≤ w'
theorem wB_fr {K qq dp : Nat → Nat} {tl L : Nat} {I I' : mmI} {i0 a0 : Nat} {r : Int32} (h : wB K qq dp tl L I i0 a0 r) (ha : a0 ≤ K 4) (e : ∀ j a, j ≤ i0 → a < K 4 → I' 61 (5 * std (qq j) + a) = I 61 (5 * std (qq j) + a)) : wB K qq dp tl L I' i0 a0 r := by
  have lt : ∀ j a, wLt j a i0 a0 → j ≤ i0 := fun j a w => by unfold wLt at w; omega
  rcases h with ⟨h1, h2⟩ | ⟨w, h1, h2, ⟨j, a, h3, h4, h5, h6, h7, h8⟩, h9⟩
  · exact .inl ⟨h1, fun j a l b1 b2 b3 b4 => by rw [e j a (lt j a l) b2]; exact h2 j a l b1 b2 b3 b4⟩
  · exact .inr ⟨w, h1, h2, ⟨j, a, h3, h4, h5, h6, h7, by rw [e j a h3 h5]; exact h8⟩, fun j a w' l b1 b2 b3 b4 b5 b6 => h9 j a w' l b1 b2 b3 b4 (by rw [← e j a (lt j a l) b2]; exact b5) b6⟩
section WO
variable {d n1 n2 : Nat} {fl : Nat → Bool} {p q : Bool} {ad : Nat → Nat} {J : mmJ} {Q : mmQ} {R F N K : Nat → Nat} {th cnt h s pl : Nat} {al qq dp : Nat → Nat} {tl L : Nat} {I3 : mmI}
theorem wm_a (c : wC K h s cnt al qq dp tl L) (hpl : pl < K 4) (hC : mC I3 R F N th cnt al) (hq : mQ I3 qq dp tl) (ag : agR R K) (hz : ∀ b, b < nB K → ∀ m, vm K False m → zstp R th N (F b) m = zst K m b) (hLl : L < 20000) {i0 : Nat} (hi : i0 < tl)
    (next : ∀ I' r, fr [(61, [])] I3 I' → wI K h s pl cnt al qq dp tl L I' (i0 + 1) 0 0 → wB K qq dp tl L I' (i0 + 1) 0 r → mm_w Q (mm_wc (d + 3)) bk_250 96 [some (.ref 46), none, none, some (.int (nI L)), some (.int r), some (.int (nI (i0 + 1))), none, none, none, none, none, none, none] [] ((fl, n1, n2, p, q, ad), I', J)) :
    ∀ n a, n + a = K 4 → ∀ I' r, fr [(61, [])] I3 I' → wI K h s pl cnt al qq dp tl L I' i0 a 0 → wB K qq dp tl L I' i0 a r → mm_w Q (mm_wc (d + 3)) bk_250 117 [some (.ref 46), none, none, some (.int (nI L)), some (.int r), some (.int (nI i0)), some (.int (nI (std (qq i0)))), some (.int (nI a)), none, none, none, none, none] [] ((fl, n1, n2, p, q, ad), I', J) := by
  obtain ⟨ok, c1, c2, c3, c4, c5, c6, c7, c8, c9, c10, c11, c12, c13, c14⟩ := id c
  have h4 := ok.p
  have e4 : R 4 = K 4 := ag 4 (by decide) (by decide) (by decide)
  have hdi := c7 i0 hi
  have vi := c6 i0 hi
  have hsi := std_lt (vi.lt ok)
  have e49 : ∀ I', fr [(61, [])] I3 I' → I' 49 4 = nI (K 4) := fun I' hf => by rw [hf 49 4 rfl, hC.1.1.2 4 (by decide), e4]
  intro n
  induction n with
  | zero =>
    intro a ha I' r hf g b
    have ea : a = K 4 := by omega
    subst ea
    refine fx_250k_117 ?_
    rw [e49 I' hf, z_le (by omega) (by omega), z_add]
    refine ⟨fun _ => next I' r hf (wI_wk g (fun i a k d1 d2 d3 d4 d5 => .inl ?_)) ?_, fun e => absurd (Nat.le_refl _) e⟩
    · unfold wD at d1 ⊢; omega
    · have lt : ∀ j a, a < K 4 → wLt j a (i0 + 1) 0 → wLt j a i0 (K 4) := fun j a w1 w2 => by unfold wLt at w2 ⊢; omega
      rcases b with ⟨h1, h2⟩ | ⟨w, h1, h2, ⟨j, a, h3, h4, h5⟩, h9⟩
      · exact .inl ⟨h1, fun j a l b1 b2 b3 b4 => h2 j a (lt j a b2 l) b1 b2 b3 b4⟩
      · exact .inr ⟨w, h1, h2, ⟨j, a, by omega, h4, h5⟩, fun j a w' l b1 b2 b3 b4 b5 b6 => h9 j a w' (lt j a b2 l) b1 b2 b3 b4 b5 b6⟩
  | succ n ih =>
    intro a ha I' r hf g b
    have hak : a < K 4 := by omega
    have go : ∀ I2 r2, fr [(61, [])] I3 I2 → wI K h s pl cnt al qq dp tl L I2 i0 (a + 1) 0 → wB K qq dp tl L I2 i0 (a + 1) r2 → mm_w Q (mm_wc (d + 3)) bk_250 327 [some (.ref 46), none, none, some (.int (nI L)), some (.int r2), some (.int (nI i0)), some (.int (nI (std (qq i0)))), some (.int (nI a)), none, none, none, none, none] [] ((fl, n1, n2, p, q, ad), I2, J) := fun I2 r2 f2 g2 b2 => by
      refine fx_250k_327 ?_
      rw [z_add]
      exact ih (a + 1) (by omega) I2 r2 f2 g2 b2
    have lt1 : ∀ j a', wLt j a' i0 (a + 1) → wLt j a' i0 a ∨ (j = i0 ∧ a' = a) := fun j a' w => by unfold wLt at w ⊢; omega
    refine fx_250k_117 ?_
    rw [e49 I' hf, z_le (by omega) (by omega), z_mul, z_add (5 * std (qq i0)), z_ix (by omega)]
    refine ⟨fun e => absurd e (by omega), fun _ => ⟨z_in (by omega) (by decide), fun e => ?_, fun e => ?_⟩⟩
    · obtain ⟨w, ew, hwk⟩ := (g.1 i0 a hi hak).resolve_left (fun z => by rw [z] at e; exact absurd e (by decide))
      have hwl := (wk_le ok hpl _ _ _ _ hwk).2
      rw [ew]
      -- on to the breaths
      have br : wB K qq dp tl L I' i0 (a + 1) r → mm_w Q (mm_wc (d + 3)) bk_250 193 [some (.ref 46), none, none, some (.int (nI L)), some (.int r), some (.int (nI i0)), some (.int (nI (std (qq i0)))), some (.int (nI a)), some (.int (nI w)), none, none, none, none] [] ((fl, n1, n2, p, q, ad), I', J) := fun b' => fx_250k_193 (wm_k c hpl hC hq ag hz hLl hi hak hwk (Ik := I') (fun I2 f2 e2 g2 => go I2 r f2 g2 (wB_fr b' (by omega) e2)) cnt 0 (by omega) I' hf (fun _ _ _ _ => rfl) ew g)
      have ext : ¬ (dp i0 = L ∧ qq i0 / 8 = 0) → wB K qq dp tl L I' i0 (a + 1) r := fun hn => by
        rcases b with ⟨h1, h2⟩ | ⟨w, h1, h2, h3, h9⟩
        · refine .inl ⟨h1, fun j a' l b1 b2 b3 b4 => ?_⟩
          rcases lt1 j a' l with y | ⟨y1, y2⟩
          · exact h2 j a' y b1 b2 b3 b4
          · rw [y1] at b3 b4; exact absurd ⟨b3, b4⟩ hn
        · refine .inr ⟨w, h1, h2, h3, fun j a' w' l b1 b2 b3 b4 b5 b6 => ?_⟩
          rcases lt1 j a' l with y | ⟨y1, y2⟩
          · exact h9 j a' w' y b1 b2 b3 b4 b5 b6
          · rw [y1] at b3 b4; exact absurd ⟨b3, b4⟩ hn
      refine ct_237 ⟨_, _, _, rfl, rfl, fun e2 => br (ext (fun z => e2 ?_)), fun e2 => ?_⟩
      · rw [(std_b (vi.lt ok)).1, z.2]
      · rw [(std_b (vi.lt ok)).1, z_eq (by have := vi.lt ok; omega) (by decide)] at e2
        rw [z_ix (by omega), hf 58 _ rfl, hq.2.2.1 i0 hi, z_eq (by omega) (by omega)]
        refine ⟨z_in hsi (by decide), fun e3 => br (ext (fun z => e3 z.1)), fun e3 => ?_⟩
        have gN : wI K h s pl cnt al qq dp tl L I' i0 (a + 1) 0 := wI_wk g (fun i a' k d1 d2 d3 d4 d5 => .inl (by
          rcases d1 with y | ⟨y, -⟩
          · exact .inl y
          · rw [y] at d3; omega))
        have new : (∀ j a' w', wLt j a' i0 a → j < tl → a' < K 4 → dp j = L → qq j / 8 = 0 → I' 61 (5 * std (qq j) + a') = nI w' → w' < 2 ^ 31 → w ≤ w') → wB K qq dp tl L I' i0 (a + 1) (nI w) := fun hmin => by
          refine .inr ⟨w, rfl, by omega, ⟨i0, a, Nat.le_refl _, hi, hak, e3, e2, ew⟩, fun j a' w' l b1 b2 b3 b4 b5 b6 => ?_⟩
          rcases lt1 j a' l with y | ⟨y1, y2⟩
          · exact hmin j a' w' y b1 b2 b3 b4 b5 b6
          · rw [y1, y2, ew, z_eq (by omega) b6] at b5; omega
        rcases id b with ⟨h1, h2⟩ | ⟨w2, h1, h2, h3, h9⟩
        · rw [h1]
          refine ⟨fun _ => fx_250k_181 (fx_250k_188 (go I' _ hf gN (new (fun j a' w' l b1 b2 b3 b4 b5 b6 => ?_)))), fun y => absurd nm1_lt y⟩
          rw [h2 j a' l b1 b2 b3 b4, eq_comm, z_m1 b6] at b5; exact b5.elim
        · rw [h1, z_lt h2 (by decide), z_le h2 (by omega)]
          refine ⟨fun y => absurd y (Nat.not_lt_zero _), fun _ => ⟨fun y => fx_250k_188 (go I' _ hf gN (.inr ⟨w2, rfl, h2, h3, fun j a' w' l b1 b2 b3 b4 b5 b6 => ?_⟩)), fun y => fx_250k_181 (fx_250k_188 (go I' _ hf gN (new (fun j a' w' l b1 b2 b3 b4 b5 b6 => ?_))))⟩⟩
          · rcases lt1 j a' l with z | ⟨y1, y2⟩
            · exact h9 j a' w' z b1 b2 b3 b4 b5 b6
            · rw [y1, y2, ew, z_eq (by omega) b6] at b5; omega
          · have := h9 j a' w' l b1 b2 b3 b4 b5 b6; omega
    · have em : I' 61 (5 * std (qq i0) + a) = -1 := by
        rcases g.1 i0 a hi hak with z | ⟨w, z, hwk⟩
        · exact z
        · have hwl := (wk_le ok hpl _ _ _ _ hwk).2
          rw [z, z_le (by decide) (by omega)] at e
          exact absurd (Nat.zero_le _) e
      refine go I' r hf (wI_wk g (fun i a' k d1 d2 d3 d4 d5 => ?_)) ?_
      · by_cases y : i = i0 ∧ a' = a
        · rw [y.1, y.2]; exact .inr em
        · refine .inl ?_
          unfold wD at d1 ⊢; omega
      · rcases b with ⟨h1, h2⟩ | ⟨w, h1, h2, h3, h9⟩
        · refine .inl ⟨h1, fun j a' l b1 b2 b3 b4 => ?_⟩
          rcases lt1 j a' l with y | ⟨y1, y2⟩
          · exact h2 j a' y b1 b2 b3 b4
          · rw [y1, y2]; exact em
        · refine .inr ⟨w, h1, h2, h3, fun j a' w' l b1 b2 b3 b4 b5 b6 => ?_⟩
          rcases lt1 j a' l with y | ⟨y1, y2⟩
          · exact h9 j a' w' y b1 b2 b3 b4 b5 b6
          · rw [y1, y2, em, eq_comm, z_m1 b6] at b5; exact b5.elim
end WO
