/-! the model's walk: its public call -/
def va_walk (K : Nat → Nat) (P : zP) (x y v : Int32) : Prop := ∃ h a, h < K 6 ∧ x = nI h ∧ a < K 4 ∧ y = nI a ∧ isW K h P.1 a v
section WP
variable {d n1 n2 : Nat} {fl : Nat → Bool} {p q : Bool} {ad : Nat → Nat} {J : mmJ} {Q : mmQ} {R F N K : Nat → Nat} {th cnt h s pl : Nat} {al qq dp : Nat → Nat} {tl L : Nat} {I3 : mmI}
theorem wmo_i (c : wC K h s cnt al qq dp tl L) (hpl : pl < K 4) (hC : mC I3 R F N th cnt al) (hq : mQ I3 qq dp tl) (ag : agR R K) (hz : ∀ b, b < nB K → ∀ m, vm K False m → zstp R th N (F b) m = zst K m b) (hLl : L < 20000)
    (fin : ∀ I' r, fr [(61, [])] I3 I' → wI K h s pl cnt al qq dp tl L I' tl 0 0 → wB K qq dp tl L I' tl 0 r → Q (some (.int r)) ((fl, n1, n2, p, q, ad), I', J)) :
    ∀ n i, n + i = tl → ∀ I' r, fr [(61, [])] I3 I' → wI K h s pl cnt al qq dp tl L I' i 0 0 → wB K qq dp tl L I' i 0 r → mm_w Q (mm_wc (d + 3)) bk_250 96 [some (.ref 46), none, none, some (.int (nI L)), some (.int r), some (.int (nI i)), none, none, none, none, none, none, none] [] ((fl, n1, n2, p, q, ad), I', J) := by
  have c2 := c.2.2.1
  intro n
  induction n with
  | zero =>
    intro i hi I' r hf g b
    have : i = tl := by omega
    subst this
    refine fx_250k_96 ?_
    rw [hf 46 33 rfl, hq.1, z_le (by omega) (by omega)]
    exact ⟨fun _ => fin I' r hf g b, fun e => absurd (Nat.le_refl _) e⟩
  | succ n ih =>
    intro i hi I' r hf g b
    refine fx_250k_96 ?_
    rw [hf 46 33 rfl, hq.1, z_le (by omega) (by omega), z_ix (by omega), hf 59 i rfl, hq.2.1 i (by omega)]
    exact ⟨fun e => absurd e (by omega), fun _ => ⟨z_in (by omega) (by decide), wm_a c hpl hC hq ag hz hLl (by omega) (fun I2 r2 f2 g2 b2 => ih (i + 1) (by omega) I2 r2 f2 g2 b2) (K 4) 0 (by omega) I' r hf g b⟩⟩
theorem wm_fill {I0 : mmI} {a2 a3 : Int32} (k : ∀ I, fr [(61, [])] I0 I → (∀ j, j < 81920 → I 61 j = -1) → mm_w Q (mm_wc d) bk_250 55 [some (.ref 46), none, some (.int a2), some (.int a3), some (.int (nI 81920)), none, none, none, none, none, none, none, none] [] ((fl, n1, n2, p, q, ad), I, J)) :
    ∀ n j, n + j = 81920 → ∀ I, fr [(61, [])] I0 I → (∀ i, i < j → I 61 i = -1) → mm_w Q (mm_wc d) bk_250 55 [some (.ref 46), none, some (.int a2), some (.int a3), some (.int (nI j)), none, none, none, none, none, none, none, none] [] ((fl, n1, n2, p, q, ad), I, J) := by
  intro n
  induction n with
  | zero =>
    intro j hj I hf hl
    have : j = 81920 := by omega
    subst this
    exact k I hf hl
  | succ n ih =>
    intro j hj I hf hl
    refine fx_250k_55 ?_
    rw [z_le (by decide) (by omega), z_ix (by omega), z_add]
    refine ⟨fun e => absurd e (by omega), fun _ => ⟨z_in (by omega) (by decide), ih (j + 1) (by omega) _ (hf.up rfl) (fun i hi => ?_)⟩⟩
    by_cases e : i = j
    · subst e; exact up_s _ _ _ _
    · rw [up_k e]; exact hl i (by omega)
theorem wW {I : mmI} {r : Int32} (c : wC K h s cnt al qq dp tl L) (hpl : pl < K 4) (hLl : L < 20000) (hD : isD (goal0 (kby K h) s) (nI L)) (g : wI K h s pl cnt al qq dp tl L I tl 0 0) (b : wB K qq dp tl L I tl 0 r) (hL1 : 40 * L < 1000000) : isW K h s pl r := by
  obtain ⟨ok, c1, c2, c3, c4, c5, c6, c7, c8, c9, c10, c11, c12, c13, c14⟩ := id c
  have gmin : ∀ k, k < L → ¬ goal0 (kby K h) s k := by
    rcases hD with ⟨n, e1, e2, -, e4⟩ | ⟨e1, -⟩
    · rw [z_eq (by omega) e2] at e1; rw [e1]; exact e4
    · rw [z_m2 (by omega)] at e1; exact e1.elim
  have fnd : ∀ m, rch (kby K h) s L m → m / 8 = 0 → ∃ j, j < tl ∧ qq j = m ∧ dp j = L := fun m h1 h2 => by
    obtain ⟨j, hj, e1, e2⟩ := c12 L m h1 (Nat.le_refl _)
    refine ⟨j, hj, e1, ?_⟩
    rcases Nat.lt_or_ge (dp j) L with z | z
    · exact absurd ⟨m, by rw [← e1]; exact c13 j hj, h2⟩ (gmin _ z)
    · omega
  have ex := wI_ex c hpl g (by omega)
  have least : ∀ m' a' w', wk K h s pl L m' a' w' → m' / 8 = 0 → ∃ j w'', j < tl ∧ a' < K 4 ∧ dp j = L ∧ qq j = m' ∧ w'' ≤ w' ∧ I 61 (5 * std (qq j) + a') = nI w'' := fun m' a' w' h1 h2 => by
    obtain ⟨j, hj, e1, e2⟩ := fnd m' (wk_rch _ _ _ _ h1) h2
    obtain ⟨w'', q1, q2⟩ := ex L j (by omega) hj e2 (Nat.le_refl _) a' w' (by rw [e2, e1]; exact h1)
    exact ⟨j, w'', hj, (wk_le ok hpl _ _ _ _ h1).1, e2, e1, q1, q2⟩
  obtain ⟨m, hm1, hm2⟩ := isD_g (by omega) hD
  obtain ⟨a1, w1, hw1⟩ := rch_wk (a := pl) L m hm1
  have hw1l := (wk_le ok hpl _ _ _ _ hw1).2
  obtain ⟨j1, w2, b1, b2, b3, b4, b5, b6⟩ := least m a1 w1 hw1 hm2
  rcases b with ⟨h1, h2⟩ | ⟨w, h1, h2, ⟨j, a, h3, h4, h5, h6, h7, h8⟩, h9⟩
  · have := h2 j1 a1 (.inl b1) b1 b2 b3 (by rw [b4]; exact hm2)
    rw [b6, z_m1 (by omega)] at this; exact this.elim
  · obtain ⟨w0, z1, z2⟩ := (g.1 j a h4 h5).resolve_left (fun z => by rw [h8, z_m1 h2] at z; exact z)
    have hw0 := (wk_le ok hpl _ _ _ _ z2).2
    rw [h6] at z2 hw0
    rw [h8, z_eq h2 (by omega)] at z1
    subst z1
    refine .inr ⟨L, w, by omega, hD, h1, by omega, ⟨qq j, a, z2, h7⟩, fun m' a' w' k1 k2 => ?_⟩
    have kl := (wk_le ok hpl _ _ _ _ k1).2
    obtain ⟨j2, w3, y1, y2, y3, y4, y5, y6⟩ := least m' a' w' k1 k2
    have := h9 j2 a' w3 (.inl y1) y1 y2 y3 (by rw [y4]; exact k2) y6 (by omega)
    omega
end WP
