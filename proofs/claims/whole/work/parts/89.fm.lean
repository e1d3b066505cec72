/-! the model's few: the fewest that can burn after just so many breaths -/
def fewR (K : Nat → Nat) (s x : Nat) (v : Int32) : Prop := ∃ c, v = nI c ∧ c ≤ 10 ∧ (∀ m, rch (kall K) s x m → c ≤ zcnt (m / 8)) ∧ (c = 10 ∨ ∃ m, rch (kall K) s x m ∧ zcnt (m / 8) = c)
theorem fewR.uq {K : Nat → Nat} {s x : Nat} {v v' : Int32} (h : fewR K s x v) (h' : fewR K s x v') : v = v' := by
  obtain ⟨c, e, c1, c2, c3⟩ := h
  obtain ⟨c', e', d1, d2, d3⟩ := h'
  have a : c ≤ c' := by
    rcases d3 with z | ⟨m, h1, h2⟩
    · omega
    · have := c2 m h1; omega
  have b : c' ≤ c := by
    rcases c3 with z | ⟨m, h1, h2⟩
    · omega
    · have := d2 m h1; omega
  rw [e, e', show c = c' by omega]
def ra_few (to : Bool) (K : Nat → Nat) (P : zP) (x v : Int32) (t : Nat) : Prop :=
  (to = true ∧ (∃ i, i < 10 ∧ x = nI i ∧ fewR K P.1 i v) ∧ t = 0) ∨ (to = true ∧ ¬ ix 10 x ∧ v = -1 ∧ t = 2) ∨ (to = false ∧ v = -1 ∧ t = 1)
section FM
variable {d n1 n2 : Nat} {fl : Nat → Bool} {p q : Bool} {ad : Nat → Nat} {J : mmJ} {Q : mmQ} {R F N : Nat → Nat} {th cnt s : Nat} {al : Nat → Nat} {I : mmI}
/-- the list holds just those that t breaths reach -/
def mL (I : mmI) (sc : Nat → Nat → Prop) (s t : Nat) (qq : Nat → Nat) (tl : Nat) : Prop := I 46 33 = nI tl ∧ tl ≤ 16384 ∧ (∀ i, i < tl → I 59 i = nI (std (qq i)) ∧ rch sc s t (qq i)) ∧ ∀ m, rch sc s t m → ∃ i, i < tl ∧ qq i = m
def mN (I : mmI) (t z : Nat) : Prop := I 58 z = -1 ∨ ∃ e, e ≤ t ∧ I 58 z = nI e
theorem fe_in {I4 : mmI} {a1 : Int32} {t i tl : Nat} {qq : Nat → Nat} (hC : mC I4 R F N th cnt al) (ht : t < 100) (hi : i < tl) (htl : tl ≤ 16384) (hv : qq i / 8 < 2 ^ 11) (hq : ∀ I', fr seS I4 I' → I' 59 i = nI (std (qq i)) → True)
    (next : ∀ I', fr [(58, [])] I I' → (∀ z, I' 58 z = I 58 z ∨ (I' 58 z = nI (t + 1) ∧ ∃ k, k < cnt ∧ z = std (mst R F N th al k (qq i)))) → (∀ z, I 58 z = nI (t + 1) → I' 58 z = nI (t + 1)) → (∀ k, k < cnt → I' 58 (std (mst R F N th al k (qq i))) = nI (t + 1)) → mm_w Q (mm_wc (d + 3)) bk_247 100 [some (.ref 46), some (.int a1), some (.int (nI (t + 1))), some (.int (nI (i + 1))), none] [] ((fl, n1, n2, p, q, ad), I', J))
    (h4 : fr seS I4 I) (h59 : I 59 i = nI (std (qq i))) :
    ∀ n k, n + k = cnt → ∀ I', fr [(58, [])] I I' → (∀ z, I' 58 z = I 58 z ∨ (I' 58 z = nI (t + 1) ∧ ∃ k, k < cnt ∧ z = std (mst R F N th al k (qq i)))) → (∀ z, I 58 z = nI (t + 1) → I' 58 z = nI (t + 1)) → (∀ k', k' < k → I' 58 (std (mst R F N th al k' (qq i))) = nI (t + 1)) → mm_w Q (mm_wc (d + 3)) bk_247 111 [some (.ref 46), some (.int a1), some (.int (nI (t + 1))), some (.int (nI i)), some (.int (nI k))] [] ((fl, n1, n2, p, q, ad), I', J) := by
  have ok := hC.1.1.1
  have hc := hC.2.2.1
  intro n
  induction n with
  | zero =>
    intro k hk I' hf ha hm hd
    have hC' := hC.fr (h4.tr (hf.sub rfl))
    refine fx_247_111 ?_
    rw [hC'.2.1, z_le (by omega) (by omega), z_add]
    exact ⟨fun _ => next I' hf ha hm (fun k' hk' => hd k' (by omega)), fun e => absurd (by omega) e⟩
  | succ n ih =>
    intro k hk I' hf ha hm hd
    have hC' := hC.fr (h4.tr (hf.sub rfl))
    have hsl : std (mst R F N th al k (qq i)) < 16384 := std_lt (msc_V ok (cnt := cnt) (qq i) _ hv ⟨k, by omega, rfl⟩)
    refine fx_247_111 ?_
    rw [hC'.2.1, z_le (by omega) (by omega), z_ix (by omega), hf 59 i rfl, h59, z_ix (by omega), hC'.2.2.2.1 k (by omega), z_add k 1]
    refine ⟨fun e => absurd e (by omega), fun _ => ⟨z_in (by omega) (by decide), z_in (by omega) (by decide), ct_238 hC'.1 hv (hC.2.2.2.2 k (by omega)) ⟨_, _, _, rfl, rfl, ?_⟩⟩⟩
    rw [show zstp R th N (F (al k)) (qq i) = mst R F N th al k (qq i) from rfl, z_ix (by omega)]
    refine ⟨z_in hsl (by decide), ih (k + 1) (by omega) _ (hf.up rfl) (fun z => ?_) (fun z hz => ?_) (fun k' hk' => ?_)⟩
    · by_cases e : z = std (mst R F N th al k (qq i))
      · rw [e]; exact .inr ⟨up_s _ _ _ _, k, by omega, rfl⟩
      · rw [up_k e]; exact ha z
    · by_cases e : z = std (mst R F N th al k (qq i))
      · rw [e]; exact up_s _ _ _ _
      · rw [up_k e]; exact hm z hz
    · by_cases e : std (mst R F N th al k' (qq i)) = std (mst R F N th al k (qq i))
      · rw [e]; exact up_s _ _ _ _
      · rw [up_k e]
        refine hd k' ?_
        have : k' ≠ k := fun z => e (by rw [z])
        omega
/-- one round -/
theorem fe_rd {I4 : mmI} {a1 : Int32} {t tl : Nat} {qq : Nat → Nat} (hC : mC I4 R F N th cnt al) (hs : s / 8 < 2 ^ 11) (ht : t < 100) (h4 : fr seS I4 I) (hL : mL I (msc R F N th cnt al) s t qq tl) (hN : ∀ z, z < 16384 → mN I t z)
    (next : ∀ I' (qq' : Nat → Nat) tl', fr seS I4 I' → mL I' (msc R F N th cnt al) s (t + 1) qq' tl' → (∀ z, z < 16384 → mN I' (t + 1) z) → mm_w Q (mm_wc (d + 3)) bk_247 93 [some (.ref 46), some (.int a1), some (.int (nI (t + 2))), none, none] [] ((fl, n1, n2, p, q, ad), I', J)) : mm_w Q (mm_wc (d + 3)) bk_247 100 [some (.ref 46), some (.int a1), some (.int (nI (t + 1))), some (.int (nI 0)), none] [] ((fl, n1, n2, p, q, ad), I, J) := by
  have ok := hC.1.1.1
  obtain ⟨l1, l2, l3, l4⟩ := hL
  have hV : ∀ n m, rch (msc R F N th cnt al) s n m → m / 8 < 2 ^ 11 := fun n m => rch_V (V := fun m => m / 8 < 2 ^ 11) hs (msc_V ok) n m
  -- collecting
  have co : ∀ Ia, fr seS I4 Ia → (∀ z, z < 16384 → mN Ia t z ∨ (Ia 58 z = nI (t + 1) ∧ ∃ m, rch (msc R F N th cnt al) s (t + 1) m ∧ std m = z)) → (∀ m, rch (msc R F N th cnt al) s (t + 1) m → Ia 58 (std m) = nI (t + 1)) → ∀ n z, n + z = 16384 → ∀ I' (qq' : Nat → Nat) tl', fr [(46, [33]), (59, [])] Ia I' → I' 46 33 = nI tl' → tl' ≤ z → (∀ i, i < tl' → I' 59 i = nI (std (qq' i)) ∧ rch (msc R F N th cnt al) s (t + 1) (qq' i)) → (∀ m, rch (msc R F N th cnt al) s (t + 1) m → std m < z → ∃ i, i < tl' ∧ qq' i = m) → mm_w Q (mm_wc (d + 3)) bk_247 162 [some (.ref 46), some (.int a1), some (.int (nI (t + 1))), some (.int (nI z)), none] [] ((fl, n1, n2, p, q, ad), I', J) := by
    intro Ia fa hz hall n
    induction n with
    | zero =>
      intro z hnz I' qq' tl' hf h33 hle h59 hin
      refine fx_247_162 ?_
      rw [z_le (by decide) (by omega), z_add]
      refine ⟨fun _ => next I' qq' tl' (fa.tr (hf.sub rfl)) ⟨h33, by omega, h59, fun m hm => hin m hm (by have := std_lt (hV _ m hm); omega)⟩ (fun y hy => ?_), fun e => absurd (by omega) e⟩
      unfold mN
      rw [hf 58 y rfl]
      rcases hz y hy with (w | ⟨e, w1, w2⟩) | ⟨w, -⟩
      · exact .inl w
      · exact .inr ⟨e, by omega, w2⟩
      · exact .inr ⟨t + 1, Nat.le_refl _, w⟩
    | succ n ih =>
      intro z hnz I' qq' tl' hf h33 hle h59 hin
      refine fx_247_162 ?_
      rw [z_le (by decide) (by omega), z_ix (by omega), hf 58 z rfl, h33, z_add z 1, z_add tl' 1, z_ix (by omega)]
      refine ⟨fun e => absurd e (by omega), fun _ => ⟨z_in (by omega) (by decide), fun e => ⟨z_in (by omega) (by decide), ?_⟩, fun e => ih (z + 1) (by omega) I' qq' tl' hf h33 (by omega) h59 (fun m hm hmz => ?_)⟩⟩
      · rcases hz z (by omega) with (w | ⟨e', w1, w2⟩) | ⟨-, m, hm, em⟩
        · rw [w] at e
          rw [eq_comm, z_m1 (by omega)] at e
          exact e.elim
        · rw [w2, z_eq (by omega) (by omega)] at e
          omega
        · refine ih (z + 1) (by omega) _ (ap qq' tl' m) (tl' + 1) ((hf.up rfl).up rfl) (up_s _ _ _ _) (by omega) (fun i hi => ?_) (fun m' hm' hmz => ?_)
          · rw [up_c (by decide)]
            by_cases ei : i = tl'
            · subst ei; rw [up_s, ap_eq, em]; exact ⟨rfl, hm⟩
            · rw [up_k ei, ap_lt (by omega)]; exact h59 i (by omega)
          · by_cases ez : std m' = z
            · exact ⟨tl', by omega, by rw [ap_eq]; exact std_inj (hV _ _ hm) (hV _ _ hm') (by omega)⟩
            · obtain ⟨i, hi, ei⟩ := hin m' hm' (by omega)
              exact ⟨i, by omega, by rw [ap_lt hi]; exact ei⟩
      · refine hin m hm ?_
        have : std m ≠ z := fun ez => e (by rw [← ez]; exact hall m hm)
        omega
  -- marking
  have mk : ∀ n i, n + i = tl → ∀ I', fr [(58, [])] I I' → (∀ z, z < 16384 → mN I' t z ∨ (I' 58 z = nI (t + 1) ∧ ∃ m, rch (msc R F N th cnt al) s (t + 1) m ∧ std m = z)) → (∀ i', i' < i → ∀ k, k < cnt → I' 58 (std (mst R F N th al k (qq i'))) = nI (t + 1)) → mm_w Q (mm_wc (d + 3)) bk_247 100 [some (.ref 46), some (.int a1), some (.int (nI (t + 1))), some (.int (nI i)), none] [] ((fl, n1, n2, p, q, ad), I', J) := by
    intro n
    induction n with
    | zero =>
      intro i hni I' hf hz hd
      refine fx_247_100 ?_
      rw [hf 46 33 rfl, l1, z_le (by omega) (by omega)]
      refine ⟨fun _ => ?_, fun e => absurd (by omega) e⟩
      have fa : fr seS I4 I' := h4.tr (hf.sub rfl)
      refine co I' fa hz ?_ 16384 0 rfl _ (fun _ => 0) 0 (fr.rf.up rfl) (up_s _ _ _ _) (Nat.le_refl _) (fun i hi => absurd hi (Nat.not_lt_zero _)) (fun m _ hm => absurd hm (Nat.not_lt_zero _))
      rintro m ⟨m', h1, k, hk, rfl⟩
      obtain ⟨i', hi', rfl⟩ := l4 m' h1
      exact hd i' (by omega) k hk
    | succ n ih =>
      intro i hni I' hf hz hd
      have hi : i < tl := by omega
      refine fx_247_100 ?_
      rw [hf 46 33 rfl, l1, z_le (by omega) (by omega)]
      refine ⟨fun e => absurd e (by omega), fun _ => ?_⟩
      refine fe_in (I := I') (tl := tl) (qq := qq) hC ht hi l2 (hV _ _ (l3 i hi).2) (fun _ _ _ => trivial) (fun I2 f2 a2 m2 d2 => ih (i + 1) (by omega) I2 (hf.tr f2) (fun z hz' => ?_) (fun i' hi' k hk => ?_)) (h4.tr (hf.sub rfl)) (by rw [hf 59 i rfl]; exact (l3 i hi).1) cnt 0 (by omega) I' fr.rf (fun z => .inl rfl) (fun z hz => hz) (fun k' hk' => absurd hk' (Nat.not_lt_zero _))
      · rcases a2 z with w | ⟨w, k, hk, rfl⟩
        · unfold mN
          rw [w]; exact hz z hz'
        · exact .inr ⟨w, _, ⟨qq i, (l3 i hi).2, k, hk, rfl⟩, rfl⟩
      · by_cases e : i' = i
        · subst e; exact d2 k hk
        · exact m2 _ (hd i' (by omega) k hk)
  exact mk tl 0 (by omega) I fr.rf (fun z hz => .inl (hN z hz)) (fun i' hi' => absurd hi' (Nat.not_lt_zero _))
/-- the least of the list -/
theorem fe_end {I4 : mmI} {t tl : Nat} {qq : Nat → Nat} (hs : s / 8 < 2 ^ 11) (ok : okR R) (hL : mL I (msc R F N th cnt al) s t qq tl) (k : ∀ c, c ≤ 10 → (∀ m, rch (msc R F N th cnt al) s t m → c ≤ zcnt (m / 8)) → (c = 10 ∨ ∃ m, rch (msc R F N th cnt al) s t m ∧ zcnt (m / 8) = c) → Q (some (.int (nI c))) ((fl, n1, n2, p, q, ad), I, J)) : mm_w Q (mm_wc (d + 1)) bk_247 219 [some (.ref 46), none, some (.int (nI 10)), some (.int (nI 0)), none] [] ((fl, n1, n2, p, q, ad), I, J) := by
  obtain ⟨l1, l2, l3, l4⟩ := hL
  have hV : ∀ n m, rch (msc R F N th cnt al) s n m → m / 8 < 2 ^ 11 := fun n m => rch_V (V := fun m => m / 8 < 2 ^ 11) hs (msc_V ok) n m
  have lp : ∀ n i, n + i = tl → ∀ c, c ≤ 10 → (∀ i', i' < i → c ≤ zcnt (qq i' / 8)) → (c = 10 ∨ ∃ m, rch (msc R F N th cnt al) s t m ∧ zcnt (m / 8) = c) → mm_w Q (mm_wc (d + 1)) bk_247 219 [some (.ref 46), none, some (.int (nI c)), some (.int (nI i)), none] [] ((fl, n1, n2, p, q, ad), I, J) := by
    intro n
    induction n with
    | zero =>
      intro i hi c c1 c2 c3
      refine fx_247_219 ?_
      rw [l1, z_le (by omega) (by omega)]
      refine ⟨fun _ => k c c1 (fun m hm => ?_) c3, fun e => absurd (by omega) e⟩
      obtain ⟨i', hi', rfl⟩ := l4 m hm
      exact c2 i' (by omega)
    | succ n ih =>
      intro i hi c c1 c2 c3
      have hv := hV _ _ (l3 i (by omega)).2
      have hz : zcnt (qq i / 8) ≤ 14 := popc_le _ _
      refine fx_247_219 ?_
      rw [l1, z_le (by omega) (by omega), z_ix (by omega), (l3 i (by omega)).1]
      refine ⟨fun e => absurd e (by omega), fun _ => ⟨z_in (by omega) (by decide), ct_237 ⟨_, _, _, rfl, rfl, ?_⟩⟩⟩
      rw [(std_b hv).1]
      refine ct_171 (by omega) ⟨_, _, _, rfl, rfl, ?_⟩
      rw [z_le (by omega) (by omega), z_add]
      refine ⟨fun e => ih (i + 1) (by omega) c c1 (fun i' hi' => ?_) c3, fun e => ⟨z_in (by omega) (by decide), ?_⟩⟩
      · by_cases ei : i' = i
        · subst ei; exact e
        · exact c2 i' (by omega)
      · rw [(l3 i (by omega)).1]
        refine ct_237 ⟨_, _, _, rfl, rfl, ?_⟩
        rw [(std_b hv).1]
        refine ct_171 (by omega) ⟨_, _, _, rfl, rfl, ?_⟩
        refine ih (i + 1) (by omega) (zcnt (qq i / 8)) (by omega) (fun i' hi' => ?_) (.inr ⟨_, (l3 i (by omega)).2, rfl⟩)
        by_cases ei : i' = i
        · subst ei; exact Nat.le_refl _
        · have := c2 i' (by omega); omega
  exact lp tl 0 (by omega) 10 (Nat.le_refl _) (fun i' hi' => absurd hi' (Nat.not_lt_zero _)) (.inl rfl)
theorem fe_fill {I0 : mmI} {b : Int32} (h : ∀ I, fr seS I0 I → (∀ s, s < 16384 → I 58 s = -1) → mm_w Q (mm_wc d) bk_247 48 [some (.ref 46), some (.int b), some (.int (nI 16384)), none, none] [] ((fl, n1, n2, p, q, ad), I, J)) :
    ∀ n k, n + k = 16384 → ∀ I, fr seS I0 I → (∀ s, s < k → I 58 s = -1) → mm_w Q (mm_wc d) bk_247 48 [some (.ref 46), some (.int b), some (.int (nI k)), none, none] [] ((fl, n1, n2, p, q, ad), I, J) := by
  intro n
  induction n with
  | zero =>
    intro k hk I hf hl
    have : k = 16384 := by omega
    subst this
    exact h I hf hl
  | succ n ih =>
    intro k hk I hf hl
    refine fx_247_48 ?_
    rw [z_le (by decide) (by omega), z_ix (by omega), z_add]
    refine ⟨fun e => absurd e (by omega), fun _ => ⟨z_in (by omega) (by decide), ih (k + 1) (by omega) _ (hf.up rfl) (fun s hs => ?_)⟩⟩
    by_cases e : s = k
    · subst e; exact up_s _ _ _ _
    · rw [up_k e]; exact hl s (by omega)
theorem fe_go {I4 : mmI} {x : Nat} (hC : mC I4 R F N th cnt al) (hs : s / 8 < 2 ^ 11) (hx : x < 10) (k : ∀ I' c, fr seS I4 I' → c ≤ 10 → (∀ m, rch (msc R F N th cnt al) s x m → c ≤ zcnt (m / 8)) → (c = 10 ∨ ∃ m, rch (msc R F N th cnt al) s x m ∧ zcnt (m / 8) = c) → Q (some (.int (nI c))) ((fl, n1, n2, p, q, ad), I', J)) : ∀ n t, n + t = x → ∀ I' qq tl, fr seS I4 I' → mL I' (msc R F N th cnt al) s t qq tl → (∀ z, z < 16384 → mN I' t z) → mm_w Q (mm_wc (d + 3)) bk_247 93 [some (.ref 46), some (.int (nI x)), some (.int (nI (t + 1))), none, none] [] ((fl, n1, n2, p, q, ad), I', J) := by
  have ok := hC.1.1.1
  intro n
  induction n with
  | zero =>
    intro t ht I' qq tl hf hL hN
    have : t = x := by omega
    subst this
    refine fx_247_93 ?_
    rw [z_lt (by omega) (by omega)]
    exact ⟨fun _ => fe_end (d := d + 2) (I4 := I4) hs ok hL (fun c c1 c2 c3 => k I' c hf c1 c2 c3), fun e => absurd (by omega) e⟩
  | succ n ih =>
    intro t ht I' qq tl hf hL hN
    refine fx_247_93 ?_
    rw [z_lt (by omega) (by omega)]
    exact ⟨fun e => absurd e (by omega), fun _ => fe_rd hC hs (by omega) hf hL hN (fun I2 qq' tl' f2 L2 N2 => ih (t + 1) (by omega) I2 qq' tl' f2 L2 N2)⟩
variable {T : zT} {to : Bool} {K : Nat → Nat} {P : zP} {tr : Nat} {f : zF}
theorem md_247 {x : Int32} (h : MI T to K P tr f I) (k : ∀ I' v t, frM I I' → MI T to K P t f I' → ra_few to K P x v t → Q (some (.int v)) ((fl, n1, n2, p, q, ad), I', J)) : mm_wc (d + 6) 247 [.ref 46, .int x] ((fl, n1, n2, p, q, ad), I, J) Q := by
  refine fx_247 (ct_166 h (fun I1 f1 h1 => ⟨_, _, rfl, rfl, ?_⟩))
  rw [h1.told, bI_0]
  refine ⟨fun e => ?_, fun e => ct_167 h1 (by decide) (by decide) (fun I' f' h' => ⟨_, _, _, rfl, rfl, k I' _ _ (f1.tr f') h' (.inr (.inr ⟨e, rfl, rfl⟩))⟩)⟩
  have ht : to = true := by simpa using e
  refine wi2 10 rfl (by decide) (by decide) (fun i hi ei => ⟨_, _, _, rfl, rfl, fun _ => ?_, fun z => absurd z n10⟩) (fun hn => ⟨_, _, _, rfl, rfl, fun z => absurd rfl z, fun _ => ct_167 h1 (by decide) (by decide) (fun I' f' h' => ⟨_, _, _, rfl, rfl, k I' _ _ (f1.tr f') h' (.inr (.inl ⟨ht, hn, rfl, rfl⟩))⟩)⟩)
  have hv := (h1.vms ht).1
  obtain ⟨ok, R, ag, mb⟩ := h1.cake ht
  have e3 := ag 3 (by decide) (by decide) (by decide)
  have hB := agR_nB ag
  have hBl := nB_le ok
  refine ct_234 (e := false) (F := fanM R 11) mb.1 mb.2.1 (fun b _ => Nat.lt_trans (bset_lt _ _) (by decide)) (fun I2 cnt al f2 g1 g2 g3 => ⟨_, _, rfl, rfl, ?_⟩)
  have mb1 : mB I2 R := mb.of (fun k _ => f2 49 k rfl) (fun k => f2 53 k rfl) (fun k => f2 54 k rfl)
  refine ct_224 mb1.1 ⟨_, _, rfl, rfl, ?_⟩
  have f3 : fr ssS I1 (mm_up I2 46 27 (nI (2 ^ R 3 - 1 ||| 1024))) := (f2.sub rfl).up rfl
  have mb2 : mB (mm_up I2 46 27 (nI (2 ^ R 3 - 1 ||| 1024))) R := mb1.of (fun k _ => up_c (by decide)) (fun k => up_c (by decide)) (fun k => up_c (by decide))
  have hC : mC (mm_up I2 46 27 (nI (2 ^ R 3 - 1 ||| 1024))) R (fanM R 11) (nearM R 11) (2 ^ R 3 - 1 ||| 1024) cnt al := ⟨⟨mb2.1, mb2.2.2, fun c _ => bset_lt _ _, up_s _ _ _ _, mb2.2.1, fun b _ => bset_lt _ _⟩, by rw [up_k (by decide)]; exact g1, by have := g3.1; omega, fun k hk => by rw [up_c (by decide)]; exact g2 k hk, fun k hk => (g3.2.1 k hk).1⟩
  generalize hI3 : mm_up I2 46 27 (nI (2 ^ R 3 - 1 ||| 1024)) = I3 at f3 hC ⊢
  have h3 := h1.ss f3
  have hg0 : ∀ i, Nat.testBit 0 i = true → i < K 3 := fun i hi => by rw [Nat.zero_testBit] at hi; cases hi
  have hz : ∀ b, b < nB K → ∀ m, vm K False m → zstp R (2 ^ R 3 - 1 ||| 1024) (nearM R 11) (fanM R 11 b) m = cstp K 0 0 (fanK K b) m := fun b hb m hm => zcK ag ok hb hm (fun i _ => Nat.zero_testBit i) (fun i hi => by rw [e3, th_tb hi]; simp)
  have rc : ∀ n m, rch (kall K) P.1 n m ↔ rch (msc R (fanM R 11) (nearM R 11) (2 ^ R 3 - 1 ||| 1024) cnt al) P.1 n m := rch_congr (V := vmm K False 0) ⟨hv, fun i _ => Nat.zero_testBit i⟩ (ksc_V ok hg0) (fun m m' hV => msc_ksc hB g3 (fun b hb => aP_allK ok ag hb) (fun b hb m hm => hz b hb m hm.1) m m' hV)
  rw [ei]
  refine fe_fill (fun I4 f4 hl => ?_) 16384 0 rfl I3 fr.rf (fun s hs => absurd hs (Nat.not_lt_zero _))
  refine fx_247_48 ⟨fun _ => ?_, fun e => absurd (by rw [z_le (by decide) (by decide)]; omega) e⟩
  have f34 : fr ssS I1 I4 := f3.tr (f4.sub rfl)
  have h4 := h1.ss f34
  obtain ⟨m1, m2, -, -⟩ := h4.mem ht
  rw [m1, m2]
  have hs := hv.lt ok
  refine ct_235 (hC.fr f4).1.1 (Nat.lt_trans (lt_p11 ok (dzK_lt K P.1)) (by decide)) ⟨_, _, _, rfl, rfl, ?_⟩
  have hst : P.1 / 8 ||| cde (ofK R 3) (dzK K P.1) (R 3) * 2 ^ 11 = std P.1 := by
    rw [or_mul hs, ofK_ag ag ok, e3, show cde (ofK K 3) (dzK K P.1) (K 3) = P.1 % 8 from hv.2.1.symm]; rfl
  rw [hst]
  have fA : fr seS I3 (mm_up (mm_up I4 59 0 (nI (std P.1))) 46 33 (nI 1)) := (f4.up rfl).up rfl
  refine fe_go hC hs hi (fun I5 c f5 c1 c2 c3 => ?_) i 0 (by omega) _ (fun _ => P.1) 1 fA ⟨up_s _ _ _ _, by decide, fun j hj => ⟨?_, rfl⟩, fun m hm => ⟨0, by decide, (show m = P.1 from hm).symm⟩⟩ (fun z hz => .inl ?_)
  · have f15 : fr ssS I1 I5 := f3.tr (f5.sub rfl)
    refine k I5 _ _ (f1.tr (fr.ssM f15)) (h1.ss f15) (.inl ⟨ht, ⟨i, hi, ei, c, rfl, c1, fun m hm => c2 m ((rc _ _).mp hm), ?_⟩, rfl⟩)
    rcases c3 with z | ⟨m, z1, z2⟩
    · exact .inl z
    · exact .inr ⟨m, (rc _ _).mpr z1, z2⟩
  · have : j = 0 := by omega
    subst this
    rw [up_c (by decide), up_s]
  · rw [up_c (by decide), up_c (by decide)]; exact hl z hz
end FM
