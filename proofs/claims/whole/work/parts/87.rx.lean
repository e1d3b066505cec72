/-! the model's row -/
section RX
variable {d n1 n2 : Nat} {fl : Nat → Bool} {p q : Bool} {ad : Nat → Nat} {J : mmJ} {Q : mmQ} {R F N : Nat → Nat} {th cnt s : Nat} {al : Nat → Nat} {I : mmI}
theorem mC_r6 {I I' : mmI} (h : mC I R F N th cnt al) (hf : fr [(60, [])] I I') : mC I' R F N th cnt al := by
  obtain ⟨a, b, c, d, e⟩ := h
  exact ⟨a.of (fun k _ => hf 49 k rfl) (fun k _ => hf 54 k rfl) (hf 46 27 rfl) (fun k _ => hf 53 k rfl), by rw [hf 46 32 rfl]; exact b, c, fun k hk => by rw [hf 57 k rfl]; exact d k hk, e⟩
theorem ct_243 {a b da db : Nat} {X : Prop} (ha : a < 16384) (hb : b < 16384) (h1 : I 58 a = nI da) (h2 : I 58 b = nI db) (hda : da < 2 ^ 30) (hdb : db < 2 ^ 30) (h3 : db = da + 1 → (I 60 b = nI 1 ∧ X) ∨ (I 60 b = nI 0 ∧ ¬ X)) (k1 : db = da + 1 → X → Q (some (.int (nI 1))) ((fl, n1, n2, p, q, ad), I, J)) (k0 : ¬ (db = da + 1 ∧ X) → Q (some (.int (nI 0))) ((fl, n1, n2, p, q, ad), I, J)) : mm_wc (d + 1) 243 [.ref 46, .int (nI a), .int (nI b)] ((fl, n1, n2, p, q, ad), I, J) Q := by
  refine fx_243 ?_
  rw [z_ix (by omega), z_ix (by omega), h1, h2, z_add, z_eq (by omega) (by omega)]
  refine ⟨z_in hb (by decide), z_in ha (by decide), fun e => k0 (fun z => e z.1), fun e => ⟨z_in hb (by decide), fun z => ?_, fun z => ?_⟩⟩
  · rcases h3 e with w | w
    · exact absurd (w.1.symm.trans z) n10
    · exact k0 (fun y => w.2 y.2)
  · rcases h3 e with w | w
    · exact k1 e w.2
    · exact absurd w.1 z
/-- marked from j on -/
def mdn (sc : Nat → Nat → Prop) (qq dp : Nat → Nat) (tl L : Nat) (I : mmI) (j : Nat) : Prop := ∀ i, j ≤ i → i < tl → (I 60 (std (qq i)) = nI 1 ∧ onW sc qq dp L i) ∨ (I 60 (std (qq i)) = nI 0 ∧ ¬ onW sc qq dp L i)
variable {qq dp : Nat → Nat} {tl hd L : Nat}
theorem mr_in {I3 : mmI} {a1 : Int32} (hC : mC I3 R F N th cnt al) (hs : s / 8 < 2 ^ 11) (hq : mQ I3 qq dp tl) (hb : bf cnt (mst R F N th al) (msc R F N th cnt al) s qq dp tl hd 0) (hdi : ∀ i, i < tl → dp i ≤ i) (htl : tl ≤ 16384) (h35 : I3 46 35 = nI L) (hL31 : L < 2 ^ 31) (hm : ∀ k, k < L → ¬ goal0 (msc R F N th cnt al) s k) (hhd : hd < tl → L ≤ dp hd) {i : Nat} (hi : i < tl)
    (next : ∀ I', fr [(60, [])] I3 I' → mdn (msc R F N th cnt al) qq dp tl L I' i → mm_w Q (mm_wc (d + 3)) bk_242 172 [some (.ref 46), some (.int a1), some (.int (nI i)), none, none] [] ((fl, n1, n2, p, q, ad), I', J)) :
    ∀ n k, n + k = cnt → ∀ I', fr [(60, [])] I3 I' → mdn (msc R F N th cnt al) qq dp tl L I' (i + 1) → (((I' 60 (std (qq i)) = nI 1 ∧ ((dp i = L ∧ qq i / 8 = 0) ∨ (dp i < L ∧ ∃ k', k' < k ∧ goal0 (msc R F N th cnt al) (mst R F N th al k' (qq i)) (L - dp i - 1)))) ∨ (I' 60 (std (qq i)) = nI 0 ∧ ¬ ((dp i = L ∧ qq i / 8 = 0) ∨ (dp i < L ∧ ∃ k', k' < k ∧ goal0 (msc R F N th cnt al) (mst R F N th al k' (qq i)) (L - dp i - 1)))))) → mm_w Q (mm_wc (d + 3)) bk_242 112 [some (.ref 46), some (.int a1), some (.int (nI i)), some (.int (nI (std (qq i)))), some (.int (nI k))] [] ((fl, n1, n2, p, q, ad), I', J) := by
  have ok := hC.1.1.1
  have hV : ∀ i, i < tl → qq i / 8 < 2 ^ 11 := fun i hi => hb.V (V := fun m => m / 8 < 2 ^ 11) hs (msc_V ok) hi
  have hsi := std_lt (hV i hi)
  have hdil := hdi i hi
  -- how it ends
  have fin : ∀ k I', fr [(60, [])] I3 I' → mdn (msc R F N th cnt al) qq dp tl L I' (i + 1) → (((I' 60 (std (qq i)) = nI 1 ∧ ((dp i = L ∧ qq i / 8 = 0) ∨ (dp i < L ∧ ∃ k', k' < k ∧ goal0 (msc R F N th cnt al) (mst R F N th al k' (qq i)) (L - dp i - 1)))) ∨ (I' 60 (std (qq i)) = nI 0 ∧ ¬ ((dp i = L ∧ qq i / 8 = 0) ∨ (dp i < L ∧ ∃ k', k' < k ∧ goal0 (msc R F N th cnt al) (mst R F N th al k' (qq i)) (L - dp i - 1)))))) → (k = cnt ∨ L ≤ dp i ∨ (k ≤ cnt ∧ I' 60 (std (qq i)) ≠ nI 0)) → mm_w Q (mm_wc (d + 3)) bk_242 172 [some (.ref 46), some (.int a1), some (.int (nI i)), none, none] [] ((fl, n1, n2, p, q, ad), I', J) := by
    intro k I' hf hdn ho hx
    refine next I' hf (fun i' h1 h2 => ?_)
    by_cases e : i' = i
    · subst e
      have key : ((dp i' = L ∧ qq i' / 8 = 0) ∨ (dp i' < L ∧ ∃ k', k' < cnt ∧ goal0 (msc R F N th cnt al) (mst R F N th al k' (qq i')) (L - dp i' - 1))) ↔ onW (msc R F N th cnt al) qq dp L i' := by
        constructor
        · rintro (⟨e1, e2⟩ | ⟨e1, e2⟩)
          · exact ⟨by omega, by rw [e1, Nat.sub_self]; exact ⟨_, rfl, e2⟩⟩
          · exact (onW_s (fun _ _ => Iff.rfl) e1).mpr e2
        · intro z
          rcases Nat.lt_or_ge (dp i') L with e1 | e1
          · exact .inr ⟨e1, (onW_s (fun _ _ => Iff.rfl) e1).mp z⟩
          · have e2 : dp i' = L := by have := z.1; omega
            obtain ⟨-, x, h1, h2⟩ := z
            rw [e2, Nat.sub_self] at h1
            rw [show x = qq i' from h1] at h2
            exact .inl ⟨e2, h2⟩
      rcases ho with ⟨o1, o2⟩ | ⟨o1, o2⟩
      · refine .inl ⟨o1, key.mp ?_⟩
        rcases o2 with z | ⟨z, k', hk', g⟩
        · exact .inl z
        · refine .inr ⟨z, k', ?_, g⟩
          rcases hx with w | w | w
          · omega
          · omega
          · have := w.1; omega
      · refine .inr ⟨o1, fun z => o2 ?_⟩
        rcases hx with w | w | w
        · rw [w]; exact key.mpr z
        · rcases key.mpr z with y | ⟨y, -⟩
          · exact .inl y
          · omega
        · exact absurd o1 w.2
    · exact hdn i' (by omega) h2
  intro n
  induction n with
  | zero =>
    intro k hk I' hf hdn ho
    refine fx_242k_112 ?_
    rw [hf 46 32 rfl, hC.2.1, z_le (by have := hC.2.2.1; omega) (by have := hC.2.2.1; omega)]
    exact ⟨fun _ => fin k I' hf hdn ho (.inl (by omega)), fun e => absurd (by omega) e⟩
  | succ n ih =>
    intro k hk I' hf hdn ho
    have hc := hC.2.2.1
    have hC' := mC_r6 hC hf
    have hbl := hC.2.2.2.2 k (by omega)
    refine fx_242k_112 ?_
    rw [hf 46 32 rfl, hC.2.1, z_le (by omega) (by omega), z_ix (by omega), hf 46 35 rfl, h35, hf 58 _ rfl, hq.2.2.1 i hi, z_le hL31 (by omega), z_ix (by omega), hC'.2.2.2.1 k (by omega)]
    refine ⟨fun e => absurd e (by omega), fun _ => ⟨z_in hsi (by decide), fun e => fin k I' hf hdn ho (.inr (.inl e)), fun e => ⟨z_in hsi (by decide), fun e2 => fin k I' hf hdn ho (.inr (.inr ⟨by omega, e2⟩)), fun e2 => ⟨z_in (by omega) (by decide), ?_⟩⟩⟩⟩
    have hlt : dp i < L := by omega
    have hih : i < hd := by
      rcases Nat.lt_or_ge i hd with z | z
      · exact z
      · have := hb.2.2.2.2.2.2.1 hd i z hi
        have := hhd (by omega)
        omega
    obtain ⟨j, hj, ej, edj⟩ := hb.2.2.2.2.2.2.2.1 i hih k (by omega)
    refine ct_238 hC'.1 (hV i hi) hbl ⟨_, _, _, rfl, rfl, ?_⟩
    rw [show zstp R th N (F (al k)) (qq i) = qq j from ej.symm]
    have hsj := std_lt (hV j hj)
    have hdj := hdi j hj
    have up : ∀ v, fr [(60, [])] I3 (mm_up I' 60 (std (qq i)) v) ∧ mdn (msc R F N th cnt al) qq dp tl L (mm_up I' 60 (std (qq i)) v) (i + 1) := fun v => ⟨hf.up rfl, fun i' h1 h2 => by
      rw [up_k (fun z => by have := hb.2.2.2.2.1 i' i h2 hi (std_inj (hV i' h2) (hV i hi) z); omega)]
      exact hdn i' h1 h2⟩
    have no0 : ¬ ((dp i = L ∧ qq i / 8 = 0) ∨ (dp i < L ∧ ∃ k', k' < k ∧ goal0 (msc R F N th cnt al) (mst R F N th al k' (qq i)) (L - dp i - 1))) := by
      rcases ho with ⟨o1, -⟩ | ⟨-, o2⟩
      · exact absurd (o1.symm.trans e2) n10
      · exact o2
    have bs := bf_st (k := k) hb hm hj ej hlt edj
    refine ct_243 (X := onW (msc R F N th cnt al) qq dp L j) hsi hsj (by rw [hf 58 _ rfl]; exact hq.2.2.1 i hi) (by rw [hf 58 _ rfl]; exact hq.2.2.1 j hj) (by omega) (by omega) (fun z => hdn j ?_ hj) (fun z1 z2 => ⟨_, _, _, rfl, rfl, .inr rfl, z_in hsi (by decide), ?_⟩) (fun z => ⟨_, _, _, rfl, rfl, .inl rfl, z_in hsi (by decide), ?_⟩)
    · rcases Nat.lt_or_ge i j with y | y
      · exact y
      · have := hb.2.2.2.2.2.2.1 j i y hi
        omega
    · rw [z_add]
      exact ih (k + 1) (by omega) _ (up _).1 (up _).2 (.inl ⟨up_s _ _ _ _, .inr ⟨hlt, k, by omega, bs.mp ⟨z1, z2⟩⟩⟩)
    · rw [z_add]
      refine ih (k + 1) (by omega) _ (up _).1 (up _).2 (.inr ⟨up_s _ _ _ _, fun y => ?_⟩)
      rcases y with y | ⟨y, k', hk', g⟩
      · exact no0 (.inl y)
      · by_cases ek : k' = k
        · subst ek; exact z (bs.mpr g)
        · exact no0 (.inr ⟨y, k', by omega, g⟩)
theorem mr_out {I3 : mmI} {a1 : Int32} (hC : mC I3 R F N th cnt al) (hs : s / 8 < 2 ^ 11) (hq : mQ I3 qq dp tl) (hb : bf cnt (mst R F N th al) (msc R F N th cnt al) s qq dp tl hd 0) (hdi : ∀ i, i < tl → dp i ≤ i) (htl : tl ≤ 16384) (h35 : I3 46 35 = nI L) (hL31 : L < 2 ^ 31) (hm : ∀ k, k < L → ¬ goal0 (msc R F N th cnt al) s k) (hhd : hd < tl → L ≤ dp hd)
    (fin : ∀ I', fr [(60, [])] I3 I' → mdn (msc R F N th cnt al) qq dp tl L I' 0 → mm_w Q (mm_wc (d + 3)) bk_242 185 [some (.ref 46), some (.int a1), some (.int (I' 46 34)), some (.int (nI 0)), none] [] ((fl, n1, n2, p, q, ad), I', J)) :
    ∀ j, j ≤ tl → ∀ I', fr [(60, [])] I3 I' → mdn (msc R F N th cnt al) qq dp tl L I' j → mm_w Q (mm_wc (d + 3)) bk_242 67 [some (.ref 46), some (.int a1), some (.int (nI j - nI 1)), none, none] [] ((fl, n1, n2, p, q, ad), I', J) := by
  have ok := hC.1.1.1
  have hV : ∀ i, i < tl → qq i / 8 < 2 ^ 11 := fun i hi => hb.V (V := fun m => m / 8 < 2 ^ 11) hs (msc_V ok) hi
  intro j
  induction j with
  | zero =>
    intro _ I' hf hdn
    refine fx_242k_67 ⟨fun _ => fin I' hf hdn, fun e => absurd (by decide) e⟩
  | succ i ih =>
    intro hj I' hf hdn
    have hi : i < tl := by omega
    have hsi := std_lt (hV i hi)
    have hdil := hdi i hi
    rw [z_sub (by omega), Nat.add_sub_cancel]
    have lo := mr_in (Q := Q) (fl := fl) (n1 := n1) (n2 := n2) (p := p) (q := q) (ad := ad) (J := J) (d := d) (a1 := a1) hC hs hq hb hdi htl h35 hL31 hm hhd hi (fun I2 f2 d2 => fx_242k_172 (by rw [show nI i + (-1) = nI i - nI 1 by rw [Int32.sub_eq_add_neg]; rfl]; exact ih (by omega) I2 f2 d2)) cnt 0 (by omega)
    have up : ∀ v, fr [(60, [])] I3 (mm_up I' 60 (std (qq i)) v) ∧ mdn (msc R F N th cnt al) qq dp tl L (mm_up I' 60 (std (qq i)) v) (i + 1) := fun v => ⟨hf.up rfl, fun i' h1 h2 => by
      rw [up_k (fun z => by have := hb.2.2.2.2.1 i' i h2 hi (std_inj (hV i' h2) (hV i hi) z); omega)]
      exact hdn i' h1 h2⟩
    have n0 : ¬ (dp i = L ∧ qq i / 8 = 0) → ¬ ((dp i = L ∧ qq i / 8 = 0) ∨ (dp i < L ∧ ∃ k', k' < 0 ∧ goal0 (msc R F N th cnt al) (mst R F N th al k' (qq i)) (L - dp i - 1))) := by
      rintro hn (z | ⟨-, k', hk', -⟩)
      · exact hn z
      · omega
    refine fx_242k_67 ?_
    rw [z_lt (by omega) (by decide), z_ix (by omega), hf 59 i rfl, hq.2.1 i hi, z_ix (by omega), hf 58 _ rfl, hq.2.2.1 i hi, hf 46 35 rfl, h35, z_eq (by omega) hL31]
    refine ⟨fun z => absurd z (Nat.not_lt_zero _), fun _ => ⟨z_in (by omega) (by decide), z_in hsi (by decide), fun e => fx_242k_107 (fx_242k_108 ⟨.inl rfl, z_in hsi (by decide), ?_⟩), fun e => ct_237 ⟨_, _, _, rfl, rfl, fun e2 => fx_242k_107 (fx_242k_108 ⟨.inl rfl, z_in hsi (by decide), ?_⟩), fun e2 => fx_242k_108 ⟨.inr rfl, z_in hsi (by decide), ?_⟩⟩⟩⟩
    · rw [z_ix (by omega)]
      exact lo _ (up _).1 (up _).2 (.inr ⟨up_s _ _ _ _, n0 (fun z => e z.1)⟩)
    · rw [z_ix (by omega)]
      refine lo _ (up _).1 (up _).2 (.inr ⟨up_s _ _ _ _, n0 (fun z => e2 ?_)⟩)
      rw [(std_b (hV i hi)).1, z.2]
    · rw [z_ix (by omega)]
      rw [(std_b (hV i hi)).1, z_eq (by have := hV i hi; omega) (by decide)] at e2
      exact lo _ (up _).1 (up _).2 (.inl ⟨up_s _ _ _ _, .inl ⟨e, e2⟩⟩)
theorem mr_go {I3 I' : mmI} {K w : Nat → Nat} {Pb : Nat → Prop} {ee : Prop} {x : Nat} (hC : mC I3 R F N th cnt al) (hq : mQ I3 qq dp tl) (hb : bf cnt (mst R F N th al) (msc R F N th cnt al) s qq dp tl hd 0) (hdi : ∀ i, i < tl → dp i ≤ i) (htl : tl ≤ 16384) (hm : ∀ k, k < L → ¬ goal0 (msc R F N th cnt al) s k) (hhd : hd < tl → L ≤ dp hd)
    (okK : okR K) (hB : nB R = nB K) (hal : alw F Pb ee (nB R) cnt al) (hP : ∀ b, b < nB K → Pb b) (hz : ∀ b, b < nB K → ∀ m, vm K False m → zstp R th N (F b) m = zst K m b) (hgc : ∀ v, vm K False v → ∀ n, goal0 (msc R F N th cnt al) v n ↔ goal0 (kall K) v n) (hvm : ∀ i, i < tl → vm K False (qq i)) (hx : x < L) (hL31 : L < 2 ^ 31) (hw : rowP K L s w) (hf : fr [(60, [])] I3 I') (hdn : mdn (msc R F N th cnt al) qq dp tl L I' 0) (kf : Q (some (.int (nI (w x)))) ((fl, n1, n2, p, q, ad), I', J)) :
    ∀ n t, n + t = x → ∀ i, i < tl → qq i = rs K s w t → dp i = t → onW (msc R F N th cnt al) qq dp L i → mm_w Q (mm_wc (d + 3)) bk_242 185 [some (.ref 46), some (.int (nI x)), some (.int (nI (std (qq i)))), some (.int (nI t)), none] [] ((fl, n1, n2, p, q, ad), I', J) := by
  have hC' := mC_r6 hC hf
  have hc := hC.2.2.1
  have hV : ∀ i, i < tl → qq i / 8 < 2 ^ 11 := fun i hi => (hvm i hi).lt okK
  have hal' := hal
  rw [hB] at hal'
  have one : ∀ t, t ≤ x → ∀ i, i < tl → qq i = rs K s w t → dp i = t → onW (msc R F N th cnt al) qq dp L i → (t < x → ∀ j, j < tl → qq j = rs K s w (t + 1) → dp j = t + 1 → onW (msc R F N th cnt al) qq dp L j → mm_w Q (mm_wc (d + 3)) bk_242 185 [some (.ref 46), some (.int (nI x)), some (.int (nI (std (qq j)))), some (.int (nI (t + 1))), none] [] ((fl, n1, n2, p, q, ad), I', J)) → mm_w Q (mm_wc (d + 3)) bk_242 185 [some (.ref 46), some (.int (nI x)), some (.int (nI (std (qq i)))), some (.int (nI t)), none] [] ((fl, n1, n2, p, q, ad), I', J) := by
    intro t ht i hi eq ed on next
    have hsi := std_lt (hV i hi)
    have hdil := hdi i hi
    have hlt : dp i < L := by omega
    have hih : i < hd := by
      rcases Nat.lt_or_ge i hd with z | z
      · exact z
      · have := hb.2.2.2.2.2.2.1 hd i z hi
        have := hhd (by omega)
        omega
    obtain ⟨w1, w2, w3⟩ := rowP_at hw t (by omega)
    have lk : ∀ n' k, n' + k = cnt → (∀ k', k' < k → ¬ goal0 (msc R F N th cnt al) (mst R F N th al k' (qq i)) (L - dp i - 1)) → mm_w Q (mm_wc (d + 3)) bk_242 188 [some (.ref 46), some (.int (nI x)), some (.int (nI (std (qq i)))), some (.int (nI t)), some (.int (nI k))] [] ((fl, n1, n2, p, q, ad), I', J) := by
      intro n'
      induction n' with
      | zero =>
        intro k hk hn
        obtain ⟨k', hk', g⟩ := (onW_s (cnt := cnt) (st := mst R F N th al) (fun _ _ => Iff.rfl) hlt).mp on
        exact absurd g (hn k' (by omega))
      | succ n' ih =>
        intro k hk hn
        have hbl := hC.2.2.2.2 k (by omega)
        obtain ⟨j, hj, ej, edj⟩ := hb.2.2.2.2.2.2.2.1 i hih k (by omega)
        have hsj := std_lt (hV j hj)
        have hdj := hdi j hj
        have bs := bf_st (k := k) hb hm hj ej hlt edj
        refine fx_242k_188 ⟨z_in (by omega) (by decide), ?_⟩
        rw [z_ix (by omega), hC'.2.2.2.1 k (by omega)]
        refine ct_238 hC'.1 (hV i hi) hbl ⟨_, _, _, rfl, rfl, ?_⟩
        rw [show zstp R th N (F (al k)) (qq i) = qq j from ej.symm]
        refine ct_243 (X := onW (msc R F N th cnt al) qq dp L j) hsi hsj (by rw [hf 58 _ rfl]; exact hq.2.2.1 i hi) (by rw [hf 58 _ rfl]; exact hq.2.2.1 j hj) (by omega) (by omega) (fun z => hdn j (Nat.zero_le _) hj) (fun z1 z2 => ⟨_, _, _, rfl, rfl, fun _ => ?_, fun z => absurd z n10⟩) (fun z => ⟨_, _, _, rfl, rfl, fun z => absurd rfl z, fun _ => ?_⟩)
        · have g := bs.mp ⟨z1, z2⟩
          have vi := hvm i hi
          have ek : al k = w t := by
            refine row_k (K := K) (G := fun b => goal0 (kall K) (zst K (rs K s w t) b) (L - t - 1)) hal' hP (fun b b' h1 h2 e => ?_) w1 w2 w3 (by omega) ?_ (fun k' hk' g' => hn k' hk' ?_)
            · show goal0 _ (zst K (rs K s w t) b) _ ↔ goal0 _ (zst K (rs K s w t) b') _
              rw [← eq, ← hz b h1 _ vi, ← hz b' h2 _ vi, e]
            · show goal0 _ (zst K (rs K s w t) (al k)) _
              rw [← eq, ← hz _ (by rw [← hB]; exact hbl) _ vi, ← ed]
              rw [← ej] at g
              refine (hgc _ ?_ _).mp ?_
              · rw [show zstp R th N (F (al k)) (qq i) = qq j from ej.symm]; exact hvm j hj
              · rw [show zstp R th N (F (al k)) (qq i) = qq j from ej.symm]; exact g
            · have g2 : goal0 (kall K) (zst K (rs K s w t) (al k')) (L - t - 1) := g'
              obtain ⟨j', hj', ej', -⟩ := hb.2.2.2.2.2.2.2.1 i hih k' (by omega)
              rw [← eq, ← hz _ (by rw [← hB]; exact hC.2.2.2.2 k' (by omega)) _ vi, ← ed] at g2
              rw [show zstp R th N (F (al k')) (qq i) = qq j' from ej'.symm] at g2
              rw [← ej']
              exact (hgc _ (hvm j' hj') _).mpr g2
          have ej2 : qq j = rs K s w (t + 1) := by
            rw [ej]
            show zstp R th N (F (al k)) (qq i) = zst K (rs K s w t) (w t)
            rw [hz _ (by rw [← hB]; exact hbl) _ vi, eq, ek]
          rw [z_eq (by omega) (by omega), hC'.2.2.2.1 k (by omega)]
          refine ⟨fun e => ⟨z_in (by omega) (by decide), ct_238 hC'.1 (hV i hi) hbl ⟨_, _, _, rfl, rfl, ?_⟩⟩, fun e => ⟨z_in (by omega) (by decide), ?_⟩⟩
          · rw [show zstp R th N (F (al k)) (qq i) = qq j from ej.symm, z_add]
            exact next (by omega) j hj ej2 (by omega) z2
          · rw [ek, e]; exact kf
        · rw [z_add]
          refine ih (k + 1) (by omega) (fun k' hk' => ?_)
          by_cases e : k' = k
          · subst e; exact fun g => z (bs.mpr g)
          · exact hn k' (by omega)
    exact fx_242k_185 (lk cnt 0 (by omega) (fun k' hk' => absurd hk' (Nat.not_lt_zero _)))
  intro n
  induction n with
  | zero =>
    intro t ht i hi eq ed on
    exact one t (by omega) i hi eq ed on (fun z => absurd z (by omega))
  | succ n ihn =>
    intro t ht i hi eq ed on
    exact one t (by omega) i hi eq ed on (fun z j hj e1 e2 o => ihn (t + 1) (by omega) j hj e1 e2 o)
end RX
