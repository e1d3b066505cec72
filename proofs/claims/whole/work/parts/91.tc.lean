/-! the class's teams -/
theorem tb1 (a k : Nat) : a / 2 ^ k &&& 1 = (a.testBit k).toNat := by rw [Nat.and_one_is_mod, Nat.toNat_testBit]
theorem tb1_0 {a k : Nat} : (nI (a / 2 ^ k &&& 1) = nI 0) ↔ a.testBit k = false := by
  rw [tb1, z_eq (by cases a.testBit k <;> decide) (by decide)]
  cases a.testBit k <;> simp
theorem xor_sd {S h : Nat} (ht : S.testBit h = true) : S ^^^ 2 ^ h = sd S (2 ^ h) := by
  apply Nat.eq_of_testBit_eq
  intro i
  rw [Nat.testBit_xor, sd_tb, tb_2pow]
  by_cases e : h = i
  · subst e; simp [ht]
  · simp [e]
/-- the class's memory of who can have left what -/
def cT (I : mmI) (K : Nat → Nat) (W : Nat → Nat → Prop) (qq : Nat → Nat) (tl : Nat) : Prop := I 70 5 = nI tl ∧ (∀ i j, i < tl → j < tl → qq i = qq j → i = j) ∧ (∀ i, i < tl → I 72 i = nI (qq i) ∧ vm K False (qq i)) ∧ ∀ z, z < 16384 → ∃ M, I 71 z = nI M ∧ M < 2 ^ 16 ∧ (∀ S, M.testBit S = true ↔ W S z) ∧ (M ≠ 0 ↔ ∃ i, i < tl ∧ qq i = z)
section TCs
variable {d n1 n2 : Nat} {b1 b2 p q : Bool} {ad : Nat → Nat} {J : mmJ} {Q : mmQ} {K : Nat → Nat} {s cnt tl : Nat} {al qq : Nat → Nat} {I : mmI} {W : Nat → Nat → Prop}
theorem cT_cg {W' : Nat → Nat → Prop} (h : cT I K W qq tl) (e : ∀ S z, z < 16384 → (W S z ↔ W' S z)) : cT I K W' qq tl := by
  obtain ⟨a, b, c, d⟩ := h
  refine ⟨a, b, c, fun z hz => ?_⟩
  obtain ⟨M, m1, m2, m3, m4⟩ := d z hz
  exact ⟨M, m1, m2, fun S => (m3 S).trans (e S z hz), m4⟩
theorem cT_tl (ok : okR K) (h : cT I K W qq tl) : tl ≤ 3456 := (vm_many ok (fun i hi => (h.2.2.1 i hi).2) h.2.1).2 id
theorem cT_fr {I' : mmI} (h : cT I K W qq tl) (h1 : I' 70 5 = I 70 5) (h2 : ∀ i, I' 72 i = I 72 i) (h3 : ∀ i, I' 71 i = I 71 i) : cT I' K W qq tl := ⟨by rw [h1]; exact h.1, h.2.1, fun i hi => by rw [h2]; exact h.2.2.1 i hi, fun z hz => by rw [h3]; exact h.2.2.2 z hz⟩
theorem cT_F (ok : okR K) (h : cT I K W qq tl) : cF I := ⟨tl, qq, h.1, by have := cT_tl ok h; omega, fun i hi => ⟨(h.2.2.1 i hi).1, by have := (h.2.2.1 i hi).2.lt ok; omega⟩, fun z hz hn => by
  obtain ⟨M, m1, m2, m3, m4⟩ := h.2.2.2 z hz
  have : M = 0 := Classical.byContradiction fun y => by
    obtain ⟨i, hi, e⟩ := m4.mp y
    exact hn i hi e
  rw [m1, this]⟩
/-- one more mark -/
theorem cT_old {n S M : Nat} (h : cT I K W qq tl) (hn : n < 16384) (hS : S < 16) (hM : I 71 n = nI M) (hM2 : M < 2 ^ 16) (h0 : M ≠ 0) : cT (mm_up I 71 n (nI (M ||| 2 ^ S))) K (fun S' z => W S' z ∨ (S' = S ∧ z = n)) qq tl := by
  obtain ⟨a, b, c, dd⟩ := h
  refine ⟨by rw [up_c (by decide)]; exact a, b, fun i hi => by rw [up_c (by decide)]; exact c i hi, fun z hz => ?_⟩
  by_cases e : z = n
  · subst e
    obtain ⟨M', m1, m2, m3, m4⟩ := dd z hz
    have eM : M' = M := by rw [m1, z_eq (by omega) (by omega)] at hM; exact hM
    subst eM
    refine ⟨M' ||| 2 ^ S, up_s _ _ _ _, Nat.or_lt_two_pow m2 (Nat.pow_lt_pow_right (by decide) hS), fun S' => ?_, ⟨fun _ => m4.mp h0, fun _ => ?_⟩⟩
    · rw [Nat.testBit_or, Bool.or_eq_true, m3, tb_2pow, decide_eq_true_eq]
      exact ⟨fun w => w.elim .inl (fun y => .inr ⟨y.symm, rfl⟩), fun w => w.elim .inl (fun y => .inr y.1.symm)⟩
    · intro y
      have := Nat.left_le_or (n := M') (m := 2 ^ S)
      omega
  · rw [up_k e]
    obtain ⟨M', m1, m2, m3, m4⟩ := dd z hz
    exact ⟨M', m1, m2, fun S' => ⟨fun w => .inl ((m3 S').mp w), fun w => w.elim (m3 S').mpr (fun y => absurd y.2 e)⟩, m4⟩
theorem cT_new {n S : Nat} {y : Int32} (h : cT I K W qq tl) (hv : vm K False n) (hn : n < 16384) (hS : S < 16) (hM : I 71 n = nI 0) : cT (mm_up (mm_up (mm_up (mm_up (mm_up I 72 tl (nI n)) 73 tl (nI 0)) 70 5 (nI (tl + 1))) 71 n y) 71 n (nI (2 ^ S))) K (fun S' z => W S' z ∨ (S' = S ∧ z = n)) (ap qq tl n) (tl + 1) := by
  obtain ⟨a, b, c, dd⟩ := h
  obtain ⟨M, m1, m2, m3, m4⟩ := dd n hn
  have eM : M = 0 := by rw [m1, z_eq (by omega) (by decide)] at hM; exact hM
  subst eM
  have hnew : ∀ i, i < tl → qq i ≠ n := fun i hi e => absurd (m4.mpr ⟨i, hi, e⟩) (by decide)
  refine ⟨by rw [up_c (by decide), up_c (by decide), up_s], fun i j hi hj e => ?_, fun i hi => ?_, fun z hz => ?_⟩
  · by_cases ea : i = tl <;> by_cases eb : j = tl
    · omega
    · rw [ea, ap_eq, ap_lt (by omega)] at e; exact absurd e.symm (hnew j (by omega))
    · rw [eb, ap_eq, ap_lt (by omega)] at e; exact absurd e (hnew i (by omega))
    · rw [ap_lt (by omega), ap_lt (by omega)] at e; exact b i j (by omega) (by omega) e
  · rw [up_c (by decide), up_c (by decide), up_c (by decide), up_c (by decide)]
    by_cases e : i = tl
    · subst e; rw [up_s, ap_eq]; exact ⟨rfl, hv⟩
    · rw [up_k e, ap_lt (by omega)]; exact c i (by omega)
  · by_cases e : z = n
    · subst e
      refine ⟨2 ^ S, up_s _ _ _ _, Nat.pow_lt_pow_right (by decide) hS, fun S' => ?_, ⟨fun _ => ⟨tl, by omega, ap_eq _ _ _⟩, fun _ => Nat.ne_of_gt (Nat.two_pow_pos S)⟩⟩
      rw [tb_2pow, decide_eq_true_eq]
      have := m3 S'
      rw [Nat.zero_testBit] at this
      exact ⟨fun w => .inr ⟨w.symm, rfl⟩, fun w => w.elim (fun y => absurd (this.mpr y) (by decide)) (fun y => y.1.symm)⟩
    · rw [up_k e, up_k e, up_c (by decide), up_c (by decide), up_c (by decide)]
      obtain ⟨M', m1, m2, m3, m4⟩ := dd z hz
      refine ⟨M', m1, m2, fun S' => ⟨fun w => .inl ((m3 S').mp w), fun w => w.elim (m3 S').mpr (fun y => absurd y.2 e)⟩, m4.trans ⟨fun ⟨i, hi, ei⟩ => ⟨i, by omega, by rw [ap_lt hi]; exact ei⟩, fun ⟨i, hi, ei⟩ => ?_⟩⟩
      by_cases ei' : i = tl
      · rw [ei', ap_eq] at ei; exact absurd ei.symm e
      · rw [ap_lt (by omega)] at ei; exact ⟨i, by omega, ei⟩
/-- blowLast -/
theorem ct_103 {O S : Nat} (ok : okR K) (hR : cRb I K cnt al) (h : cT I K W qq tl) (hO : O < 16) (hS : S < 16) (hOS : O ≠ S) (k : ∀ I' qq' tl', fr diS I I' → cT I' K (fun S' z => W S' z ∨ (S' = S ∧ ∃ m', W O m' ∧ (∃ i, i < tl ∧ qq i = m') ∧ ∃ f, f < cnt ∧ z = zst K m' (al f))) qq' tl' → Q none ((mm_fl true b1 b2, n1, n2, p, q, ad), I', J)) : mm_wc (d + 3) 103 [.ref 70, .int (nI O), .int (nI S)] ((mm_fl true b1 b2, n1, n2, p, q, ad), I, J) Q := by
  have htl := cT_tl ok h
  have hc := hR.2.2.2.1
  have inn : ∀ i, i < tl → W O (qq i) → (∀ I' qq' tl', fr diS I I' → (∀ j, j < tl → qq' j = qq j) → tl ≤ tl' → cT I' K (fun S' z => W S' z ∨ (S' = S ∧ ∃ i', i' < i + 1 ∧ W O (qq i') ∧ ∃ f, f < cnt ∧ z = zst K (qq i') (al f))) qq' tl' → mm_w Q (mm_wc (d + 2)) bk_103 8 [some (.ref 70), some (.int (nI O)), some (.int (nI S)), some (.int (nI tl)), some (.int (nI (i + 1))), none, none, none] [] ((mm_fl true b1 b2, n1, n2, p, q, ad), I', J)) → ∀ n f, n + f = cnt → ∀ I' qq' tl', fr diS I I' → (∀ j, j < tl → qq' j = qq j) → tl ≤ tl' → cT I' K (fun S' z => W S' z ∨ (S' = S ∧ ((∃ i', i' < i ∧ W O (qq i') ∧ ∃ f, f < cnt ∧ z = zst K (qq i') (al f)) ∨ ∃ f', f' < f ∧ z = zst K (qq i) (al f')))) qq' tl' → mm_w Q (mm_wc (d + 2)) bk_103 36 [some (.ref 70), some (.int (nI O)), some (.int (nI S)), some (.int (nI tl)), some (.int (nI i)), some (.int (nI f)), none, none] [] ((mm_fl true b1 b2, n1, n2, p, q, ad), I', J) := by
    intro i hi hw nx n
    induction n with
    | zero =>
      intro f hf I' qq' tl' f' hq ht hT
      refine fx_103_36 ?_
      rw [(cRb_fr hR f' rfl rfl rfl rfl rfl rfl rfl).2.2.1, z_le (by omega) (by omega), z_add]
      refine ⟨fun _ => nx I' qq' tl' f' hq ht (cT_cg hT (fun S' z _ => ?_)), fun e => absurd (by omega) e⟩
      constructor
      · rintro (w | ⟨w, ⟨i', h1, h2, h3⟩ | ⟨g, h1, h2⟩⟩)
        · exact .inl w
        · exact .inr ⟨w, i', by omega, h2, h3⟩
        · exact .inr ⟨w, i, by omega, hw, g, by omega, h2⟩
      · rintro (w | ⟨w, i', h1, h2, g, h3, h4⟩)
        · exact .inl w
        · by_cases e : i' = i
          · subst e; exact .inr ⟨w, .inr ⟨g, by omega, h4⟩⟩
          · exact .inr ⟨w, .inl ⟨i', by omega, h2, g, h3, h4⟩⟩
    | succ n ih =>
      intro f hf I' qq' tl' f' hq ht hT
      have hR' := cRb_fr hR f' rfl rfl rfl rfl rfl rfl rfl
      have htl' := cT_tl ok hT
      have hqi : I' 72 i = nI (qq i) := by rw [(hT.2.2.1 i (by omega)).1, hq i hi]
      have vi : vm K False (qq i) := (h.2.2.1 i hi).2
      have v1 : vm K False (zst K (qq i) (al f)) := cstp_vm ok vi (fun i hi => by rw [Nat.zero_testBit] at hi; cases hi)
      have v2 := v1.lt ok
      have cg : ∀ S' z, z < 16384 → ((W S' z ∨ (S' = S ∧ ((∃ i', i' < i ∧ W O (qq i') ∧ ∃ f, f < cnt ∧ z = zst K (qq i') (al f)) ∨ ∃ f', f' < f ∧ z = zst K (qq i) (al f')))) ∨ (S' = S ∧ z = zst K (qq i) (al f)) ↔ W S' z ∨ (S' = S ∧ ((∃ i', i' < i ∧ W O (qq i') ∧ ∃ f, f < cnt ∧ z = zst K (qq i') (al f)) ∨ ∃ f', f' < f + 1 ∧ z = zst K (qq i) (al f')))) := by
        intro S' z _
        constructor
        · rintro ((w | ⟨w, y | ⟨g, h1, h2⟩⟩) | ⟨w, y⟩)
          · exact .inl w
          · exact .inr ⟨w, .inl y⟩
          · exact .inr ⟨w, .inr ⟨g, by omega, h2⟩⟩
          · exact .inr ⟨w, .inr ⟨f, by omega, y⟩⟩
        · rintro (w | ⟨w, y | ⟨g, h1, h2⟩⟩)
          · exact .inl (.inl w)
          · exact .inl (.inr ⟨w, .inl y⟩)
          · by_cases e : g = f
            · subst e; exact .inr ⟨w, h2⟩
            · exact .inl (.inr ⟨w, .inr ⟨g, by omega, h2⟩⟩)
      obtain ⟨M, m1, m2, -, -⟩ := hT.2.2.2 (zst K (qq i) (al f)) (by omega)
      have hvz : vp_in (nI (zst K (qq i) (al f))) 16384 := z_in (by omega) (by decide)
      refine fx_103_36 ?_
      rw [hR'.2.2.1, z_le (by omega) (by omega), z_ix (by omega), hqi, z_ix (by omega), hR'.2.2.2.2 f (by omega), z_add f 1]
      refine ⟨fun e => absurd e (by omega), fun _ => ⟨z_in (by omega) (by decide), z_in (by omega) (by decide), ct_24n hR'.1 hR'.2.1 vi ⟨_, _, _, rfl, rfl, ?_⟩⟩⟩
      rw [z_ix (by omega), m1, z_bit (by omega), z_or]
      refine ⟨hvz, fun e => ⟨hvz, ?_⟩, fun e => fx_91 ?_⟩
      · rw [z_eq (by omega) (by decide)] at e
        exact ih (f + 1) (by omega) _ qq' tl' (f'.up rfl) hq ht (cT_cg (cT_old hT (by omega) hS m1 m2 e) cg)
      · have eM : M = 0 := by rwa [z_eq (by omega) (by decide)] at e
        subst eM
        rw [hT.1, z_le (by decide) (by omega), z_ix (by omega), z_ix (by omega), z_add tl' 1, Nat.zero_or]
        refine ⟨fun y => absurd y (by omega), fun _ => ⟨z_in (by omega) (by decide), z_in (by omega) (by decide), hvz, _, _, rfl, rfl, hvz, ?_⟩⟩
        exact ih (f + 1) (by omega) _ (ap qq' tl' (zst K (qq i) (al f))) (tl' + 1) (((((f'.up rfl).up rfl).up rfl).up rfl).up rfl) (fun j hj => by rw [ap_lt (by omega)]; exact hq j hj) (by omega) (cT_cg (cT_new hT v1 (by omega) hS m1) cg)
  have out : ∀ n i, n + i = tl → ∀ I' qq' tl', fr diS I I' → (∀ j, j < tl → qq' j = qq j) → tl ≤ tl' → cT I' K (fun S' z => W S' z ∨ (S' = S ∧ ∃ i', i' < i ∧ W O (qq i') ∧ ∃ f, f < cnt ∧ z = zst K (qq i') (al f))) qq' tl' → mm_w Q (mm_wc (d + 2)) bk_103 8 [some (.ref 70), some (.int (nI O)), some (.int (nI S)), some (.int (nI tl)), some (.int (nI i)), none, none, none] [] ((mm_fl true b1 b2, n1, n2, p, q, ad), I', J) := by
    intro n
    induction n with
    | zero =>
      intro i hi I' qq' tl' f' hq ht hT
      refine fx_103_8 ?_
      rw [z_le (by omega) (by omega)]
      refine ⟨fun _ => k I' qq' tl' f' (cT_cg hT (fun S' z _ => ?_)), fun e => absurd (by omega) e⟩
      constructor
      · rintro (w | ⟨w, i', h1, h2, h3⟩)
        · exact .inl w
        · exact .inr ⟨w, qq i', h2, ⟨i', by omega, rfl⟩, h3⟩
      · rintro (w | ⟨w, m', h1, ⟨i', h2, rfl⟩, h3⟩)
        · exact .inl w
        · exact .inr ⟨w, i', by omega, h1, h3⟩
    | succ n ih =>
      intro i hi I' qq' tl' f' hq ht hT
      have hqi : I' 72 i = nI (qq i) := by rw [(hT.2.2.1 i (by omega)).1, hq i (by omega)]
      have vi : vm K False (qq i) := (h.2.2.1 i (by omega)).2
      have v2 := vi.lt ok
      obtain ⟨M, m1, m2, m3, -⟩ := hT.2.2.2 (qq i) (by omega)
      have mO : M.testBit O = true ↔ W O (qq i) := (m3 O).trans ⟨fun w => w.elim id (fun y => absurd y.1 hOS), .inl⟩
      refine fx_103_8 ?_
      rw [z_le (by omega) (by omega), z_ix (by omega), hqi, z_ix (by omega), m1, z_shr (by omega) (by omega), z_and, tb1_0, z_add]
      refine ⟨fun e => absurd e (by omega), fun _ => ⟨z_in (by omega) (by decide), z_in (by omega) (by decide), fun e => ih (i + 1) (by omega) I' qq' tl' f' hq ht (cT_cg hT (fun S' z _ => ?_)), fun e => inn i (by omega) (mO.mp (by simpa using e)) (fun I2 qq2 tl2 f2 q2 t2 h2 => ih (i + 1) (by omega) I2 qq2 tl2 f2 q2 t2 h2) cnt 0 (by omega) I' qq' tl' f' hq ht (cT_cg hT (fun S' z _ => ?_))⟩⟩
      · constructor
        · rintro (w | ⟨w, i', h1, h2, h3⟩)
          · exact .inl w
          · exact .inr ⟨w, i', by omega, h2, h3⟩
        · rintro (w | ⟨w, i', h1, h2, h3⟩)
          · exact .inl w
          · by_cases ei : i' = i
            · subst ei; rw [mO.mpr h2] at e; cases e
            · exact .inr ⟨w, i', by omega, h2, h3⟩
      · constructor
        · rintro (w | ⟨w, y⟩)
          · exact .inl w
          · exact .inr ⟨w, .inl y⟩
        · rintro (w | ⟨w, y | ⟨g, h1, -⟩⟩)
          · exact .inl w
          · exact .inr ⟨w, y⟩
          · omega
  refine fx_103 ?_
  rw [h.1]
  exact out tl 0 (by omega) I qq tl fr.rf (fun _ _ => rfl) (Nat.le_refl _) (cT_cg h (fun S' z _ => ⟨.inl, fun w => w.elim id (fun y => by obtain ⟨i', h1, -⟩ := y.2; omega)⟩))
end TCs
