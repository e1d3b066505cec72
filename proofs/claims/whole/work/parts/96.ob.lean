/-! odds: the model -/
theorem lg0 {a b : Nat} (ha : a < 2 ^ 31) (hb : b < 2 ^ 31) : (lg_cmp (lN a) (lN b) ≤ nI 0) = (a ≤ b) := propext ((lg_cmp_le _ _).trans (lN_le ha hb))
theorem lg1 {a b : Nat} (ha : a < 2 ^ 31) (hb : b < 2 ^ 31) : (nI 0 ≤ lg_cmp (lN a) (lN b)) = (b ≤ a) := propext ((lg_cmp_ge _ _).trans (lN_le hb ha))
theorem lg2 {a b : Nat} (ha : a < 2 ^ 31) (hb : b < 2 ^ 31) : (nI 0 < lg_cmp (lN a) (lN b)) = (b < a) := propext ((lg_cmp_gt _ _).trans (lN_lt hb ha))
theorem lg3 {a b : Nat} (ha : a < 2 ^ 31) (hb : b < 2 ^ 31) : (lg_cmp (lN a) (lN b) < nI 0) = (a < b) := propext ((lg_cmp_lt _ _).trans (lN_lt ha hb))
theorem lg4 {a b : Nat} (ha : a < 2 ^ 31) (hb : b < 2 ^ 31) : (lg_cmp (lN a) (lN b) = nI 0) = (a = b) := propext ((lg_cmp_eq _ _).trans (lN_eq ha hb))
theorem lg5 : lg_cmp (-1) (lN 0) < nI 0 := by decide +kernel
theorem lN_0 {a : Nat} (ha : a < 2 ^ 31) (h : a ≠ 0) : ¬ lN a = 0 := fun e => h ((lN_eq (b := 0) ha (by decide)).mp e)
/-- what the model's odds rest on -/
def mO (I : mmI) (R K : Nat → Nat) : Prop := mW I R (fanM R 11) (nearM R 11) (2 ^ R 3 - 1 ||| 1024) ∧ agR R K ∧ okR K
/-- what is kept, of one and of two breaths -/
def kJ (K : Nat → Nat) (g : Nat → Nat → Nat) (J : mmJ) : Prop := ∀ m, vm K False m → (J 63 (std m) = -1 ∨ J 63 (std m) = lN (g 1 m)) ∧ (J 64 (std m) = -1 ∨ J 64 (std m) = lN (g 2 m))
theorem kJ.up1 {K : Nat → Nat} {g : Nat → Nat → Nat} {J : mmJ} (ok : okR K) (h : kJ K g J) {m : Nat} (hm : vm K False m) : kJ K g (mm_upJ J 63 (std m) (lN (g 1 m))) := by
  intro m' hm'
  refine ⟨?_, by rw [upJ_eq, if_neg (by omega)]; exact (h m' hm').2⟩
  rw [upJ_eq]
  by_cases e : std m' = std m
  · have e' := std_inj (hm'.lt ok) (hm.lt ok) e
    subst e'
    rw [if_pos ⟨rfl, rfl⟩]; exact .inr rfl
  · rw [if_neg (fun z => e z.2)]; exact (h m' hm').1
theorem kJ.up2 {K : Nat → Nat} {g : Nat → Nat → Nat} {J : mmJ} (ok : okR K) (h : kJ K g J) {m : Nat} (hm : vm K False m) : kJ K g (mm_upJ J 64 (std m) (lN (g 2 m))) := by
  intro m' hm'
  refine ⟨by rw [upJ_eq, if_neg (by omega)]; exact (h m' hm').1, ?_⟩
  rw [upJ_eq]
  by_cases e : std m' = std m
  · have e' := std_inj (hm'.lt ok) (hm.lt ok) e
    subst e'
    rw [if_pos ⟨rfl, rfl⟩]; exact .inr rfl
  · rw [if_neg (fun z => e z.2)]; exact (h m' hm').2
section OB
variable {d n1 n2 : Nat} {fl : Nat → Bool} {p q : Bool} {ad : Nat → Nat} {I : mmI} {J : mmJ} {Q : mmQ} {R K : Nat → Nat}
theorem ct_255 (h : mO I R K) {k : Nat} (hk : k < 3) (c : Q (some (.int (nI (wt K k)))) ((fl, n1, n2, p, q, ad), I, J)) : mm_wc (d + 1) 255 [.ref 46, .int (nI k)] ((fl, n1, n2, p, q, ad), I, J) Q := by
  obtain ⟨hW, ag, ok⟩ := h
  refine fx_255 ?_
  have h7 : K 7 ≤ 1 := ok.2.2.2.2.2.2.1
  rw [hW.1.2 7 (by decide), ag 7 (by decide) (by decide) (by decide), z_add, z_ix (by omega), hW.1.2 (10 + k) (by omega), ag (10 + k) (by omega) (by omega) (by omega), z_eq (by omega) (by decide), z_eq (by omega) (by decide)]
  unfold wt at c
  refine ⟨fun e => ⟨z_in (by omega) (by decide), ?_⟩, fun e => ⟨fun e1 => ?_, fun e1 => ?_⟩⟩
  · rw [if_pos (by omega)] at c; exact c
  · rw [if_neg (by omega), if_neg e1] at c; exact c
  · rw [if_neg (by omega), if_pos e1] at c; exact c
theorem lp_256 (h : mO I R K) {n : Nat} (hn : n ≤ 3) (c : Q (some (.long (lN (ws K ^ n)))) ((fl, n1, n2, p, q, ad), I, J)) : ∀ r k, r + k = n → mm_w Q (mm_wc (d + 1)) bk_256 5 [some (.ref 46), some (.int (nI n)), some (.long (lN (ws K ^ k))), none, some (.int (nI k))] [] ((fl, n1, n2, p, q, ad), I, J) := by
  have h0 := wt_le h.2.2 (k := 0) (by decide)
  have h1 := wt_le h.2.2 (k := 1) (by decide)
  have h2 := wt_le h.2.2 (k := 2) (by decide)
  intro r
  induction r with
  | zero =>
    intro k hk
    have : k = n := by omega
    subst this
    refine fx_256_5 ?_
    rw [z_le (by omega) (by omega)]
    exact ⟨fun _ => c, fun e => absurd (Nat.le_refl _) e⟩
  | succ r ih =>
    intro k hk
    refine fx_256_5 ?_
    rw [z_le (by omega) (by omega)]
    refine ⟨fun e => by omega, fun _ => ct_255 h (by decide) ⟨_, _, _, rfl, rfl, ct_255 h (by decide) ⟨_, _, _, rfl, rfl, ct_255 h (by decide) ⟨_, _, _, rfl, rfl, ?_⟩⟩⟩⟩
    rw [z_add, z_add, z_add, nI_l (by omega), lN_mul]
    have := ih (k + 1) (by omega)
    rw [Nat.pow_succ] at this
    exact this
theorem ct_256 (h : mO I R K) {n : Nat} (hn : n ≤ 3) (c : Q (some (.long (lN (ws K ^ n)))) ((fl, n1, n2, p, q, ad), I, J)) : mm_wc (d + 2) 256 [.ref 46, .int (nI n)] ((fl, n1, n2, p, q, ad), I, J) Q :=
  fx_256 (lp_256 h hn c n 0 (by omega))
theorem ct_238K (h : mO I R K) {m b : Nat} (hm : vm K False m) (hb : b < nB K) (c : Q (some (.int (nI (std (zst K m b))))) ((fl, n1, n2, p, q, ad), I, J)) : mm_wc (d + 3) 238 [.ref 46, .int (nI (std m)), .int (nI b)] ((fl, n1, n2, p, q, ad), I, J) Q := by
  obtain ⟨hW, ag, ok⟩ := h
  refine ct_238 hW (hm.lt ok) (by rw [agR_nB ag]; exact hb) ?_
  have e3 := ag 3 (by decide) (by decide) (by decide)
  rw [zcK ag ok (ms := 0) hb hm (fun i _ => Nat.zero_testBit i) (fun i hi => by rw [e3, th_tb hi]; simp)]
  exact c
theorem z_bre {b k : Nat} (hb : b < 320) (hk : k < 3) : nI b / nI 16 * nI 16 + (nI b - nI b / nI 16 * nI 16 + nI k + nI 15 - (nI b - nI b / nI 16 * nI 16 + nI k + nI 15) / nI 16 * nI 16) = nI (bre b k) := by
  rw [z_rem (by omega) (by decide) (by decide), z_div (by omega) (by decide) (by decide), z_add, z_add, z_rem (by omega) (by decide) (by decide), z_mul, z_add]
  rfl
/-- what is asked of chanceOf, contentOf at n -/
abbrev cOf (c : Nat) (g : Nat → Nat → Nat) (R K : Nat → Nat) (D n : Nat) : Prop := ∀ {n1 n2 : Nat} {fl : Nat → Bool} {p q : Bool} {ad : Nat → Nat} {I : mmI} {J : mmJ} {Q : mmQ} {m : Nat}, mO I R K → kJ K g J → vm K False m → (∀ J', kJ K g J' → Q (some (.long (lN (g n m)))) ((fl, n1, n2, p, q, ad), I, J')) → mm_wc D c [.ref 46, .int (nI (std m)), .int (nI n)] ((fl, n1, n2, p, q, ad), I, J) Q
theorem lp_257 {n m b : Nat} (ih : cOf 258 (chA K) R K (d + 3) n) (h : mO I R K) (hn : n ≤ 2) (hm : vm K False m) (hb : b < nB K) (c : ∀ J', kJ K (chA K) J' → Q (some (.long (lN (smk K (fun c => chA K n (zst K m c)) b 3)))) ((fl, n1, n2, p, q, ad), I, J')) : ∀ r k, r + k = 3 → ∀ J, kJ K (chA K) J → mm_w Q (mm_wc (d + 3)) bk_257 6 [some (.ref 46), some (.int (nI (std m))), some (.int (nI b)), some (.int (nI (n + 1))), some (.long (lN (smk K (fun c => chA K n (zst K m c)) b k))), none, some (.int (nI k)), none] [] ((fl, n1, n2, p, q, ad), I, J) := by
  have hB := nB_le h.2.2
  intro r
  induction r with
  | zero =>
    intro k hk J hJ
    have : k = 3 := by omega
    subst this
    refine fx_257_6 ?_
    rw [z_le (by omega) (by omega)]
    exact ⟨fun _ => c J hJ, fun e => absurd (Nat.le_refl _) e⟩
  | succ r ihr =>
    intro k hk J hJ
    have hw := wt_le h.2.2 (k := k) (by omega)
    have nx := ihr (k + 1) (by omega)
    rw [smk] at nx
    refine fx_257_6 ?_
    rw [z_le (by omega) (by omega)]
    refine ⟨fun e => by omega, fun _ => ct_255 h (by omega) ⟨_, _, _, rfl, rfl, ?_⟩⟩
    rw [z_le (by omega) (by omega), z_add]
    refine ⟨fun e => ?_, fun e => ct_255 h (by omega) ⟨_, _, _, rfl, rfl, ?_⟩⟩
    · have : wt K k = 0 := by omega
      rw [this, Nat.zero_mul, Nat.add_zero] at nx
      exact nx J hJ
    · rw [z_bre (by omega) (by omega), z_sub (by omega), nI_l (by omega)]
      refine ct_238K h hm (bre_lt hb) ⟨_, _, _, rfl, rfl, ?_⟩
      refine ih h hJ (zst_vm h.2.2 hm _) (fun J' hJ' => ⟨_, _, _, rfl, rfl, ?_⟩)
      rw [lN_mul, lN_add]
      exact nx J' hJ'
theorem ct_257 {n m b : Nat} (ih : cOf 258 (chA K) R K (d + 3) n) (h : mO I R K) (hJ : kJ K (chA K) J) (hn : n ≤ 2) (hm : vm K False m) (hb : b < nB K) (c : ∀ J', kJ K (chA K) J' → Q (some (.long (lN (smk K (fun c => chA K n (zst K m c)) b 3)))) ((fl, n1, n2, p, q, ad), I, J')) : mm_wc (d + 4) 257 [.ref 46, .int (nI (std m)), .int (nI b), .int (nI (n + 1))] ((fl, n1, n2, p, q, ad), I, J) Q :=
  fx_257 (lp_257 ih h hn hm hb c 3 0 rfl J hJ)

theorem lp_263 {n m b : Nat} (ih : cOf 264 (ctA K) R K (d + 3) n) (h : mO I R K) (hn : n ≤ 2) (hm : vm K False m) (hb : b < nB K) (c : ∀ J', kJ K (ctA K) J' → Q (some (.long (lN (smk K (fun c => ctA K n (zst K m c)) b 3)))) ((fl, n1, n2, p, q, ad), I, J')) : ∀ r k, r + k = 3 → ∀ J, kJ K (ctA K) J → mm_w Q (mm_wc (d + 3)) bk_263 6 [some (.ref 46), some (.int (nI (std m))), some (.int (nI b)), some (.int (nI (n + 1))), some (.long (lN (smk K (fun c => ctA K n (zst K m c)) b k))), none, some (.int (nI k)), none] [] ((fl, n1, n2, p, q, ad), I, J) := by
  have hB := nB_le h.2.2
  intro r
  induction r with
  | zero =>
    intro k hk J hJ
    have : k = 3 := by omega
    subst this
    refine fx_263_6 ?_
    rw [z_le (by omega) (by omega)]
    exact ⟨fun _ => c J hJ, fun e => absurd (Nat.le_refl _) e⟩
  | succ r ihr =>
    intro k hk J hJ
    have hw := wt_le h.2.2 (k := k) (by omega)
    have nx := ihr (k + 1) (by omega)
    rw [smk] at nx
    refine fx_263_6 ?_
    rw [z_le (by omega) (by omega)]
    refine ⟨fun e => by omega, fun _ => ct_255 h (by omega) ⟨_, _, _, rfl, rfl, ?_⟩⟩
    rw [z_le (by omega) (by omega), z_add]
    refine ⟨fun e => ?_, fun e => ct_255 h (by omega) ⟨_, _, _, rfl, rfl, ?_⟩⟩
    · have : wt K k = 0 := by omega
      rw [this, Nat.zero_mul, Nat.add_zero] at nx
      exact nx J hJ
    · rw [z_bre (by omega) (by omega), z_sub (by omega), nI_l (by omega)]
      refine ct_238K h hm (bre_lt hb) ⟨_, _, _, rfl, rfl, ?_⟩
      refine ih h hJ (zst_vm h.2.2 hm _) (fun J' hJ' => ⟨_, _, _, rfl, rfl, ?_⟩)
      rw [lN_mul, lN_add]
      exact nx J' hJ'
theorem ct_263 {n m b : Nat} (ih : cOf 264 (ctA K) R K (d + 3) n) (h : mO I R K) (hJ : kJ K (ctA K) J) (hn : n ≤ 2) (hm : vm K False m) (hb : b < nB K) (c : ∀ J', kJ K (ctA K) J' → Q (some (.long (lN (smk K (fun c => ctA K n (zst K m c)) b 3)))) ((fl, n1, n2, p, q, ad), I, J')) : mm_wc (d + 4) 263 [.ref 46, .int (nI (std m)), .int (nI b), .int (nI (n + 1))] ((fl, n1, n2, p, q, ad), I, J) Q :=
  fx_263 (lp_263 ih h hn hm hb c 3 0 rfl J hJ)

theorem lp_258 {n m : Nat} (ih : cOf 258 (chA K) R K (d + 3) n) (h : mO I R K) (hn : n ≤ 2) (hm : vm K False m) (h0 : m / 8 ≠ 0) (c : ∀ J', kJ K (chA K) J' → Q (some (.long (lN (chA K (n + 1) m)))) ((fl, n1, n2, p, q, ad), I, J')) : ∀ r b, r + b = nB K → ∀ J, kJ K (chA K) J → mm_w Q (mm_wc (d + 4)) bk_258 70 [some (.ref 46), some (.int (nI (std m))), some (.int (nI (n + 1))), some (.long (lN (mxB (byA K n m) b))), none, some (.int (nI b)), none, none] [] ((fl, n1, n2, p, q, ad), I, J) := by
  have ok := h.2.2
  have hB := nB_le ok
  have hs := std_lt (hm.lt ok)
  have hwp := ws_pow ok (n := n + 1) (by omega)
  have hby : ∀ b, b < nB K → byA K n m b ≤ ws K ^ (n + 1) := fun b hb => by
    rw [Nat.pow_succ, Nat.mul_comm]; exact smk_le hb (fun c _ => chA_le n _)
  have e1 : chA K (n + 1) m = mxB (byA K n m) (nB K) := by rw [chA, if_neg h0]; rfl
  intro r
  induction r with
  | zero =>
    intro b hb J hJ
    have : b = nB K := by omega
    subst this
    refine fx_258k_70 (ct_206 h.1.1 ⟨_, _, _, rfl, rfl, ?_⟩)
    rw [agR_nB h.2.1, z_le (by omega) (by omega), ← e1]
    refine ⟨fun _ => ?_, fun e => absurd (Nat.le_refl _) e⟩
    rw [z_eq (by omega) (by decide), z_ix (by omega)]
    refine ⟨fun ne => fx_258k_121 ?_, fun e => ⟨z_in hs (by decide), fx_258k_121 ?_⟩⟩
    · rw [z_eq (by omega) (by decide), z_ix (by omega)]
      refine ⟨fun _ => fx_258k_133 (c J hJ), fun e => ⟨z_in hs (by decide), fx_258k_133 (c _ ?_)⟩⟩
      have : n = 1 := by omega
      subst this
      exact hJ.up2 ok hm
    · have : n = 0 := by omega
      subst this
      rw [z_eq (by omega) (by decide)]
      exact ⟨fun _ => fx_258k_133 (c _ (hJ.up1 ok hm)), fun e => absurd e (by decide)⟩
  | succ r ihr =>
    intro b hb J hJ
    refine fx_258k_70 (ct_206 h.1.1 ⟨_, _, _, rfl, rfl, ?_⟩)
    rw [agR_nB h.2.1, z_le (by omega) (by omega)]
    refine ⟨fun e => by omega, fun _ => ct_257 ih h hJ hn hm (by omega) (fun J' hJ' => ⟨_, _, _, rfl, rfl, ?_⟩)⟩
    have hb1 := hby b (by omega)
    have hb2 : mxB (byA K n m) b ≤ ws K ^ (n + 1) := mxB_le (fun b' hb' => hby b' (by omega))
    have nx := ihr (b + 1) (by omega) J' hJ'
    rw [mxB] at nx
    show (lg_cmp (lN (byA K n m b)) _ ≤ nI 0 → _) ∧ (¬ lg_cmp (lN (byA K n m b)) _ ≤ nI 0 → _)
    rw [lg0 (by omega) (by omega)]
    refine ⟨fun e => fx_258k_102 ?_, fun e => fx_258k_102 ?_⟩
    · rw [z_add]; rw [Nat.max_eq_left e] at nx; exact nx
    · rw [z_add]; rw [Nat.max_eq_right (by omega)] at nx; exact nx
theorem ct_258 : ∀ (n d : Nat), n ≤ 3 → cOf 258 (chA K) R K (d + 2 * n + 3) n := by
  intro n
  induction n with
  | zero =>
    intro d _ n1 n2 fl p q ad I J Q m h hJ hm c
    have ok := h.2.2
    have hl := hm.lt ok
    refine fx_258k (ct_237 ⟨_, _, _, rfl, rfl, ?_⟩)
    rw [(std_b hl).1, z_eq (by omega) (by decide)]
    refine ⟨fun e => ⟨fun e2 => absurd rfl e2, fun _ => ?_⟩, fun e => ct_256 h (by decide) ⟨_, _, _, rfl, rfl, ?_⟩⟩
    · have := c J hJ
      rw [chA, if_neg e] at this; exact this
    · have := c J hJ
      rw [chA, if_pos e] at this; exact this
  | succ n ih =>
    intro d hn n1 n2 fl p q ad I J Q m h hJ hm c
    have ok := h.2.2
    have hl := hm.lt ok
    have hs := std_lt hl
    have hwp := ws_pow ok (n := n + 1) (by omega)
    have hle := chA_le (K := K) (n + 1) m
    have ih' : cOf 258 (chA K) R K (d + 2 * n + 3) n := ih d (by omega)
    rw [show d + 2 * (n + 1) + 3 = d + 2 * n + 4 + 1 by omega]
    refine fx_258k (ct_237 ⟨_, _, _, rfl, rfl, ?_⟩)
    rw [(std_b hl).1, z_eq (by omega) (by decide)]
    refine ⟨fun e => ?_, fun e => ct_256 h hn ⟨_, _, _, rfl, rfl, ?_⟩⟩
    · have go : ∀ J, kJ K (chA K) J → mm_w Q (mm_wc (d + 2 * n + 4)) bk_258 65 [some (.ref 46), some (.int (nI (std m))), some (.int (nI (n + 1))), none, none, none, none, none] [] ((fl, n1, n2, p, q, ad), I, J) := fun J hJ => fx_258k_65 (lp_258 ih' h (by omega) hm e c (nB K) 0 (by omega) J hJ)
      have go2 : n ≠ 0 → mm_w Q (mm_wc (d + 2 * n + 4)) bk_258 42 [some (.ref 46), some (.int (nI (std m))), some (.int (nI (n + 1))), none, none, none, none, none] [] ((fl, n1, n2, p, q, ad), I, J) := fun _ => by
        refine fx_258k_42 ?_
        rw [z_eq (by omega) (by decide), z_ix (by omega)]
        refine ⟨fun _ => go J hJ, fun e2 => ?_⟩
        have : n = 1 := by omega
        subst this
        refine ⟨z_in hs (by decide), ?_⟩
        rcases (hJ m hm).2 with z | z
        · rw [z]; exact ⟨fun _ => go J hJ, fun w => absurd lg5 w⟩
        · rw [z, lg3 (Nat.lt_of_le_of_lt hle (by omega)) (by decide)]
          exact ⟨fun w => absurd w (Nat.not_lt_zero _), fun _ => ⟨z_in hs (by decide), c J hJ⟩⟩
      rw [z_eq (by omega) (by decide), z_eq (by omega) (by decide), z_ix (by omega)]
      refine ⟨fun _ => ⟨fun e1 => go2 (by omega), fun e1 => ⟨z_in hs (by decide), ?_⟩⟩, fun e1 => by omega⟩
      have : n = 0 := by omega
      subst this
      have g42 : mm_w Q (mm_wc (d + 2 * 0 + 4)) bk_258 42 [some (.ref 46), some (.int (nI (std m))), some (.int (nI (0 + 1))), none, none, none, none, none] [] ((fl, n1, n2, p, q, ad), I, J) := by
        refine fx_258k_42 ?_
        rw [z_eq (by omega) (by decide)]
        exact ⟨fun _ => go J hJ, fun e2 => absurd e2 (by decide)⟩
      rcases (hJ m hm).1 with z | z
      · rw [z]; exact ⟨fun _ => g42, fun w => absurd lg5 w⟩
      · rw [z, lg3 (Nat.lt_of_le_of_lt hle (by omega)) (by decide)]
        exact ⟨fun w => absurd w (Nat.not_lt_zero _), fun _ => ⟨z_in hs (by decide), c J hJ⟩⟩
    · have := c J hJ
      rw [chA, if_pos e] at this; exact this

theorem lp_264 {n m : Nat} (ih : cOf 264 (ctA K) R K (d + 3) n) (h : mO I R K) (hn : n ≤ 2) (hm : vm K False m) (h0 : m / 8 ≠ 0) (c : ∀ J', kJ K (ctA K) J' → Q (some (.long (lN (ctA K (n + 1) m)))) ((fl, n1, n2, p, q, ad), I, J')) : ∀ r b, r + b = nB K → ∀ J, kJ K (ctA K) J → mm_w Q (mm_wc (d + 4)) bk_264 76 [some (.ref 46), some (.int (nI (std m))), some (.int (nI (n + 1))), some (.long (lN (mnB (fun b => smk K (fun c => ctA K n (zst K m c)) b 3) (zcnt (m / 8) * ws K ^ (n + 1)) b))), none, some (.int (nI b)), none, none] [] ((fl, n1, n2, p, q, ad), I, J) := by
  have ok := h.2.2
  have hB := nB_le ok
  have hs := std_lt (hm.lt ok)
  have hwp := ws_pow ok (n := n + 1) (by omega)
  have hz : zcnt (m / 8) * ws K ^ (n + 1) ≤ 14 * 19683 := Nat.mul_le_mul (zcnt_le _) hwp.2
  have hby : ∀ b, b < nB K → smk K (fun c => ctA K n (zst K m c)) b 3 ≤ 14 * ws K ^ (n + 1) := fun b hb => by
    rw [Nat.pow_succ, Nat.mul_comm (ws K ^ n), ← Nat.mul_assoc, Nat.mul_comm 14, Nat.mul_assoc]; exact smk_le hb (fun c _ => ctA_le n _)
  have e1 : ctA K (n + 1) m = mnB (fun b => smk K (fun c => ctA K n (zst K m c)) b 3) (zcnt (m / 8) * ws K ^ (n + 1)) (nB K) := by rw [ctA, if_neg h0]
  intro r
  induction r with
  | zero =>
    intro b hb J hJ
    have : b = nB K := by omega
    subst this
    refine fx_264k_76 (ct_206 h.1.1 ⟨_, _, _, rfl, rfl, ?_⟩)
    rw [agR_nB h.2.1, z_le (by omega) (by omega), ← e1]
    refine ⟨fun _ => ?_, fun e => absurd (Nat.le_refl _) e⟩
    rw [z_eq (by omega) (by decide), z_ix (by omega)]
    refine ⟨fun ne => fx_264k_127 ?_, fun e => ⟨z_in hs (by decide), fx_264k_127 ?_⟩⟩
    · rw [z_eq (by omega) (by decide), z_ix (by omega)]
      refine ⟨fun _ => fx_264k_139 (c J hJ), fun e => ⟨z_in hs (by decide), fx_264k_139 (c _ ?_)⟩⟩
      have : n = 1 := by omega
      subst this
      exact hJ.up2 ok hm
    · have : n = 0 := by omega
      subst this
      rw [z_eq (by omega) (by decide)]
      exact ⟨fun _ => fx_264k_139 (c _ (hJ.up1 ok hm)), fun e => absurd e (by decide)⟩
  | succ r ihr =>
    intro b hb J hJ
    refine fx_264k_76 (ct_206 h.1.1 ⟨_, _, _, rfl, rfl, ?_⟩)
    rw [agR_nB h.2.1, z_le (by omega) (by omega)]
    refine ⟨fun e => by omega, fun _ => ct_263 ih h hJ hn hm (by omega) (fun J' hJ' => ⟨_, _, _, rfl, rfl, ?_⟩)⟩
    have hb1 := hby b (by omega)
    have hb2 := mnB_le (f := fun b => smk K (fun c => ctA K n (zst K m c)) b 3) (c := zcnt (m / 8) * ws K ^ (n + 1)) b
    have nx := ihr (b + 1) (by omega) J' hJ'
    rw [mnB] at nx
    rw [lg1 (by omega) (by omega)]
    refine ⟨fun e => fx_264k_108 ?_, fun e => fx_264k_108 ?_⟩
    · rw [z_add]; rw [Nat.min_eq_left e] at nx; exact nx
    · rw [z_add]; rw [Nat.min_eq_right (by omega)] at nx; exact nx
theorem ct_264 : ∀ (n d : Nat), n ≤ 3 → cOf 264 (ctA K) R K (d + 2 * n + 3) n := by
  intro n
  induction n with
  | zero =>
    intro d _ n1 n2 fl p q ad I J Q m h hJ hm c
    have ok := h.2.2
    have hl := hm.lt ok
    refine fx_264k (ct_237 ⟨_, _, _, rfl, rfl, ?_⟩)
    rw [(std_b hl).1]
    refine ct_171 (by omega) ⟨_, _, _, rfl, rfl, ct_256 h (by decide) ⟨_, _, _, rfl, rfl, ?_⟩⟩
    have hz := zcnt_le (m / 8)
    rw [nI_l (by omega), lN_mul]
    refine ⟨fun _ => fx_264k_25 ?_, fun e2 => absurd rfl e2⟩
    rw [Nat.pow_zero, Nat.mul_one]
    exact c J hJ
  | succ n ih =>
    intro d hn n1 n2 fl p q ad I J Q m h hJ hm c
    have ok := h.2.2
    have hl := hm.lt ok
    have hs := std_lt hl
    have hwp := ws_pow ok (n := n + 1) (by omega)
    have hle := ctA_le (K := K) (n + 1) m
    have ih' : cOf 264 (ctA K) R K (d + 2 * n + 3) n := ih d (by omega)
    have hz := zcnt_le (m / 8)
    have hzw : zcnt (m / 8) * ws K ^ (n + 1) ≤ 14 * 19683 := Nat.mul_le_mul (zcnt_le _) hwp.2
    rw [show d + 2 * (n + 1) + 3 = d + 2 * n + 4 + 1 by omega]
    refine fx_264k (ct_237 ⟨_, _, _, rfl, rfl, ?_⟩)
    rw [(std_b hl).1]
    refine ct_171 (by omega) ⟨_, _, _, rfl, rfl, ct_256 h hn ⟨_, _, _, rfl, rfl, ?_⟩⟩
    rw [nI_l (by omega), lN_mul, z_eq (by omega) (by decide), z_eq (by omega) (by decide), z_ix (by omega), lg4 (by omega) (by decide)]
    refine ⟨fun e => by omega, fun _ => ⟨fun e => ?_, fun e => fx_264k_25 ?_⟩⟩
    · have h0 : m / 8 ≠ 0 := fun z => e (by rw [(zcnt_0 hl).mpr z, Nat.zero_mul])
      have go : ∀ J, kJ K (ctA K) J → mm_w Q (mm_wc (d + 2 * n + 4)) bk_264 73 [some (.ref 46), some (.int (nI (std m))), some (.int (nI (n + 1))), some (.long (lN (zcnt (m / 8) * ws K ^ (n + 1)))), none, none, none, none] [] ((fl, n1, n2, p, q, ad), I, J) := fun J hJ => fx_264k_73 (lp_264 ih' h (by omega) hm h0 c (nB K) 0 (by omega) J hJ)
      have go2 : n ≠ 0 → mm_w Q (mm_wc (d + 2 * n + 4)) bk_264 50 [some (.ref 46), some (.int (nI (std m))), some (.int (nI (n + 1))), some (.long (lN (zcnt (m / 8) * ws K ^ (n + 1)))), none, none, none, none] [] ((fl, n1, n2, p, q, ad), I, J) := fun _ => by
        refine fx_264k_50 ?_
        rw [z_eq (by omega) (by decide), z_ix (by omega)]
        refine ⟨fun _ => go J hJ, fun e2 => ?_⟩
        have : n = 1 := by omega
        subst this
        refine ⟨z_in hs (by decide), ?_⟩
        rcases (hJ m hm).2 with z | z
        · rw [z]; exact ⟨fun _ => go J hJ, fun w => absurd lg5 w⟩
        · rw [z, lg3 (Nat.lt_of_le_of_lt hle (by omega)) (by decide)]
          exact ⟨fun w => absurd w (Nat.not_lt_zero _), fun _ => ⟨z_in hs (by decide), c J hJ⟩⟩
      refine ⟨fun e1 => go2 (by omega), fun e1 => ⟨z_in hs (by decide), ?_⟩⟩
      have : n = 0 := by omega
      subst this
      have g50 : mm_w Q (mm_wc (d + 2 * 0 + 4)) bk_264 50 [some (.ref 46), some (.int (nI (std m))), some (.int (nI (0 + 1))), some (.long (lN (zcnt (m / 8) * ws K ^ (0 + 1)))), none, none, none, none] [] ((fl, n1, n2, p, q, ad), I, J) := by
        refine fx_264k_50 ?_
        rw [z_eq (by omega) (by decide)]
        exact ⟨fun _ => go J hJ, fun e2 => absurd e2 (by decide)⟩
      rcases (hJ m hm).1 with z | z
      · rw [z]; exact ⟨fun _ => g50, fun w => absurd lg5 w⟩
      · rw [z, lg3 (Nat.lt_of_le_of_lt hle (by omega)) (by decide)]
        exact ⟨fun w => absurd w (Nat.not_lt_zero _), fun _ => ⟨z_in hs (by decide), c J hJ⟩⟩
    · have h0 : m / 8 = 0 := by
        refine (zcnt_0 hl).mp ?_
        rcases Nat.mul_eq_zero.mp e with z | z
        · exact z
        · omega
      have := c J hJ
      rw [ctA, if_pos h0] at this
      rw [e]; exact this
end OB
