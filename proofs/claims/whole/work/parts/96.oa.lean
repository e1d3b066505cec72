/-! odds: abstract -/
def wt (K : Nat → Nat) (k : Nat) : Nat := if K 7 = 1 then K (10 + k) else if k = 1 then 1 else 0
def ws (K : Nat → Nat) : Nat := wt K 0 + wt K 1 + wt K 2
/-- where breath b goes, k of three -/
def bre (b k : Nat) : Nat := b / 16 * 16 + (b % 16 + k + 15) % 16
def smk (K : Nat → Nat) (g : Nat → Nat) (b : Nat) : Nat → Nat
  | 0 => 0
  | k + 1 => smk K g b k + wt K k * g (bre b k)
def mxB (f : Nat → Nat) : Nat → Nat
  | 0 => 0
  | n + 1 => max (mxB f n) (f n)
def mnB (f : Nat → Nat) (c : Nat) : Nat → Nat
  | 0 => c
  | n + 1 => min (mnB f c n) (f n)
def chA (K : Nat → Nat) : Nat → Nat → Nat
  | 0, m => if m / 8 = 0 then 1 else 0
  | n + 1, m => if m / 8 = 0 then ws K ^ (n + 1) else mxB (fun b => smk K (fun c => chA K n (zst K m c)) b 3) (nB K)
def ctA (K : Nat → Nat) : Nat → Nat → Nat
  | 0, m => zcnt (m / 8)
  | n + 1, m => if m / 8 = 0 then 0 else mnB (fun b => smk K (fun c => ctA K n (zst K m c)) b 3) (zcnt (m / 8) * ws K ^ (n + 1)) (nB K)
theorem wt_le {K : Nat → Nat} (ok : okR K) {k : Nat} (hk : k < 3) : wt K k ≤ 9 := by
  unfold wt
  split
  · exact ok.2.2.2.2.2.2.2.2.2.1 (10 + k) (by omega) (by omega)
  · split <;> omega
theorem ws_le {K : Nat → Nat} (ok : okR K) : 1 ≤ ws K ∧ ws K ≤ 27 := by
  have h0 := wt_le ok (k := 0) (by decide)
  have h1 := wt_le ok (k := 1) (by decide)
  have h2 := wt_le ok (k := 2) (by decide)
  refine ⟨?_, by unfold ws; omega⟩
  unfold ws wt
  by_cases e : K 7 = 1
  · have := ok.2.2.2.2.2.2.2.2.2.2.1 e
    simp only [e, if_true]
    exact this
  · simp [e]
theorem bre_lt {K : Nat → Nat} {b k : Nat} (hb : b < nB K) : bre b k < nB K := by
  unfold bre nB at *
  rw [Nat.mul_assoc] at *
  have := Nat.mod_lt (b % 16 + k + 15) (show 0 < 16 by decide)
  omega
theorem smk_le {K : Nat → Nat} {g : Nat → Nat} {B b : Nat} (hb : b < nB K) (h : ∀ c, c < nB K → g c ≤ B) : smk K g b 3 ≤ ws K * B := by
  have h0 := Nat.mul_le_mul_left (wt K 0) (h _ (bre_lt (k := 0) hb))
  have h1 := Nat.mul_le_mul_left (wt K 1) (h _ (bre_lt (k := 1) hb))
  have h2 := Nat.mul_le_mul_left (wt K 2) (h _ (bre_lt (k := 2) hb))
  show 0 + wt K 0 * g (bre b 0) + wt K 1 * g (bre b 1) + wt K 2 * g (bre b 2) ≤ (wt K 0 + wt K 1 + wt K 2) * B
  rw [Nat.add_mul, Nat.add_mul]
  omega
theorem smk_cg {K : Nat → Nat} {g g' : Nat → Nat} {b : Nat} (h : ∀ k, k < 3 → wt K k ≠ 0 → g (bre b k) = g' (bre b k)) : smk K g b 3 = smk K g' b 3 := by
  have e : ∀ k, k < 3 → wt K k * g (bre b k) = wt K k * g' (bre b k) := fun k hk => by
    by_cases e : wt K k = 0
    · rw [e, Nat.zero_mul, Nat.zero_mul]
    · rw [h k hk e]
  show 0 + wt K 0 * g (bre b 0) + wt K 1 * g (bre b 1) + wt K 2 * g (bre b 2) = 0 + wt K 0 * g' (bre b 0) + wt K 1 * g' (bre b 1) + wt K 2 * g' (bre b 2)
  rw [e 0 (by decide), e 1 (by decide), e 2 (by decide)]
theorem mxB_le {f : Nat → Nat} {B : Nat} : ∀ {n : Nat}, (∀ b, b < n → f b ≤ B) → mxB f n ≤ B
  | 0, _ => Nat.zero_le _
  | n + 1, h => by
    have h1 := mxB_le (n := n) (fun b hb => h b (by omega))
    have h2 := h n (by omega)
    rw [mxB]; omega
theorem mxB_ge {f : Nat → Nat} : ∀ {n b : Nat}, b < n → f b ≤ mxB f n
  | 0, b, h => absurd h (Nat.not_lt_zero b)
  | n + 1, b, h => by
    rw [mxB]
    by_cases e : b = n
    · subst e; omega
    · have := mxB_ge (f := f) (n := n) (b := b) (by omega); omega
theorem mxB_at {f : Nat → Nat} : ∀ {n : Nat}, mxB f n = 0 ∨ ∃ b, b < n ∧ f b = mxB f n
  | 0 => .inl rfl
  | n + 1 => by
    rw [mxB]
    by_cases h : f n ≤ mxB f n
    · rw [Nat.max_eq_left h]
      rcases mxB_at (f := f) (n := n) with z | ⟨b, z, e⟩
      · exact .inl z
      · exact .inr ⟨b, by omega, e⟩
    · rw [Nat.max_eq_right (by omega)]
      exact .inr ⟨n, by omega, rfl⟩
theorem mnB_le {f : Nat → Nat} {c : Nat} : ∀ n, mnB f c n ≤ c
  | 0 => Nat.le_refl _
  | n + 1 => by
    have := mnB_le (f := f) (c := c) n
    rw [mnB]; omega
theorem mnB_ge {f : Nat → Nat} {c : Nat} : ∀ {n b : Nat}, b < n → mnB f c n ≤ f b
  | 0, b, h => absurd h (Nat.not_lt_zero b)
  | n + 1, b, h => by
    rw [mnB]
    by_cases e : b = n
    · subst e; omega
    · have := mnB_ge (f := f) (c := c) (n := n) (b := b) (by omega); omega
theorem mnB_at {f : Nat → Nat} {c : Nat} : ∀ {n : Nat}, mnB f c n = c ∨ ∃ b, b < n ∧ f b = mnB f c n
  | 0 => .inl rfl
  | n + 1 => by
    rw [mnB]
    by_cases h : mnB f c n ≤ f n
    · rw [Nat.min_eq_left h]
      rcases mnB_at (f := f) (c := c) (n := n) with z | ⟨b, z, e⟩
      · exact .inl z
      · exact .inr ⟨b, by omega, e⟩
    · rw [Nat.min_eq_right (by omega)]
      exact .inr ⟨n, by omega, rfl⟩
theorem chA_le {K : Nat → Nat} : ∀ n m, chA K n m ≤ ws K ^ n
  | 0, m => by
    show (if m / 8 = 0 then 1 else 0) ≤ 1
    split <;> omega
  | n + 1, m => by
    show (if m / 8 = 0 then ws K ^ (n + 1) else mxB (fun b => smk K (fun c => chA K n (zst K m c)) b 3) (nB K)) ≤ ws K ^ (n + 1)
    split
    · exact Nat.le_refl _
    · refine mxB_le (fun b hb => ?_)
      rw [Nat.pow_succ, Nat.mul_comm]
      exact smk_le hb (fun c _ => chA_le n _)
theorem ctA_le {K : Nat → Nat} : ∀ n m, ctA K n m ≤ 14 * ws K ^ n
  | 0, m => by
    show zcnt (m / 8) ≤ 14 * 1
    have := zcnt_le (m / 8); omega
  | n + 1, m => by
    show (if m / 8 = 0 then 0 else mnB (fun b => smk K (fun c => ctA K n (zst K m c)) b 3) (zcnt (m / 8) * ws K ^ (n + 1)) (nB K)) ≤ 14 * ws K ^ (n + 1)
    split
    · exact Nat.zero_le _
    · exact Nat.le_trans (mnB_le _) (Nat.mul_le_mul_right _ (zcnt_le _))
theorem ws_pow {K : Nat → Nat} (ok : okR K) {n : Nat} (hn : n ≤ 3) : 1 ≤ ws K ^ n ∧ ws K ^ n ≤ 19683 := by
  have h := ws_le ok
  refine ⟨Nat.one_le_pow _ _ (by omega), ?_⟩
  exact Nat.le_trans (Nat.pow_le_pow_left h.2 n) (Nat.le_trans (Nat.pow_le_pow_right (by decide) hn) (by decide))
theorem zcnt_0 {s : Nat} (hs : s < 2 ^ 11) : zcnt s = 0 ↔ s = 0 := by
  constructor
  · intro h
    apply Nat.eq_of_testBit_eq
    intro i
    rw [Nat.zero_testBit]
    cases hb : s.testBit i
    · rfl
    · have hi : i < 11 := lt_of_tb hs hb
      have := popc_lt (s := s) (a := i) (b := 14) (by omega) hb
      unfold zcnt at h; omega
  · intro h; subst h; decide
/-- the first of those with the most -/
def isFm (f : Nat → Nat) (B b : Nat) : Prop := b < B ∧ (∀ c, c < B → f c ≤ f b) ∧ ∀ c, c < b → f c < f b
theorem isFm.uq {f : Nat → Nat} {B b b' : Nat} (h : isFm f B b) (h' : isFm f B b') : b = b' := by
  rcases Nat.lt_trichotomy b b' with z | z | z
  · have := h'.2.2 b z; have := h.2.1 b' h'.1; omega
  · exact z
  · have := h.2.2 b' z; have := h'.2.1 b h.1; omega
/-- how the two refuse n breaths, and what they answer -/
def ra_n (C : Prop) (to : Bool) (n : Nat) (x : Int32) (V : Nat → Prop) (t : Nat) (R : Prop) : Prop := (to = true ∧ C ∧ (∃ j, 1 ≤ j ∧ j ≤ n ∧ x = nI j ∧ V j) ∧ t = 0) ∨ (to = true ∧ ¬ (∃ j, 1 ≤ j ∧ j ≤ n ∧ x = nI j) ∧ R ∧ t = 2) ∨ (to = false ∧ R ∧ t = 1)
def lowT (a w : Nat) (lower : Bool) : Nat := (if lower = true then w else a) / Nat.gcd a w
def ra_chance (to : Bool) (K : Nat → Nat) (P : zP) (x : Int32) (lo : Bool) (v : Int64) (t : Nat) : Prop := ra_n True to 3 x (fun j => v = lN (lowT (chA K j P.1) (ws K ^ j) lo)) t (v = -1)
def ra_content (to : Bool) (K : Nat → Nat) (P : zP) (x : Int32) (lo : Bool) (v : Int64) (t : Nat) : Prop := ra_n True to 3 x (fun j => v = lN (lowT (ctA K j P.1) (ws K ^ j) lo)) t (v = -1)
def byA (K : Nat → Nat) (n m b : Nat) : Nat := smk K (fun c => chA K n (zst K m c)) b 3
def va_best (K : Nat → Nat) (P : zP) (j : Nat) (v : Int32) : Prop := (P.1 / 8 = 0 ∧ v = -2) ∨ (P.1 / 8 ≠ 0 ∧ ∃ b, isFm (byA K (j - 1) P.1) (nB K) b ∧ v = nI b)
def ra_best (to : Bool) (K : Nat → Nat) (P : zP) (x v : Int32) (t : Nat) : Prop := ra_n True to 3 x (fun j => va_best K P j v) t (v = -1)
/-! common measure -/
def eu : Nat → Nat → Nat → Nat
  | 0, a, _ => a
  | n + 1, a, b => if b = 0 then a else eu n b (a % b)
theorem eu_gcd : ∀ k n a b, b < 2 ^ k → 2 * k + 1 ≤ n → eu n a b = Nat.gcd a b
  | 0, 0, _, _, _, h => absurd h (by omega)
  | k + 1, 0, _, _, _, h => absurd h (by omega)
  | k + 1, 1, _, _, _, h => absurd h (by omega)
  | 0, n + 1, a, b, hb, _ => by
    have : b = 0 := by omega
    subst this
    simp [eu]
  | k + 1, n + 2, a, b, hb, hn => by
    rw [eu]
    split
    · rename_i e; subst e; simp
    · rename_i e
      have hr := Nat.mod_lt a (Nat.pos_of_ne_zero e)
      rw [eu]
      split
      · rename_i e2
        rw [Nat.gcd_comm, Nat.gcd_rec, e2]; simp
      · rename_i e2
        have h3 : b % (a % b) < 2 ^ k := by
          have h1 := Nat.mod_lt b (Nat.pos_of_ne_zero e2)
          have h2 := Nat.div_add_mod b (a % b)
          have h4 : 1 ≤ b / (a % b) := (Nat.one_le_div_iff (by omega)).mpr (by omega)
          have h5 : a % b * 1 ≤ a % b * (b / (a % b)) := Nat.mul_le_mul_left _ h4
          rw [Nat.pow_succ] at hb
          omega
        rw [eu_gcd k n _ _ h3 (by omega), Nat.gcd_comm a b, Nat.gcd_rec b a, Nat.gcd_rec (a % b) b, Nat.gcd_comm]
