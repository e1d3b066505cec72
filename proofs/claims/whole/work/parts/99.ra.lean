/-! reading: abstract -/
def rnF (P : Nat → Bool) : Nat → Nat → Nat
  | 0, k => k
  | f + 1, k => if P k = true then rnF P f (k + 1) else k
/-- the end of a run from k on -/
def rnE (P : Nat → Bool) (N k : Nat) : Nat := rnF P (N - k) k
theorem rnE_t {P : Nat → Bool} {N k : Nat} (h : k < N) (hP : P k = true) : rnE P N k = rnE P N (k + 1) := by
  unfold rnE
  rw [show N - k = N - (k + 1) + 1 by omega, rnF, if_pos hP]
theorem rnE_f {P : Nat → Bool} {N k : Nat} (h : k < N → P k = false) : rnE P N k = k := by
  unfold rnE
  by_cases e : k < N
  · rw [show N - k = N - (k + 1) + 1 by omega, rnF, if_neg (by rw [h e]; decide)]
  · rw [show N - k = 0 by omega, rnF]
theorem rnF_b {P : Nat → Bool} : ∀ f k, k ≤ rnF P f k ∧ rnF P f k ≤ k + f ∧ ∀ j, k ≤ j → j < rnF P f k → P j = true
  | 0, k => ⟨Nat.le_refl _, Nat.le_refl _, fun j h1 h2 => by rw [rnF] at h2; omega⟩
  | f + 1, k => by
    rw [rnF]
    split
    · rename_i e
      obtain ⟨h1, h2, h3⟩ := rnF_b (P := P) f (k + 1)
      refine ⟨by omega, by omega, fun j j1 j2 => ?_⟩
      by_cases ej : j = k
      · subst ej; exact e
      · exact h3 j (by omega) j2
    · exact ⟨Nat.le_refl _, by omega, fun j h1 h2 => by omega⟩
theorem rnE_b (P : Nat → Bool) (N k : Nat) : k ≤ rnE P N k ∧ (k ≤ N → rnE P N k ≤ N) ∧ ∀ j, k ≤ j → j < rnE P N k → P j = true := by
  obtain ⟨h1, h2, h3⟩ := rnF_b (P := P) (N - k) k
  exact ⟨h1, fun h => by unfold rnE; omega, h3⟩
def ltr (c : Nat) : Bool := decide (97 ≤ c) && decide (c ≤ 122)
def dgt (c : Nat) : Bool := decide (48 ≤ c) && decide (c ≤ 57)
theorem ltr_iff {c : Nat} : ltr c = true ↔ 97 ≤ c ∧ c ≤ 122 := by unfold ltr; simp
theorem dgt_iff {c : Nat} : dgt c = true ↔ 48 ≤ c ∧ c ≤ 57 := by unfold dgt; simp
/-- the token at a: where it ends, its kind -/
def tkE (b : Nat → Nat) (N a : Nat) : Nat := if N ≤ a then a else if ltr (b a) = true then rnE (fun k => ltr (b k)) N a else if dgt (b a) = true then rnE (fun k => dgt (b k)) N a else a + 1
def tkK (b : Nat → Nat) (N a : Nat) : Nat := if N ≤ a then 0 else if ltr (b a) = true then (if tkE b N a - a ≤ 8 then 2 else 1) else if dgt (b a) = true then (if tkE b N a - a ≤ 3 then 3 else 1) else if b a = 59 then 59 else if b a = 44 then 44 else 1
/-- the next token after the one at a -/
def skp (b : Nat → Nat) (N e : Nat) : Nat := rnE (fun k => b k == 32) N e
def nx (b : Nat → Nat) (N a : Nat) : Nat := skp b N (tkE b N a)
def wV (b : Nat → Nat) (a : Nat) : Nat → Nat
  | 0 => 0
  | k + 1 => 10 * wV b a k + (b (a + k) - 48)
def tv (b : Nat → Nat) (N a : Nat) : Nat := wV b a (tkE b N a - a)
/-- a word's number -/
def cdW (b : Nat → Nat) (a : Nat) : Nat → Nat
  | 0 => 0
  | k + 1 => cdW b a k * 32 + (b (a + k) - 96)
def cod (b : Nat → Nat) (N a : Nat) : Nat := cdW b a (tkE b N a - a)
theorem tkE_b {b : Nat → Nat} {N a : Nat} (h : a ≤ N) : a ≤ tkE b N a ∧ tkE b N a ≤ N ∧ (a < N → a < tkE b N a) := by
  unfold tkE
  split
  · omega
  · rename_i h1
    split
    · rename_i h2
      have h3 := rnE_b (fun k => ltr (b k)) N a
      have h4 := rnE_t (P := fun k => ltr (b k)) (N := N) (k := a) (by omega) h2
      have h5 := rnE_b (fun k => ltr (b k)) N (a + 1)
      exact ⟨h3.1, h3.2.1 (by omega), fun _ => by have := h5.1; omega⟩
    · split
      · rename_i h2
        have h3 := rnE_b (fun k => dgt (b k)) N a
        have h4 := rnE_t (P := fun k => dgt (b k)) (N := N) (k := a) (by omega) h2
        have h5 := rnE_b (fun k => dgt (b k)) N (a + 1)
        exact ⟨h3.1, h3.2.1 (by omega), fun _ => by have := h5.1; omega⟩
      · omega
theorem nx_b {b : Nat → Nat} {N a : Nat} (h : a ≤ N) : tkE b N a ≤ nx b N a ∧ nx b N a ≤ N := by
  have h1 := tkE_b (b := b) h
  have h2 := rnE_b (fun k => b k == 32) N (tkE b N a)
  exact ⟨h2.1, h2.2.1 h1.2.1⟩
theorem skp_b {b : Nat → Nat} {N e : Nat} (h : e ≤ N) : e ≤ skp b N e ∧ skp b N e ≤ N := ⟨(rnE_b _ N e).1, (rnE_b _ N e).2.1 h⟩
/-- a word in hand: its letters -/
theorem tk_w {b : Nat → Nat} {N a : Nat} (h : tkK b N a = 2) : a < N ∧ ltr (b a) = true ∧ tkE b N a = rnE (fun k => ltr (b k)) N a ∧ 1 ≤ tkE b N a - a ∧ tkE b N a - a ≤ 8 ∧ tkE b N a ≤ N ∧ ∀ k, k < tkE b N a - a → 97 ≤ b (a + k) ∧ b (a + k) ≤ 122 := by
  have h0 : ¬ N ≤ a := fun e => by unfold tkK at h; rw [if_pos e] at h; cases h
  have h1 : ltr (b a) = true := by
    cases e : ltr (b a)
    · unfold tkK at h
      rw [if_neg h0, if_neg (by rw [e]; decide)] at h
      split at h
      · split at h <;> cases h
      · split at h
        · cases h
        · split at h <;> cases h
    · rfl
  have h2 : tkE b N a = rnE (fun k => ltr (b k)) N a := by unfold tkE; rw [if_neg h0, if_pos h1]
  have h3 := tkE_b (b := b) (N := N) (a := a) (by omega)
  have h4 : tkE b N a - a ≤ 8 := by
    unfold tkK at h
    rw [if_neg h0, if_pos h1] at h
    split at h
    · assumption
    · cases h
  refine ⟨by omega, h1, h2, by omega, h4, h3.2.1, fun k hk => ?_⟩
  exact ltr_iff.mp ((rnE_b (fun k => ltr (b k)) N a).2.2 (a + k) (by omega) (by omega))
/-- a whole number in hand -/
theorem tk_n {b : Nat → Nat} {N a : Nat} (h : tkK b N a = 3) : a < N ∧ ltr (b a) = false ∧ dgt (b a) = true ∧ tkE b N a = rnE (fun k => dgt (b k)) N a ∧ tkE b N a - a ≤ 3 ∧ tkE b N a ≤ N := by
  have h0 : ¬ N ≤ a := fun e => by unfold tkK at h; rw [if_pos e] at h; cases h
  have h1 : ltr (b a) = false := by
    cases e : ltr (b a)
    · rfl
    · unfold tkK at h
      rw [if_neg h0, if_pos e] at h
      split at h <;> cases h
  have h2 : dgt (b a) = true := by
    cases e : dgt (b a)
    · unfold tkK at h
      rw [if_neg h0, if_neg (by rw [h1]; decide), if_neg (by rw [e]; decide)] at h
      split at h
      · cases h
      · split at h <;> cases h
    · rfl
  have h3 := tkE_b (b := b) (N := N) (a := a) (by omega)
  refine ⟨by omega, h1, h2, by unfold tkE; rw [if_neg h0, if_neg (by rw [h1]; decide), if_pos h2], ?_, h3.2.1⟩
  unfold tkK at h
  rw [if_neg h0, if_neg (by rw [h1]; decide), if_pos h2] at h
  split at h
  · assumption
  · cases h
theorem wV_le {b : Nat → Nat} {a : Nat} : ∀ k, (∀ j, j < k → b (a + j) ≤ 57) → wV b a k < 10 ^ k
  | 0, _ => Nat.one_pos
  | k + 1, h => by
    have h1 := wV_le (b := b) (a := a) k (fun j hj => h j (by omega))
    have h2 := h k (by omega)
    rw [wV, Nat.pow_succ]; omega
theorem tv_lt {b : Nat → Nat} {N a : Nat} (h : tkK b N a = 3) : tv b N a < 1000 := by
  obtain ⟨h1, -, -, h4, h5, h6⟩ := tk_n h
  have := wV_le (b := b) (a := a) (tkE b N a - a) (fun j hj => (dgt_iff.mp ((rnE_b (fun k => dgt (b k)) N a).2.2 (a + j) (by omega) (by omega))).2)
  unfold tv
  exact Nat.lt_of_lt_of_le this (Nat.pow_le_pow_right (n := 10) (by decide) h5)
/-- words' numbers say their letters -/
theorem cdW_lt {b : Nat → Nat} {a : Nat} : ∀ k, (∀ j, j < k → b (a + j) ≤ 122) → cdW b a k < 32 ^ k
  | 0, _ => Nat.one_pos
  | k + 1, h => by
    have h1 := cdW_lt (b := b) (a := a) k (fun j hj => h j (by omega))
    have h2 := h k (by omega)
    rw [cdW, Nat.pow_succ]; omega
theorem cdW_inj {b : Nat → Nat} {a c : Nat} : ∀ k l, (∀ j, j < k → 97 ≤ b (a + j) ∧ b (a + j) ≤ 122) → (∀ j, j < l → 97 ≤ b (c + j) ∧ b (c + j) ≤ 122) → cdW b a k = cdW b c l → k = l ∧ ∀ j, j < k → b (a + j) = b (c + j)
  | 0, 0, _, _, _ => ⟨rfl, fun j hj => absurd hj (Nat.not_lt_zero j)⟩
  | 0, l + 1, _, h2, e => by
    have := h2 l (by omega)
    rw [cdW, cdW] at e; omega
  | k + 1, 0, h1, _, e => by
    have := h1 k (by omega)
    rw [cdW, cdW] at e; omega
  | k + 1, l + 1, h1, h2, e => by
    have g1 := h1 k (by omega)
    have g2 := h2 l (by omega)
    rw [cdW, cdW] at e
    obtain ⟨e1, e2⟩ := cdW_inj k l (fun j hj => h1 j (by omega)) (fun j hj => h2 j (by omega)) (by omega)
    subst e1
    refine ⟨rfl, fun j hj => ?_⟩
    by_cases ej : j = k
    · subst ej; omega
    · exact e2 j (by omega)
theorem cdW_cg {b : Nat → Nat} {a c : Nat} : ∀ k, (∀ j, j < k → b (a + j) = b (c + j)) → cdW b a k = cdW b c k
  | 0, _ => rfl
  | k + 1, h => by rw [cdW, cdW, cdW_cg k (fun j hj => h j (by omega)), h k (by omega)]
/-! the words, and the grammar -/
def wdL : List (List Nat) := [[99, 97, 107, 101], [110, 101, 97, 114], [119, 97, 120], [99, 97, 110, 100, 108, 101], [112, 108, 97, 99, 101], [115, 112, 111, 116], [112, 101, 114, 115, 111, 110], [115, 104, 97, 107, 121], [108, 101, 102, 116], [110, 111, 110, 101], [97, 116], [112, 108, 97, 105, 110], [116, 97, 108, 108], [97, 103, 97, 105, 110], [116, 114, 105, 99, 107], [114, 101, 97, 99, 104], [115, 112, 114, 101, 97, 100]]
def wL (i : Nat) : List Nat := wdL.getD i []
def wd (b : Nat → Nat) (N i a : Nat) : Prop := tkK b N a = 2 ∧ tkE b N a - a = (wL i).length ∧ ∀ k, k < (wL i).length → b (a + k) = (wL i).getD k 0
abbrev zE : Type := Except (Nat × Nat) (Nat × (Nat → Nat) × (Nat → Nat))
def up1 (D : Nat → Nat) (k v : Nat) : Nat → Nat := fun j => if j = k then v else D j
section RA
variable (b : Nat → Nat) (N : Nat)
noncomputable def wdF (i a : Nat) (k : Nat → zE) : zE := by
  classical
  exact if wd b N i a then k (nx b N a) else .error (1, a)
def nuF (lo hi a : Nat) (k : Nat → Nat → zE) : zE := if tkK b N a = 3 then (if lo ≤ tv b N a ∧ tv b N a ≤ hi then k (tv b N a) (nx b N a) else .error (4, a)) else .error (1, a)
def sgF (c a : Nat) (k : Nat → zE) : zE := if tkK b N a = c then k (nx b N a) else .error (1, a)
/-- a name in hand -/
def isNm (a : Nat) : Prop := tkK b N a = 2 ∧ ¬ (wd b N 0 a ∨ wd b N 3 a ∨ wd b N 4 a ∨ wd b N 5 a ∨ wd b N 6 a ∨ wd b N 7 a ∨ wd b N 8 a ∨ wd b N 9 a)
noncomputable def nmF (n a : Nat) (nc : Nat → Nat) (k : Nat → (Nat → Nat) → zE) : zE := by
  classical
  exact if isNm b N a then (if (∃ j, j < 23 ∧ nc j = cod b N a) then .error (3, a) else k (nx b N a) (up1 nc n (cod b N a))) else .error (1, a)
/-- at x, y -/
noncomputable def xyF (a : Nat) (k : Nat → Nat → Nat → zE) : zE := wdF b N 10 a fun a1 => nuF b N 0 20 a1 fun x a2 => sgF b N 44 a2 fun a3 => nuF b N 0 20 a3 fun y a4 => k x y a4
noncomputable def cakeF (a : Nat) (D nc : Nat → Nat) : zE := wdF b N 1 a fun a2 => nuF b N 0 20 a2 fun v a3 => wdF b N 2 a3 fun a4 => nuF b N 1 9 a4 fun w a5 => .ok (a5, up1 (up1 (up1 D 1 v) 2 w) 0 1, nc)
/-- the kind in hand: 4 for none -/
noncomputable def kd4 (a : Nat) : Nat := by
  classical
  exact if wd b N 11 a then 0 else if wd b N 12 a then 1 else if wd b N 13 a then 2 else if wd b N 14 a then 3 else 4
def nTr (D : Nat → Nat) : Nat := popc (ofK D 3) (D 3)
noncomputable def candF (a : Nat) (D nc : Nat → Nat) : zE := nmF b N (D 3) a nc fun a1 nc1 => xyF b N a1 fun x y a2 => if kd4 b N a2 = 4 then .error (1, a2) else if kd4 b N a2 = 3 ∧ 3 ≤ nTr D then .error (5, a2) else .ok (nx b N a2, up1 (up1 (up1 (up1 D (13 + D 3) x) (24 + D 3) y) (35 + D 3) (kd4 b N a2)) 3 (D 3 + 1), nc1)
noncomputable def placF (a : Nat) (D nc : Nat → Nat) : zE := nmF b N (10 + D 4) a nc fun a1 nc1 => xyF b N a1 fun x y a2 => .ok (a2, up1 (up1 (up1 D (46 + D 4) x) (51 + D 4) y) 4 (D 4 + 1), nc1)
noncomputable def spotF (a : Nat) (D nc : Nat → Nat) : zE := nmF b N (15 + D 5) a nc fun a1 nc1 => xyF b N a1 fun x y a2 => .ok (a2, up1 (up1 (up1 D (56 + D 5) x) (60 + D 5) y) 5 (D 5 + 1), nc1)
noncomputable def persF (a : Nat) (D nc : Nat → Nat) : zE := nmF b N (19 + D 6) a nc fun a1 nc1 => wdF b N 15 a1 fun a2 => nuF b N 1 30 a2 fun v a3 => wdF b N 16 a3 fun a4 => nuF b N 0 30 a4 fun w a5 => .ok (a5, up1 (up1 (up1 D (64 + D 6) v) (68 + D 6) w) 6 (D 6 + 1), nc1)
def shakF (a : Nat) (D nc : Nat → Nat) : zE := nuF b N 0 9 a fun x a1 => sgF b N 44 a1 fun a2 => nuF b N 0 9 a2 fun y a3 => sgF b N 44 a3 fun a4 => nuF b N (if x + y = 0 then 1 else 0) 9 a4 fun z a5 => .ok (a5, up1 (up1 (up1 (up1 D 10 x) 11 y) 12 z) 7 1, nc)
/-- one candle that was left -/
noncomputable def lef1 (a : Nat) (D nc : Nat → Nat) (k : Nat → (Nat → Nat) → zE) : zE := by
  classical
  exact if isNm b N a then (if h : (∃ j, j < 10 ∧ nc j = cod b N a) then (if (D 9).testBit h.choose = true then .error (3, a) else k (nx b N a) (up1 D 9 (D 9 ||| 2 ^ h.choose))) else .error (2, a)) else .error (1, a)
noncomputable def lefL (nc : Nat → Nat) : Nat → Nat → (Nat → Nat) → zE
  | 0, a, _ => .error (1, a)
  | f + 1, a, D => lef1 b N a D nc fun a1 D1 => if tkK b N a1 = 44 then lefL nc f (nx b N a1) D1 else .ok (a1, D1, nc)
noncomputable def leftF (a : Nat) (D nc : Nat → Nat) : zE := by
  classical
  exact if wd b N 9 a then .ok (nx b N a, up1 D 8 1, nc) else lefL b N nc 11 a (up1 D 8 1)
noncomputable def lineF (a : Nat) (D nc : Nat → Nat) : zE := by
  classical
  exact if wd b N 0 a then (if D 0 = 0 then cakeF b N (nx b N a) D nc else .error (3, a))
    else if wd b N 3 a then (if D 3 < 10 then candF b N (nx b N a) D nc else .error (5, a))
    else if wd b N 4 a then (if D 4 < 5 then placF b N (nx b N a) D nc else .error (5, a))
    else if wd b N 5 a then (if D 5 < 4 then spotF b N (nx b N a) D nc else .error (5, a))
    else if wd b N 6 a then (if D 6 < 4 then persF b N (nx b N a) D nc else .error (5, a))
    else if wd b N 7 a then (if D 7 = 0 then shakF b N (nx b N a) D nc else .error (3, a))
    else if wd b N 8 a then (if D 8 = 0 then leftF b N (nx b N a) D nc else .error (3, a))
    else .error (1, a)
/-- after a line: more lines, or the end -/
noncomputable def restF : Nat → Nat → (Nat → Nat) → (Nat → Nat) → zE
  | 0, a, _, _ => .error (1, a)
  | f + 1, a, D, nc => if tkK b N a = 59 then (match lineF b N (nx b N a) D nc with
      | .error e => .error e
      | .ok (a1, D1, nc1) => restF f a1 D1 nc1)
    else if tkK b N a = 0 then (if D 0 = 0 ∨ D 3 = 0 ∨ D 4 = 0 ∨ D 6 = 0 then .error (6, a) else .ok (a, D, nc)) else .error (1, a)
noncomputable def readF : zE := match lineF b N (skp b N 0) (fun _ => 0) (fun _ => 0) with
  | .error e => .error e
  | .ok (a1, D1, nc1) => restF b N (N + 1) a1 D1 nc1
end RA
