/-! walks: how far, and the least -/
def fa (K : Nat → Nat) (a b : Nat) : Nat := ((K (46 + a) - K (46 + b)) + (K (46 + b) - K (46 + a))) + ((K (51 + a) - K (51 + b)) + (K (51 + b) - K (51 + a)))
/-- n breaths of person h from (m, a) to (m', a'), with walking w; the last one last -/
def wk (K : Nat → Nat) (h m a : Nat) : Nat → Nat → Nat → Nat → Prop
  | 0, m', a', w => m' = m ∧ a' = a ∧ w = 0
  | n + 1, m', a', w => ∃ m1 a1 w1 b, wk K h m a n m1 a1 w1 ∧ b < nB K ∧ b / 16 / K 4 = h ∧ m' = zst K m1 b ∧ a' = b / 16 % K 4 ∧ w = w1 + fa K a1 a'
/-- the first one first -/
def wf (K : Nat → Nat) (h : Nat) : Nat → Nat → Nat → Nat → Nat → Nat → Prop
  | 0, m, a, m', a', w => m' = m ∧ a' = a ∧ w = 0
  | n + 1, m, a, m', a', w => ∃ b w1, b < nB K ∧ b / 16 / K 4 = h ∧ wf K h n (zst K m b) (b / 16 % K 4) m' a' w1 ∧ w = fa K a (b / 16 % K 4) + w1
theorem wf_snoc {K : Nat → Nat} {h : Nat} : ∀ {n m a m1 a1 w1 b : Nat}, wf K h n m a m1 a1 w1 → b < nB K → b / 16 / K 4 = h → wf K h (n + 1) m a (zst K m1 b) (b / 16 % K 4) (w1 + fa K a1 (b / 16 % K 4))
  | 0, m, a, m1, a1, w1, b, ⟨e1, e2, e3⟩, hb, hh => ⟨b, 0, hb, hh, ⟨by rw [e1], rfl, rfl⟩, by rw [e2, e3, Nat.zero_add]; rfl⟩
  | n + 1, m, a, m1, a1, w1, b, ⟨c, w2, h1, h2, h3, h4⟩, hb, hh => ⟨c, w2 + fa K a1 (b / 16 % K 4), h1, h2, wf_snoc h3 hb hh, by rw [h4, Nat.add_assoc]⟩
theorem wk_cons {K : Nat → Nat} {h m a b : Nat} (hb : b < nB K) (hh : b / 16 / K 4 = h) : ∀ {n m' a' w : Nat}, wk K h (zst K m b) (b / 16 % K 4) n m' a' w → wk K h m a (n + 1) m' a' (fa K a (b / 16 % K 4) + w)
  | 0, _, _, _, ⟨e1, e2, e3⟩ => ⟨m, a, 0, b, ⟨rfl, rfl, rfl⟩, hb, hh, e1, e2, by rw [e2, e3]; omega⟩
  | n + 1, _, _, _, ⟨m1, a1, w1, c, h1, h2, h3, h4, h5, h6⟩ => ⟨m1, a1, _, c, wk_cons hb hh h1, h2, h3, h4, h5, by rw [h6, Nat.add_assoc]⟩
theorem wk_wf {K : Nat → Nat} {h m a : Nat} : ∀ n m' a' w, wk K h m a n m' a' w ↔ wf K h n m a m' a' w := by
  intro n m' a' w
  constructor
  · revert m' a' w
    induction n with
    | zero => intro m' a' w h; exact h
    | succ n ih =>
      rintro m' a' w ⟨m1, a1, w1, b, h1, h2, h3, rfl, rfl, rfl⟩
      exact wf_snoc (ih _ _ _ h1) h2 h3
  · revert m a m' a' w
    induction n with
    | zero => intro m a m' a' w h; exact h
    | succ n ih =>
      rintro m a m' a' w ⟨b, w1, h1, h2, h3, rfl⟩
      exact wk_cons h1 h2 (ih _ _ _ h3)
/-- the breaths of one person -/
abbrev kby (K : Nat → Nat) (h : Nat) : Nat → Nat → Prop := ksc K 0 0 (fanK K) (fun b => b / 16 / K 4 = h)
theorem wk_rch {K : Nat → Nat} {h m a : Nat} : ∀ n m' a' w, wk K h m a n m' a' w → rch (kby K h) m n m'
  | 0, _, _, _, h => h.1
  | n + 1, _, _, _, ⟨m1, a1, w1, b, h1, h2, h3, h4, _, _⟩ => ⟨m1, wk_rch n m1 a1 w1 h1, b, h2, h3, h4⟩
theorem rch_wk {K : Nat → Nat} {h m a : Nat} : ∀ n m', rch (kby K h) m n m' → ∃ a' w, wk K h m a n m' a' w
  | 0, _, e => ⟨a, 0, e, rfl, rfl⟩
  | n + 1, _, ⟨m1, h1, b, h2, h3, h4⟩ => by
    obtain ⟨a1, w1, hw⟩ := rch_wk n m1 h1
    exact ⟨_, _, m1, a1, w1, b, hw, h2, h3, h4, rfl, rfl⟩
/-- the least walking of those that put all out with the fewest breaths -/
def isW (K : Nat → Nat) (h s a : Nat) (v : Int32) : Prop := (isD (goal0 (kby K h) s) (-2) ∧ v = -2) ∨ ∃ L w, L < 2 ^ 31 ∧ isD (goal0 (kby K h) s) (nI L) ∧ v = nI w ∧ w < 1000000 ∧ (∃ m' a', wk K h s a L m' a' w ∧ m' / 8 = 0) ∧ ∀ m' a' w', wk K h s a L m' a' w' → m' / 8 = 0 → w ≤ w'
theorem isW.uq {K : Nat → Nat} {h s a : Nat} {v v' : Int32} (g : isW K h s a v) (g' : isW K h s a v') : v = v' := by
  rcases g with ⟨d, e⟩ | ⟨L, w, l, d, e, -, ⟨m, b, x, y⟩, z⟩ <;> rcases g' with ⟨d', e'⟩ | ⟨L', w', l', d', e', -, ⟨m', b', x', y'⟩, z'⟩
  · rw [e, e']
  · have := d'.uq d
    rw [z_m2 l'] at this; exact this.elim
  · have := d.uq d'
    rw [z_m2 l] at this; exact this.elim
  · have eL := isD_n l l' d d'
    subst eL
    have h1 := z m' b' w' x' y'
    have h2 := z' m b w x y
    rw [e, e', show w = w' by omega]
theorem fa_lt {K : Nat → Nat} (ok : okR K) {a b : Nat} (ha : a < K 4) (hb : b < K 4) : fa K a b ≤ 40 := by
  have h4 := ok.p
  have x1 := ok.xy (k := 46 + a) (by omega) (by omega)
  have x2 := ok.xy (k := 46 + b) (by omega) (by omega)
  have x3 := ok.xy (k := 51 + a) (by omega) (by omega)
  have x4 := ok.xy (k := 51 + b) (by omega) (by omega)
  unfold fa
  omega
theorem wk_le {K : Nat → Nat} (ok : okR K) {h m a : Nat} (ha : a < K 4) : ∀ n m' a' w, wk K h m a n m' a' w → a' < K 4 ∧ w ≤ 40 * n
  | 0, _, _, _, ⟨_, e2, e3⟩ => ⟨by rw [e2]; exact ha, by omega⟩
  | n + 1, _, _, _, ⟨m1, a1, w1, b, h1, _, _, _, h5, h6⟩ => by
    obtain ⟨i1, i2⟩ := wk_le ok ha n m1 a1 w1 h1
    have h4 := ok.p
    have hm : b / 16 % K 4 < K 4 := Nat.mod_lt _ (by omega)
    rw [← h5] at hm
    have := fa_lt ok i1 hm
    exact ⟨hm, by omega⟩
theorem z_neg {a b : Nat} (h : a ≤ b) : -(nI a - nI b) = nI (b - a) := by
  rw [Int32.neg_sub]; exact z_sub h
theorem z_sl0 {a b : Nat} (ha : a < 2 ^ 30) (hb : b < 2 ^ 30) : (nI 0 ≤ nI a - nI b) = (b ≤ a) := by
  by_cases h : b ≤ a
  · rw [z_sub h, z_le (by decide) (by omega)]; simp [h]
  · have e : nI a - nI b = -(nI (b - a)) := by rw [← z_neg (a := a) (b := b) (by omega), Int32.neg_neg]
    apply propext
    refine ⟨fun w => ?_, fun w => absurd w h⟩
    rw [e, Int32.le_iff_toInt_le, Int32.toInt_neg, nI_toInt (by omega), nI_toInt (by omega)] at w
    have hb2 : (-((b - a : Nat) : Int)).bmod (2 ^ 32) = -((b - a : Nat) : Int) := by
      rw [Int.bmod_eq_of_le] <;> omega
    rw [hb2] at w
    omega
section WKC
variable {d n1 n2 : Nat} {fl : Nat → Bool} {p q : Bool} {ad : Nat → Nat} {J : mmJ} {Q : mmQ} {K R : Nat → Nat} {I : mmI}
theorem ct_249 (hR : mR I R) {a b : Nat} (ha : a < R 4) (hb : b < R 4) (k : Q (some (.int (nI (fa R a b)))) ((fl, n1, n2, p, q, ad), I, J)) : mm_wc (d + 1) 249 [.ref 46, .int (nI a), .int (nI b)] ((fl, n1, n2, p, q, ad), I, J) Q := by
  have ok := hR.1
  have h4 := ok.p
  have x1 := ok.xy (k := 46 + a) (by omega) (by omega)
  have x2 := ok.xy (k := 46 + b) (by omega) (by omega)
  have x3 := ok.xy (k := 51 + a) (by omega) (by omega)
  have x4 := ok.xy (k := 51 + b) (by omega) (by omega)
  have pos : ∀ u v : Nat, v ≤ u → nI u - nI v = nI ((u - v) + (v - u)) := fun u v h => by rw [z_sub h]; congr 1; omega
  have neg : ∀ u v : Nat, ¬ v ≤ u → -(nI u - nI v) = nI ((u - v) + (v - u)) := fun u v h => by rw [z_neg (by omega)]; congr 1; omega
  refine fx_249 ?_
  simp (disch := omega) only [z_add, z_ix]
  rw [hR.2 (46 + a) (by omega), hR.2 (46 + b) (by omega), hR.2 (51 + a) (by omega), hR.2 (51 + b) (by omega), z_sl0 (by omega) (by omega), z_sl0 (by omega) (by omega)]
  refine ⟨z_in (by omega) (by decide), z_in (by omega) (by decide), z_in (by omega) (by decide), z_in (by omega) (by decide), fun e => ⟨fun e2 => ?_, fun e2 => ?_⟩, fun e => ⟨fun e2 => ?_, fun e2 => ?_⟩⟩
  · rw [pos _ _ e, pos _ _ e2, z_add]; exact k
  · rw [pos _ _ e, neg _ _ e2, z_add]; exact k
  · rw [neg _ _ e, pos _ _ e2, z_add]; exact k
  · rw [neg _ _ e, neg _ _ e2, z_add]; exact k
theorem ct_1000 {x : Int32} {σ : mmS} (h : Q (some (.int (if 0 ≤ x then x else 0 - x))) σ) : mm_wc (d + 1) 1000 [.int x] σ Q := h
theorem z_abs {a b : Nat} (ha : a < 2 ^ 30) (hb : b < 2 ^ 30) : (if 0 ≤ nI a - nI b then nI a - nI b else 0 - (nI a - nI b)) = nI ((a - b) + (b - a)) := by
  by_cases h : b ≤ a
  · rw [if_pos (by have := z_sl0 ha hb; rw [show (0 : Int32) = nI 0 from rfl, this]; exact h), z_sub h]; congr 1; omega
  · rw [if_neg (by have := z_sl0 ha hb; rw [show (0 : Int32) = nI 0 from rfl, this]; exact h), Int32.zero_sub, z_neg (by omega)]; congr 1; omega
theorem ct_30 (hK : cK I p K) {a b : Nat} (ha : a < K 4) (hb : b < K 4) (k : Q (some (.int (nI (fa K a b)))) ((fl, n1, n2, p, q, ad), I, J)) : mm_wc (d + 2) 30 [.ref 6, .int (nI a), .int (nI b)] ((fl, n1, n2, p, q, ad), I, J) Q := by
  have ok := hK.1
  have h4 := ok.p
  have x1 := ok.xy (k := 46 + a) (by omega) (by omega)
  have x2 := ok.xy (k := 46 + b) (by omega) (by omega)
  have x3 := ok.xy (k := 51 + a) (by omega) (by omega)
  have x4 := ok.xy (k := 51 + b) (by omega) (by omega)
  obtain ⟨-, -, -, -, -, -, -, -, -, -, -, -, px, py, -⟩ := id hK
  refine fx_30 ?_
  rw [z_ix (by omega), z_ix (by omega), px a ha, px b hb]
  refine ⟨z_in (by omega) (by decide), z_in (by omega) (by decide), ct_1000 ⟨_, _, _, rfl, rfl, z_in (by omega) (by decide), z_in (by omega) (by decide), ?_⟩⟩
  rw [py a ha, py b hb]
  refine ct_1000 ⟨_, _, _, rfl, rfl, ?_⟩
  rw [z_abs (by omega) (by omega), z_abs (by omega) (by omega), z_add]
  exact k
end WKC
