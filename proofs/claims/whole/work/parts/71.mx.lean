/-! the model's calls that only read -/
def rf (C : Prop) (V : Int32 → Prop) (v : Int32) (t : Nat) : Prop := (C ∧ V v ∧ t = 0) ∨ (¬ C ∧ v = -1 ∧ t = 1)
theorem rf.uq {C : Prop} {V : Int32 → Prop} {v v' : Int32} {t t' : Nat} (hV : ∀ a b, V a → V b → a = b) (h : rf C V v t) (h' : rf C V v' t') : v = v' ∧ t = t' := by
  rcases h with ⟨a, b, c⟩ | ⟨a, b, c⟩ <;> rcases h' with ⟨a', b', c'⟩ | ⟨a', b', c'⟩
  · exact ⟨hV _ _ b b', by omega⟩
  · exact absurd a a'
  · exact absurd a' a
  · exact ⟨by rw [b, b'], by omega⟩
/-- x is a number below n -/
def ix (n : Nat) (x : Int32) : Prop := ∃ c, c < n ∧ x = nI c
def va_candle (K : Nat → Nat) (x w v : Int32) : Prop := ∃ c j, c < K 3 ∧ x = nI c ∧ j < 3 ∧ w = nI j ∧ v = nI (K (13 + 11 * j + c))
def va_fan (K : Nat → Nat) (x v : Int32) : Prop := ∃ b, b < nB K ∧ x = nI b ∧ v = nI (fanK K b)
def va_breath (K : Nat → Nat) (x y w v : Int32) : Prop := ∃ a b j, a < K 6 ∧ x = nI a ∧ b < K 4 ∧ y = nI b ∧ j < 16 ∧ w = nI j ∧ v = nI (16 * (K 4 * a + b) + j)
def va_breathOf (K : Nat → Nat) (x w v : Int32) : Prop := ∃ b j, b < nB K ∧ x = nI b ∧ j < 3 ∧ w = nI j ∧ v = nI (if j = 0 then b / 16 / K 4 else if j = 1 then b / 16 % K 4 else b % 16)
def va_lights (K : Nat → Nat) (x : Int32) (it : Bool) (v : Int32) : Prop := ∃ c, c < K 3 ∧ x = nI c ∧ v = nI (if it = true then (if K (35 + c) = 2 then nearM K (K 3) c else 0) else litB K c)
def va_size (T : zT) (to : Bool) (K : Nat → Nat) (P : zP) (x v : Int32) : Prop :=
  (x = nI 10 ∧ v = nI T.1) ∨ (x ≠ nI 10 ∧ ¬ ix 10 x ∧ v = -1) ∨ (ix 10 x ∧ to = false ∧ v = nI 0) ∨ (to = true ∧ ((x = nI 0 ∧ v = nI (K 3)) ∨ (x = nI 1 ∧ v = nI (K 4)) ∨ (x = nI 2 ∧ v = nI (K 5)) ∨ (x = nI 3 ∧ v = nI (K 6)) ∨ (x = nI 4 ∧ v = nI (K 1)) ∨ (x = nI 5 ∧ v = nI (K 2)) ∨ (x = nI 6 ∧ v = nI (K 7)) ∨ (x = nI 7 ∧ v = if K 8 = 1 then nI (K 9) else -2) ∨ (x = nI 8 ∧ v = nI P.2.1) ∨ (x = nI 9 ∧ v = nI P.2.2.2.1)))
section MX
variable {d n1 n2 : Nat} {fl : Nat → Bool} {p q : Bool} {ad : Nat → Nat} {J : mmJ} {Q : mmQ} {T : zT} {to : Bool} {K : Nat → Nat} {P : zP} {tr : Nat} {f : zF} {I : mmI}
theorem ct_166 (h : MI T to K P tr f I) (k : ∀ I', frM I I' → MI T to K P 0 f I' → Q none ((fl, n1, n2, p, q, ad), I', J)) : mm_wc (d + 1) 166 [.ref 46] ((fl, n1, n2, p, q, ad), I, J) Q :=
  fx_166 (k _ ((frM.rf.up (by decide) (by decide)).up (by decide) (by decide)) h.good)
theorem ct_167 (h : MI T to K P tr f I) {w : Nat} (hw : w ≤ 6) (h4 : w ≠ 4) (k : ∀ I', frM I I' → MI T to K P w f I' → Q (some (.int (-1))) ((fl, n1, n2, p, q, ad), I', J)) : mm_wc (d + 1) 167 [.ref 46, .int (nI w)] ((fl, n1, n2, p, q, ad), I, J) Q :=
  fx_167 (k _ (frM.rf.up (by decide) (by decide)) (h.no hw h4))
theorem ct_168 (h : MI T to K P tr f I) {w : Nat} (hw : w ≤ 6) (h4 : w ≠ 4) (k : ∀ I', frM I I' → MI T to K P w f I' → Q (some (.int (nI 0))) ((fl, n1, n2, p, q, ad), I', J)) : mm_wc (d + 1) 168 [.ref 46, .int (nI w)] ((fl, n1, n2, p, q, ad), I, J) Q :=
  fx_168 (k _ (frM.rf.up (by decide) (by decide)) (h.no hw h4))
theorem MI.told (h : MI T to K P tr f I) : I 46 14 = bI to := h.2.2.2.2.2.2.1
theorem MI.cake (h : MI T to K P tr f I) (ht : to = true) : okR K ∧ ∃ R, agR R K ∧ mB I R := ⟨(h.1.2.2.2.2.2.1 ht).1, (h.2.2.2.2.2.2.2.2.2.2.2 ht).1⟩
/-- within 0 .. n - 1, by branches -/
theorem wi {x : Int32} {n : Nat} (hn : 1 ≤ n) (hb : n < 2 ^ 31) (k1 : ∀ c, c < n → x = nI c → Q (some (.int (nI 1))) ((fl, n1, n2, p, q, ad), I, J)) (k0 : ¬ ix n x → Q (some (.int (nI 0))) ((fl, n1, n2, p, q, ad), I, J)) : mm_wc (d + 1) 169 [.int x, .int (nI 0), .int (nI n - nI 1)] ((fl, n1, n2, p, q, ad), I, J) Q := by
  refine ct_169n hn hb ?_
  by_cases e : ix n x
  · rw [show decide (∃ j, j < n ∧ x = nI j) = true from decide_eq_true e]
    obtain ⟨c, hc, ec⟩ := e
    exact k1 c hc ec
  · rw [show decide (∃ j, j < n ∧ x = nI j) = false from decide_eq_false e]
    exact k0 e
theorem wi2 {x : Int32} (n : Nat) {y : Int32} (hy : y = nI n - nI 1) (hn : 1 ≤ n) (hb : n < 2 ^ 31) (k1 : ∀ c, c < n → x = nI c → Q (some (.int (nI 1))) ((fl, n1, n2, p, q, ad), I, J)) (k0 : ¬ ix n x → Q (some (.int (nI 0))) ((fl, n1, n2, p, q, ad), I, J)) : mm_wc (d + 1) 169 [.int x, .int (nI 0), .int y] ((fl, n1, n2, p, q, ad), I, J) Q := by
  rw [hy]; exact wi hn hb k1 k0
theorem isx {c : Nat} {x : Int32} {n : Nat} (h : MI T to K P tr f I)
    (fx : (((I 46 14) = (nI 0) → Q (some (.int (nI 0))) ((fl, n1, n2, p, q, ad), I, J)) ∧ (¬ (I 46 14) = (nI 0) → mm_wc (d + 1) 169 [.int x, .int (nI 0), .int (nI n - nI 1)] ((fl, 0, 0, p, q, ad), I, J) (fun v τ => ∃ r1 I1 J1, v = some (.int r1) ∧ τ = ((fl, 0, 0, p, q, ad), I1, J1) ∧ ((r1 = (nI 0) → Q (some (.int (nI 0))) ((fl, n1, n2, p, q, ad), I1, J1)) ∧ (¬ r1 = (nI 0) → Q (some (.int (nI 1))) ((fl, n1, n2, p, q, ad), I1, J1)))))) → mm_wc (d + 2) c [.ref 46, .int x] ((fl, n1, n2, p, q, ad), I, J) Q)
    (hn : to = true → 1 ≤ n ∧ n < 2 ^ 31) (k1 : ∀ c, to = true → c < n → x = nI c → Q (some (.int (nI 1))) ((fl, n1, n2, p, q, ad), I, J)) (k0 : ¬ (to = true ∧ ix n x) → Q (some (.int (nI 0))) ((fl, n1, n2, p, q, ad), I, J)) : mm_wc (d + 2) c [.ref 46, .int x] ((fl, n1, n2, p, q, ad), I, J) Q := by
  refine fx ?_
  rw [h.told, bI_0]
  refine ⟨fun e => k0 (fun z => by rw [e] at z; cases z.1), fun e => ?_⟩
  have e : to = true := by simpa using e
  refine wi (hn e).1 (hn e).2 (fun c hc ec => ⟨_, _, _, rfl, rfl, fun z => absurd z (by rw [z_eq (by decide) (by decide)]; decide), fun _ => k1 c e hc ec⟩) (fun z => ⟨_, _, _, rfl, rfl, fun _ => k0 (fun y => z y.2), fun y => absurd rfl y⟩)
theorem ct_201 {x : Int32} (h : MI T to K P tr f I) (k1 : ∀ c, to = true → c < K 3 → x = nI c → Q (some (.int (nI 1))) ((fl, n1, n2, p, q, ad), I, J)) (k0 : ¬ (to = true ∧ ix (K 3) x) → Q (some (.int (nI 0))) ((fl, n1, n2, p, q, ad), I, J)) : mm_wc (d + 2) 201 [.ref 46, .int x] ((fl, n1, n2, p, q, ad), I, J) Q := by
  by_cases ht : to = true
  · obtain ⟨ok, R, ag, mb⟩ := h.cake ht
    have e : I 49 3 = nI (K 3) := by rw [mb.1.2 3 (by decide), ag 3 (by decide) (by decide) (by decide)]
    have := ok.c
    exact isx h (n := K 3) (fun z => fx_201 (by rw [e]; exact z)) (fun _ => ⟨by omega, by omega⟩) k1 k0
  · refine fx_201 ⟨fun _ => k0 (fun z => ht z.1), fun e => absurd ?_ e⟩
    rw [h.told, bI_0]; simpa using ht
theorem ct_202 {x : Int32} (h : MI T to K P tr f I) (k1 : ∀ c, to = true → c < K 4 → x = nI c → Q (some (.int (nI 1))) ((fl, n1, n2, p, q, ad), I, J)) (k0 : ¬ (to = true ∧ ix (K 4) x) → Q (some (.int (nI 0))) ((fl, n1, n2, p, q, ad), I, J)) : mm_wc (d + 2) 202 [.ref 46, .int x] ((fl, n1, n2, p, q, ad), I, J) Q := by
  by_cases ht : to = true
  · obtain ⟨ok, R, ag, mb⟩ := h.cake ht
    have e : I 49 4 = nI (K 4) := by rw [mb.1.2 4 (by decide), ag 4 (by decide) (by decide) (by decide)]
    have := ok.p
    exact isx h (n := K 4) (fun z => fx_202 (by rw [e]; exact z)) (fun _ => ⟨by omega, by omega⟩) k1 k0
  · refine fx_202 ⟨fun _ => k0 (fun z => ht z.1), fun e => absurd ?_ e⟩
    rw [h.told, bI_0]; simpa using ht
theorem ct_203 {x : Int32} (h : MI T to K P tr f I) (k1 : ∀ c, to = true → c < K 6 → x = nI c → Q (some (.int (nI 1))) ((fl, n1, n2, p, q, ad), I, J)) (k0 : ¬ (to = true ∧ ix (K 6) x) → Q (some (.int (nI 0))) ((fl, n1, n2, p, q, ad), I, J)) : mm_wc (d + 2) 203 [.ref 46, .int x] ((fl, n1, n2, p, q, ad), I, J) Q := by
  by_cases ht : to = true
  · obtain ⟨ok, R, ag, mb⟩ := h.cake ht
    have e : I 49 6 = nI (K 6) := by rw [mb.1.2 6 (by decide), ag 6 (by decide) (by decide) (by decide)]
    have := ok.h
    exact isx h (n := K 6) (fun z => fx_203 (by rw [e]; exact z)) (fun _ => ⟨by omega, by omega⟩) k1 k0
  · refine fx_203 ⟨fun _ => k0 (fun z => ht z.1), fun e => absurd ?_ e⟩
    rw [h.told, bI_0]; simpa using ht
theorem agR_nB {R K : Nat → Nat} (h : agR R K) : nB R = nB K := by unfold nB; rw [h 4 (by decide) (by decide) (by decide), h 6 (by decide) (by decide) (by decide)]
theorem nB_pos {K : Nat → Nat} (ok : okR K) : 1 ≤ nB K := by
  have h4 := ok.p
  have h6 := ok.h
  unfold nB
  have := Nat.mul_le_mul h4.1 h6.1
  rw [Nat.mul_assoc]; omega
end MX
