/-! numbers, bits, sets as numbers -/
theorem z_sl : ∀ n, n < 32 → ((nI n &&& 31).toBitVec.smod 32).toNat = n := by decide +kernel
theorem z_and (a b : Nat) : nI a &&& nI b = nI (a &&& b) := by
  apply Int32.toBitVec_inj.1
  show BitVec.ofNat 32 a &&& BitVec.ofNat 32 b = BitVec.ofNat 32 (a &&& b)
  apply BitVec.eq_of_getLsbD_eq
  intro i hi
  simp [hi]
theorem z_or (a b : Nat) : nI a ||| nI b = nI (a ||| b) := by
  apply Int32.toBitVec_inj.1
  show BitVec.ofNat 32 a ||| BitVec.ofNat 32 b = BitVec.ofNat 32 (a ||| b)
  apply BitVec.eq_of_getLsbD_eq
  intro i hi
  simp [hi]
theorem z_xor (a b : Nat) : nI a ^^^ nI b = nI (a ^^^ b) := by
  apply Int32.toBitVec_inj.1
  show BitVec.ofNat 32 a ^^^ BitVec.ofNat 32 b = BitVec.ofNat 32 (a ^^^ b)
  apply BitVec.eq_of_getLsbD_eq
  intro i hi
  simp [hi]
/-- a without b -/
def sd (a b : Nat) : Nat := a &&& (a ^^^ b)
theorem sd_tb (a b i : Nat) : (sd a b).testBit i = (a.testBit i && !b.testBit i) := by
  unfold sd
  rw [Nat.testBit_and, Nat.testBit_xor]
  cases a.testBit i <;> cases b.testBit i <;> rfl
theorem sd_le (a b : Nat) : sd a b ≤ a := Nat.and_le_left
theorem z_andn (a b : Nat) : nI a &&& (nI b ^^^ (-1)) = nI (sd a b) := by
  apply Int32.toBitVec_inj.1
  show BitVec.ofNat 32 a &&& (BitVec.ofNat 32 b ^^^ (-1 : Int32).toBitVec) = BitVec.ofNat 32 (sd a b)
  apply BitVec.eq_of_getLsbD_eq
  intro i hi
  have h1 : ∀ i, i < 32 → (-1 : Int32).toBitVec.getLsbD i = true := by decide +kernel
  rw [BitVec.getLsbD_and, BitVec.getLsbD_xor, h1 i hi, BitVec.getLsbD_ofNat, BitVec.getLsbD_ofNat, BitVec.getLsbD_ofNat, sd_tb]
  simp [hi]
theorem z_shl {a k : Nat} (hk : k < 32) : nI a <<< (nI k &&& 31) = nI (a * 2 ^ k) := by
  apply Int32.toBitVec_inj.1
  apply BitVec.eq_of_toNat_eq
  rw [pk_shl (nI a) (nI k &&& 31) k (z_sl k hk)]
  show a % 2 ^ 32 * 2 ^ k % 2 ^ 32 = a * 2 ^ k % 2 ^ 32
  rw [Nat.mod_mul_mod]
theorem z_bit {k : Nat} (hk : k < 32) : nI 1 <<< (nI k &&& 31) = nI (2 ^ k) := by rw [z_shl hk, Nat.one_mul]
theorem z_shr {a k : Nat} (ha : a < 2 ^ 31) (hk : k < 32) : nI a >>> (nI k &&& 31) = nI (a / 2 ^ k) := pk_shrN ha _ k (z_sl k hk)
theorem z_add (a b : Nat) : nI a + nI b = nI (a + b) := nI_add a b
theorem z_mul (a b : Nat) : nI a * nI b = nI (a * b) := pk_mul a b
theorem z_sub {a b : Nat} (h : b ≤ a) : nI a - nI b = nI (a - b) := pk_sub h
theorem z_ix {a : Nat} (h : a < 2 ^ 31) : (nI a).toNatClampNeg = a := nI_clamp h
theorem z_in {a n : Nat} (h : a < n) (hn : n < 2 ^ 31) : vp_in (nI a) n := vp_in_nI h hn
theorem z_le {a b : Nat} (ha : a < 2 ^ 31) (hb : b < 2 ^ 31) : (nI a ≤ nI b) = (a ≤ b) := propext (nI_leI ha hb)
theorem z_lt {a b : Nat} (ha : a < 2 ^ 31) (hb : b < 2 ^ 31) : (nI a < nI b) = (a < b) := propext (nI_ltI ha hb)
theorem z_eq {a b : Nat} (ha : a < 2 ^ 31) (hb : b < 2 ^ 31) : (nI a = nI b) = (a = b) := propext (nI_eq ha hb)
theorem z_div {a d : Nat} (ha : a < 2 ^ 31) (h0 : 0 < d) (hd : d < 2 ^ 31) : nI a / nI d = nI (a / d) := pk_div ha h0 hd
theorem z_rem {a d : Nat} (ha : a < 2 ^ 31) (h0 : 0 < d) (hd : d < 2 ^ 31) : nI a - nI a / nI d * nI d = nI (a % d) := pk_rem ha h0 hd
theorem z_m1 {a : Nat} (ha : a < 2 ^ 31) : (nI a = -1) = False := by
  apply propext; constructor
  · intro h
    have := congrArg Int32.toInt h
    rw [nI_toInt ha] at this
    have e : (-1 : Int32).toInt = -1 := rfl
    rw [e] at this; omega
  · exact False.elim
theorem z_m2 {a : Nat} (ha : a < 2 ^ 31) : (nI a = -2) = False := by
  apply propext; constructor
  · intro h
    have := congrArg Int32.toInt h
    rw [nI_toInt ha] at this
    have e : (-2 : Int32).toInt = -2 := rfl
    rw [e] at this; omega
  · exact False.elim
theorem z_m3 {a : Nat} (ha : a < 2 ^ 31) : (nI a = -3) = False := by
  apply propext; constructor
  · intro h
    have := congrArg Int32.toInt h
    rw [nI_toInt ha] at this
    have e : (-3 : Int32).toInt = -3 := rfl
    rw [e] at this; omega
  · exact False.elim
/-- a Bool as an int -/
def bI (b : Bool) : Int32 := nI b.toNat
theorem bI_01 (b : Bool) : bI b = 0 ∨ bI b = 1 := by cases b; exact .inl rfl; exact .inr rfl
theorem bI_0 (b : Bool) : (bI b = nI 0) = (b = false) := by cases b <;> simp [bI, nI]
theorem bI_1 (b : Bool) : (bI b = nI 1) = (b = true) := by cases b <;> simp [bI, nI]
theorem bI_t : bI true = nI 1 := rfl
theorem bI_f : bI false = nI 0 := rfl
/-- an int is a natural number below 2^31, or negative -/
theorem z_ca (x : Int32) : x < nI 0 ∨ ∃ a : Nat, a < 2 ^ 31 ∧ x = nI a := by
  by_cases h : x < 0
  · exact .inl h
  · obtain ⟨j, h1, h2⟩ := nI_of h
    exact .inr ⟨j, h1, h2⟩
/-- the set of those below n with P -/
def bset (P : Nat → Bool) : Nat → Nat
  | 0 => 0
  | n + 1 => if P n = true then bset P n ||| 2 ^ n else bset P n
theorem bset_tb (P : Nat → Bool) (n j : Nat) : (bset P n).testBit j = (decide (j < n) && P j) := by
  induction n with
  | zero => simp [bset]
  | succ n ih =>
    unfold bset
    split
    · rename_i h
      rw [Nat.testBit_or, ih, Nat.testBit_two_pow]
      by_cases hj : n = j
      · subst hj; simp [h]
      · by_cases h2 : j < n
        · have : j < n + 1 := by omega
          simp [h2, this, hj]
        · have : ¬ j < n + 1 := by omega
          simp [h2, this, hj]
    · rename_i h
      rw [ih]
      by_cases hj : j = n
      · subst hj; simp [h]
      · by_cases h2 : j < n
        · have : j < n + 1 := by omega
          simp [h2, this]
        · have : ¬ j < n + 1 := by omega
          simp [h2, this]
theorem bset_lt (P : Nat → Bool) (n : Nat) : bset P n < 2 ^ n := by
  apply Nat.lt_pow_two_of_testBit
  intro i hi
  rw [bset_tb]
  simp [Nat.not_lt.mpr hi]
theorem bset_congr {P P' : Nat → Bool} {n : Nat} (h : ∀ j, j < n → P j = P' j) : bset P n = bset P' n := by
  apply Nat.eq_of_testBit_eq
  intro i
  rw [bset_tb, bset_tb]
  by_cases hi : i < n
  · rw [h i hi]
  · simp [hi]
/-- how many bits below n -/
def popc (s : Nat) : Nat → Nat
  | 0 => 0
  | k + 1 => popc s k + s / 2 ^ k % 2
def zcnt (s : Nat) : Nat := popc s 14
theorem popc_le (s n : Nat) : popc s n ≤ n := by
  induction n with
  | zero => exact Nat.le_refl _
  | succ n ih => unfold popc; omega
theorem popc_mono (s : Nat) {n m : Nat} (h : n ≤ m) : popc s n ≤ popc s m := by
  induction h with
  | refl => exact Nat.le_refl _
  | step _ ih => exact Nat.le_trans ih (by rw [popc]; omega)
theorem tb_div (s k : Nat) : s / 2 ^ k % 2 = (s.testBit k).toNat := by
  rw [Nat.testBit_eq_decide_div_mod_eq]
  have : s / 2 ^ k % 2 = 0 ∨ s / 2 ^ k % 2 = 1 := by omega
  rcases this with h | h <;> simp [h]
theorem popc_succ (s k : Nat) : popc s (k + 1) = popc s k + (s.testBit k).toNat := by rw [popc, tb_div]
theorem popc_lt {s a b : Nat} (h : a < b) (ht : s.testBit a = true) : popc s a < popc s b := by
  have := popc_mono s (show a + 1 ≤ b from h)
  rw [popc_succ, ht] at this
  exact this
theorem popc_inj {s a b : Nat} (ha : s.testBit a = true) (hb : s.testBit b = true) (h : popc s a = popc s b) : a = b := by
  rcases Nat.lt_trichotomy a b with q | q | q
  · have := popc_lt q ha; omega
  · exact q
  · have := popc_lt q hb; omega
theorem lt_of_tb {s n i : Nat} (h : s < 2 ^ n) (ht : s.testBit i = true) : i < n := by
  rcases Nat.lt_or_ge i n with q | q
  · exact q
  · rw [Nat.testBit_lt_two_pow (Nat.lt_of_lt_of_le h (Nat.pow_le_pow_right (by omega) q))] at ht
    cases ht
theorem and_ne0 {a b : Nat} : a &&& b ≠ 0 ↔ ∃ i, a.testBit i = true ∧ b.testBit i = true := by
  constructor
  · intro h
    obtain ⟨i, hi⟩ := Nat.exists_testBit_of_ne_zero h
    rw [Nat.testBit_and, Bool.and_eq_true] at hi
    exact ⟨i, hi⟩
  · rintro ⟨i, h1, h2⟩ h
    have := Nat.testBit_and a b i
    rw [h, h1, h2, Nat.zero_testBit] at this
    cases this
theorem and_eq0 {a b : Nat} : a &&& b = 0 ↔ ∀ i, a.testBit i = true → b.testBit i = false := by
  constructor
  · intro h i h1
    have := Nat.testBit_and a b i
    rw [h, h1, Nat.zero_testBit] at this
    cases hb : b.testBit i
    · rfl
    · rw [hb] at this; cases this
  · intro h
    apply Nat.eq_of_testBit_eq
    intro i
    rw [Nat.testBit_and, Nat.zero_testBit]
    cases ha : a.testBit i
    · rfl
    · rw [h i ha]; rfl
theorem sd_lt {a b n : Nat} (h : a < 2 ^ n) : sd a b < 2 ^ n := Nat.lt_of_le_of_lt (sd_le a b) h
theorem tb_2pow (n m : Nat) : (2 ^ n).testBit m = decide (n = m) := Nat.testBit_two_pow
/-! memory -/
theorem up_eq (I : mmI) (r k : Nat) (x : Int32) (r' k' : Nat) : mm_up I r k x r' k' = if r' = r ∧ k' = k then x else I r' k' := by
  unfold mm_up
  by_cases h : r' = r
  · subst h
    simp only [if_true, true_and]
    unfold upd
    rfl
  · simp [h]
theorem up_s (I : mmI) (r k : Nat) (x : Int32) : mm_up I r k x r k = x := by rw [up_eq]; simp
theorem up_k {I : mmI} {r k k' : Nat} {x : Int32} (h : k' ≠ k) : mm_up I r k x r k' = I r k' := by rw [up_eq]; simp [h]
theorem up_r {I : mmI} {r r' k : Nat} {x : Int32} (h : r' ≠ r) : mm_up I r k x r' = I r' := by funext k'; rw [up_eq]; simp [h]
theorem upJ_eq (J : mmJ) (r k : Nat) (x : Int64) (r' k' : Nat) : mm_upJ J r k x r' k' = if r' = r ∧ k' = k then x else J r' k' := by
  unfold mm_upJ
  by_cases h : r' = r
  · subst h
    simp only [if_true, true_and]
    unfold vp_updL
    rfl
  · simp [h]
theorem upJ_r {J : mmJ} {r r' k : Nat} {x : Int64} (h : r' ≠ r) : mm_upJ J r k x r' = J r' := by funext k'; rw [upJ_eq]; simp [h]
/-- I' is I but at the cells of S -/
def kp (S : List Nat) (I I' : mmI) : Prop := ∀ r, r ∉ S → I' r = I r
theorem kp.rf {S : List Nat} {I : mmI} : kp S I I := fun _ _ => rfl
theorem kp.tr {S : List Nat} {I I' I'' : mmI} (h : kp S I I') (h2 : kp S I' I'') : kp S I I'' := fun r hr => (h2 r hr).trans (h r hr)
theorem kp.up {S : List Nat} {I I' : mmI} (h : kp S I I') {r k : Nat} {x : Int32} (hr : r ∈ S) : kp S I (mm_up I' r k x) := fun q hq => by
  have : q ≠ r := fun e => hq (by rw [e]; exact hr)
  rw [up_r this]; exact h q hq
theorem kp.mono {S T : List Nat} {I I' : mmI} (h : kp S I I') (hs : ∀ r, r ∈ S → r ∈ T) : kp T I I' := fun r hr => h r (fun q => hr (hs r q))
