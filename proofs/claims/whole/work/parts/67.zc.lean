/-! the model's breath is the class's; moments that can be -/
theorem zc {K R N : Nat → Nat} {th F f m ms gl : Nat} (h3 : R 3 = K 3) (hk : ∀ c, c < K 3 → R (35 + c) = K (35 + c)) (hb : ∀ i, (m / 8).testBit i = true → i < K 3 ∨ i = 10) (h10 : K 3 ≤ 10)
    (hF : ∀ i, (m / 8).testBit i = true → F.testBit i = f.testBit i) (hT : ∀ i, (m / 8).testBit i = true → (ofK K 3).testBit i = true → th.testBit i = true) (hA : ∀ i, (ofK K 2).testBit i = true → th.testBit i = !ms.testBit i)
    (hN : ∀ c, c < K 3 → ∀ e, e < K 3 → (N c).testBit e = nrM K c e) (hg : (m / 8).testBit 10 = true → ∀ c, gl.testBit c = ((ofK K 2).testBit c && (N c).testBit 10)) : zstp R th N F m = cstp K ms gl f m := by
  have eK : ∀ j, ofK R j = ofK K j := by
    intro j
    unfold ofK
    rw [h3]
    exact bset_congr (fun c hc => by rw [hk c hc])
  unfold zstp cstp
  rw [eK, eK, h3]
  have e1 : bH (ofK K 3 &&& th) (m / 8) (dzs (ofK K 3) (K 3) (m % 8)) F = bH (ofK K 3) (m / 8) (dzs (ofK K 3) (K 3) (m % 8)) f := by
    apply Nat.eq_of_testBit_eq
    intro i
    unfold bH
    rw [sd_tb, sd_tb, Nat.testBit_and, Nat.testBit_and, Nat.testBit_and, Nat.testBit_and, Nat.testBit_and]
    cases h1 : (m / 8).testBit i
    · simp
    · rw [hF i h1]
      cases h2 : (ofK K 3).testBit i
      · simp
      · rw [hT i h1 h2]; simp
  rw [e1]
  have hhs := bH_sub (ofK K 3) (m / 8) (dzs (ofK K 3) (K 3) (m % 8)) f
  generalize bH (ofK K 3) (m / 8) (dzs (ofK K 3) (K 3) (m % 8)) f = hh at *
  have e2 : bL (m / 8) F hh = bL (m / 8) f hh := by
    unfold bL
    congr 1
    apply Nat.eq_of_testBit_eq
    intro i
    rw [sd_tb, sd_tb]
    cases h1 : (m / 8).testBit i
    · simp
    · rw [hF i h1]
  rw [e2]
  have hls := bL_sub (b := m / 8) (f := f) (h := hh) (fun i hi => (hhs i hi).1)
  generalize bL (m / 8) f hh = ll at *
  congr 2
  apply Nat.eq_of_testBit_eq
  intro i
  rw [Nat.testBit_or, Nat.testBit_or]
  cases hl : ll.testBit i
  · rw [Bool.false_or, Bool.false_or]
    unfold bG litS
    rw [bset_tb, sd_tb, sd_tb, Nat.testBit_or, bset_tb, Nat.testBit_and, hl]
    by_cases hi : i < K 3
    · have hA2 := ofK_tb (R := K) (k := 2) hi
      by_cases hk2 : (K (35 + i) == 2) = true
      · rw [hk2] at hA2
        rw [hA i hA2, hA2, hk2]
        have e3 : (N i &&& ll != 0) = ((nearM K (K 3) i &&& ll % 1024 != 0) || (ll.testBit 10 && (N i).testBit 10)) := by
          rw [Bool.eq_iff_iff]
          simp only [bne_iff_ne, Bool.or_eq_true, Bool.and_eq_true]
          rw [and_ne0, and_ne0]
          constructor
          · rintro ⟨e, g1, g2⟩
            rcases hb e (hls e g2) with z | z
            · refine .inl ⟨e, ?_, ?_⟩
              · unfold nearM; rw [bset_tb, ← hN i hi e z, g1]; simp [z]
              · rw [show 1024 = 2 ^ 10 from rfl, Nat.testBit_mod_two_pow, g2]
                have : e < 10 := by omega
                simp [this]
            · subst z; exact .inr ⟨g2, g1⟩
          · rintro (⟨e, g1, g2⟩ | ⟨g1, g2⟩)
            · unfold nearM at g1
              rw [bset_tb] at g1
              simp only [Bool.and_eq_true, decide_eq_true_eq] at g1
              rw [show 1024 = 2 ^ 10 from rfl, Nat.testBit_mod_two_pow] at g2
              simp only [Bool.and_eq_true] at g2
              exact ⟨e, by rw [hN i hi e g1.1]; exact g1.2, g2.2⟩
            · exact ⟨10, g2, g1⟩
        rw [e3]
        by_cases h10l : ll.testBit 10 = true
        · have := hg (hls 10 h10l) i
          rw [hA2] at this
          simp [h10l, this, hi, Bool.and_comm]
        · simp [h10l, hi, Bool.and_comm]
      · have hA2' : (ofK K 2).testBit i = false := by rw [hA2]; simpa using hk2
        have hk2' : (K (35 + i) == 2) = false := by simpa using hk2
        rw [hA2', hk2']
        by_cases h10l : ll.testBit 10 = true
        · have := hg (hls 10 h10l) i
          rw [hA2'] at this
          simp [h10l, this]
        · simp [h10l]
    · have hA2 : (ofK K 2).testBit i = false := by
        cases hz : (ofK K 2).testBit i
        · rfl
        · exact absurd (lt_of_tb (ofK_lt K 2) hz) hi
      by_cases h10l : ll.testBit 10 = true
      · have := hg (hls 10 h10l) i
        rw [hA2] at this
        simp [h10l, this, hi]
      · simp [h10l, hi]
  · simp
/-- a moment that can be (g: with a guest) -/
def vm (K : Nat → Nat) (g : Prop) (m : Nat) : Prop := (∀ i, (m / 8).testBit i = true → i < K 3 ∨ (g ∧ i = 10)) ∧ m % 8 = cde (ofK K 3) (dzs (ofK K 3) (K 3) (m % 8)) (K 3) ∧ ∀ c, (dzs (ofK K 3) (K 3) (m % 8)).testBit c = true → (m / 8).testBit c = true
theorem vm.lt {K : Nat → Nat} {g : Prop} {m : Nat} (ok : okR K) (h : vm K g m) : m / 8 < 2 ^ 11 := by
  apply Nat.lt_pow_two_of_testBit
  intro i hi
  cases hb : (m / 8).testBit i
  · rfl
  · have := ok.c
    rcases h.1 i hb with z | z <;> omega
theorem vm.lt2 {K : Nat → Nat} {g : Prop} {m : Nat} (ok : okR K) (h : vm K g m) : m / 8 % 1024 < 2 ^ K 3 := by
  apply Nat.lt_pow_two_of_testBit
  intro i hi
  rw [show 1024 = 2 ^ 10 from rfl, Nat.testBit_mod_two_pow]
  cases hb : (m / 8).testBit i
  · simp
  · rcases h.1 i hb with z | z
    · omega
    · simp [z.2]
theorem vm.lt0 {K : Nat → Nat} {m : Nat} (h : vm K False m) : m / 8 < 2 ^ K 3 := by
  apply Nat.lt_pow_two_of_testBit
  intro i hi
  cases hb : (m / 8).testBit i
  · rfl
  · rcases h.1 i hb with z | z
    · omega
    · exact z.1.elim
theorem cstp_d {K : Nat → Nat} (ok : okR K) {ms gl f m : Nat} : cstp K ms gl f m / 8 = (bL (m / 8) f (bH (ofK K 3) (m / 8) (dzs (ofK K 3) (K 3) (m % 8)) f) ||| sd (litS K (bL (m / 8) f (bH (ofK K 3) (m / 8) (dzs (ofK K 3) (K 3) (m % 8)) f) % 1024) ||| (if (bL (m / 8) f (bH (ofK K 3) (m / 8) (dzs (ofK K 3) (K 3) (m % 8)) f)).testBit 10 = true then gl else 0)) ms) ∧ cstp K ms gl f m % 8 = cde (ofK K 3) (bH (ofK K 3) (m / 8) (dzs (ofK K 3) (K 3) (m % 8)) f) (K 3) := by
  have h : cde (ofK K 3) (bH (ofK K 3) (m / 8) (dzs (ofK K 3) (K 3) (m % 8)) f) (K 3) < 2 ^ 3 := cde_lt ok.t
  unfold cstp
  omega
theorem cstp_vm {K : Nat → Nat} (ok : okR K) {g : Prop} {ms gl f m : Nat} (h : vm K g m) (hgl : ∀ i, gl.testBit i = true → i < K 3) : vm K g (cstp K ms gl f m) := by
  obtain ⟨e1, e2⟩ := cstp_d ok (ms := ms) (gl := gl) (f := f) (m := m)
  unfold vm
  rw [e1, e2]
  have hhs := bH_sub (ofK K 3) (m / 8) (dzs (ofK K 3) (K 3) (m % 8)) f
  generalize bH (ofK K 3) (m / 8) (dzs (ofK K 3) (K 3) (m % 8)) f = hh at *
  have ez : dzs (ofK K 3) (K 3) (cde (ofK K 3) hh (K 3)) = hh := dzs_cde (fun c hc => ⟨lt_of_tb (ofK_lt K 3) (hhs c hc).2.2.1, (hhs c hc).2.2.1⟩)
  rw [ez]
  have hls := bL_sub (b := m / 8) (f := f) (h := hh) (fun i hi => (hhs i hi).1)
  have hlh : ∀ c, hh.testBit c = true → (bL (m / 8) f hh).testBit c = true := fun c hc => by unfold bL; rw [Nat.testBit_or, hc, Bool.or_true]
  generalize bL (m / 8) f hh = ll at *
  refine ⟨fun i hi => ?_, rfl, fun c hc => by rw [Nat.testBit_or, hlh c hc, Bool.true_or]⟩
  rw [Nat.testBit_or, sd_tb, Nat.testBit_or, Bool.or_eq_true, Bool.and_eq_true, Bool.or_eq_true] at hi
  rcases hi with z | ⟨z | z, -⟩
  · exact h.1 i (hls i z)
  · unfold litS at z
    exact .inl (lt_of_tb (bset_lt _ _) z)
  · split at z
    · exact .inl (hgl i z)
    · rw [Nat.zero_testBit] at z; cases z
theorem vm_0 {K : Nat → Nat} (ok : okR K) {g : Prop} {m : Nat} (h : vm K g m) (h0 : m / 8 = 0) : m = 0 := by
  have : dzs (ofK K 3) (K 3) (m % 8) = 0 := by
    apply Nat.eq_of_testBit_eq
    intro i
    rw [Nat.zero_testBit]
    cases hb : (dzs (ofK K 3) (K 3) (m % 8)).testBit i
    · rfl
    · have := h.2.2 i hb
      rw [h0, Nat.zero_testBit] at this; cases this
  have h2 := h.2.1
  rw [this] at h2
  have e0 : cde (ofK K 3) 0 (K 3) = 0 := by
    apply Nat.eq_of_testBit_eq
    intro t
    rw [Nat.zero_testBit]
    cases hb : (cde (ofK K 3) 0 (K 3)).testBit t
    · rfl
    · obtain ⟨c, -, -, h4, -⟩ := (cde_tb _ _ _ _).mp hb
      rw [Nat.zero_testBit] at h4; cases h4
  omega
/-! how many moments there can be -/
def rdx (T : Nat) : Nat → Nat
  | 0 => 1
  | c + 1 => rdx T c * (if T.testBit c = true then 3 else 2)
def enc (T b z : Nat) : Nat → Nat
  | 0 => 0
  | c + 1 => enc T b z c * (if T.testBit c = true then 3 else 2) + (b.testBit c).toNat + (if T.testBit c = true then (z.testBit c).toNat else 0)
theorem bt_le (b : Bool) : b.toNat ≤ 1 := by cases b <;> decide
theorem enc_lt (T b z n : Nat) : enc T b z n < rdx T n := by
  induction n with
  | zero => exact Nat.zero_lt_one
  | succ n ih =>
    unfold enc rdx
    have h1 := bt_le (b.testBit n)
    have h2 := bt_le (z.testBit n)
    split <;> omega
theorem enc_inj {T b z b' z' : Nat} (hz : ∀ c, z.testBit c = true → b.testBit c = true) (hz' : ∀ c, z'.testBit c = true → b'.testBit c = true) : ∀ n, enc T b z n = enc T b' z' n → ∀ c, c < n → b.testBit c = b'.testBit c ∧ (T.testBit c = true → z.testBit c = z'.testBit c)
  | 0, _, c, hc => absurd hc (by omega)
  | n + 1, h, c, hc => by
    unfold enc at h
    have a1 := bt_le (b.testBit n)
    have a2 := bt_le (z.testBit n)
    have a3 := bt_le (b'.testBit n)
    have a4 := bt_le (z'.testBit n)
    have key : enc T b z n = enc T b' z' n ∧ (b.testBit n = b'.testBit n ∧ (T.testBit n = true → z.testBit n = z'.testBit n)) := by
      by_cases ht : T.testBit n = true
      · simp only [ht, if_true] at h
        refine ⟨by omega, ?_⟩
        have hs : (b.testBit n).toNat + (z.testBit n).toNat = (b'.testBit n).toNat + (z'.testBit n).toNat := by omega
        have q1 := hz n
        have q2 := hz' n
        revert hs q1 q2
        cases b.testBit n <;> cases z.testBit n <;> cases b'.testBit n <;> cases z'.testBit n <;> simp
      · rw [if_neg ht, if_neg ht, if_neg ht] at h
        refine ⟨by omega, ?_, fun z => absurd z ht⟩
        have hs : (b.testBit n).toNat = (b'.testBit n).toNat := by omega
        revert hs
        cases b.testBit n <;> cases b'.testBit n <;> simp
    by_cases e : c = n
    · subst e; exact key.2
    · exact enc_inj hz hz' n key.1 c (by omega)
theorem rdx_eq (T n : Nat) : rdx T n * 2 ^ popc T n = 2 ^ n * 3 ^ popc T n := by
  induction n with
  | zero => rfl
  | succ n ih =>
    rw [popc_succ]
    unfold rdx
    by_cases ht : T.testBit n = true
    · simp only [ht, if_true, Bool.toNat_true]
      rw [Nat.pow_succ, Nat.pow_succ, Nat.pow_succ]
      have : rdx T n * 3 * (2 ^ popc T n * 2) = (rdx T n * 2 ^ popc T n) * (3 * 2) := by
        simp only [Nat.mul_assoc, Nat.mul_comm, Nat.mul_left_comm]
      rw [this, ih]
      simp only [Nat.mul_assoc, Nat.mul_comm, Nat.mul_left_comm]
    · have ht : T.testBit n = false := by simpa using ht
      simp only [ht, Bool.toNat_false, Nat.add_zero]
      rw [Nat.pow_succ]
      have : rdx T n * 2 * 2 ^ popc T n = (rdx T n * 2 ^ popc T n) * 2 := by
        simp only [Nat.mul_assoc, Nat.mul_comm, Nat.mul_left_comm]
      simp only [Bool.false_eq_true, if_false]
      rw [this, ih]
      simp only [Nat.mul_assoc, Nat.mul_comm, Nat.mul_left_comm]
theorem rdx_le {T n : Nat} (hn : n ≤ 10) (hp : popc T n ≤ 3) : rdx T n ≤ 3456 := by
  have h := rdx_eq T n
  have h2 : 2 ^ n ≤ 2 ^ 10 := Nat.pow_le_pow_right (by decide) hn
  have hc : popc T n = 0 ∨ popc T n = 1 ∨ popc T n = 2 ∨ popc T n = 3 := by omega
  rcases hc with e | e | e | e <;> rw [e] at h <;> omega
/-- no more than so many unlike moments -/
theorem vm_many {K : Nat → Nat} (ok : okR K) {g : Prop} {q : Nat → Nat} {tl : Nat} (hV : ∀ i, i < tl → vm K g (q i)) (hi : ∀ i j, i < tl → j < tl → q i = q j → i = j) : tl ≤ 6912 ∧ (¬ g → tl ≤ 3456) := by
  have hr := rdx_le ok.c.2 ok.t
  have core : ∀ i j, i < tl → j < tl → enc (ofK K 3) (q i / 8) (dzs (ofK K 3) (K 3) (q i % 8)) (K 3) = enc (ofK K 3) (q j / 8) (dzs (ofK K 3) (K 3) (q j % 8)) (K 3) → (q i / 8).testBit 10 = (q j / 8).testBit 10 → i = j := by
    intro i j hi' hj' e e10
    have vi := hV i hi'
    have vj := hV j hj'
    have key := enc_inj vi.2.2 vj.2.2 (K 3) e
    have eb : q i / 8 = q j / 8 := by
      apply Nat.eq_of_testBit_eq
      intro c
      by_cases hc : c < K 3
      · exact (key c hc).1
      · by_cases hc10 : c = 10
        · subst hc10; exact e10
        · cases h1 : (q i / 8).testBit c
          · cases h2 : (q j / 8).testBit c
            · rfl
            · rcases vj.1 c h2 with z | z
              · exact absurd z hc
              · exact absurd z.2 hc10
          · rcases vi.1 c h1 with z | z
            · exact absurd z hc
            · exact absurd z.2 hc10
    have ez : dzs (ofK K 3) (K 3) (q i % 8) = dzs (ofK K 3) (K 3) (q j % 8) := by
      apply Nat.eq_of_testBit_eq
      intro c
      by_cases hc : c < K 3
      · by_cases ht : (ofK K 3).testBit c = true
        · exact (key c hc).2 ht
        · have ht : (ofK K 3).testBit c = false := by simpa using ht
          rw [dzs_tb, dzs_tb, ht]; simp
      · rw [dzs_tb, dzs_tb]; simp [hc]
    have em : q i % 8 = q j % 8 := by rw [vi.2.1, vj.2.1, ez]
    refine hi i j hi' hj' ?_
    omega
  refine ⟨pig 6912 tl (fun i => enc (ofK K 3) (q i / 8) (dzs (ofK K 3) (K 3) (q i % 8)) (K 3) * 2 + ((q i / 8).testBit 10).toNat) (fun i hi' => ?_) (fun i j hi' hj' e => ?_), fun hg => pig 3456 tl (fun i => enc (ofK K 3) (q i / 8) (dzs (ofK K 3) (K 3) (q i % 8)) (K 3)) (fun i hi' => ?_) (fun i j hi' hj' e => core i j hi' hj' e ?_)⟩
  · have := enc_lt (ofK K 3) (q i / 8) (dzs (ofK K 3) (K 3) (q i % 8)) (K 3)
    have := bt_le ((q i / 8).testBit 10)
    omega
  · have a1 := bt_le ((q i / 8).testBit 10)
    have a2 := bt_le ((q j / 8).testBit 10)
    refine core i j hi' hj' (by omega) ?_
    have : ((q i / 8).testBit 10).toNat = ((q j / 8).testBit 10).toNat := by omega
    revert this
    cases (q i / 8).testBit 10 <;> cases (q j / 8).testBit 10 <;> simp
  · have := enc_lt (ofK K 3) (q i / 8) (dzs (ofK K 3) (K 3) (q i % 8)) (K 3)
    omega
  · have no : ∀ i, i < tl → (q i / 8).testBit 10 = false := fun i hi' => by
      cases hb : (q i / 8).testBit 10
      · rfl
      · have := ok.c
        rcases (hV i hi').1 10 hb with z | z
        · omega
        · exact absurd z.1 hg
    rw [no i hi', no j hj']
