/-! the class's walk: what the person's search says -/
theorem pW_of {K al : Nat → Nat} {cnt h : Nat} {I1 I' : mmI} {m L1 : Nat} {r : Int32} (ok : okR K) (hv : vm K False m) (hh : h < 100) (g1 : cLg I1 (fanK K) (lP K 2 (nI h) true) L1 (nB K) cnt al) (hr : cSE I1 I' K 0 0 cnt (fun k => fanK K (al k)) m 2047 r) (hne : r ≠ -2) : ∃ qq dp tl hd f L, r = nI L ∧ pW K h m cnt al qq dp tl hd f L ∧ cQ I' qq dp tl ∧ isD (goal0 (kby K h) m) (nI L) := by
  have hg0 : ∀ i, Nat.testBit 0 i = true → i < K 3 := fun i hi => by rw [Nat.zero_testBit] at hi; cases hi
  have hal := g1.2.2.2.2.2.1
  have eb : (fun b => (ow K 2 b = h) ↔ true = true) = fun b => b / 16 / K 4 = h := by funext b; simp [ow]
  have esc : csc K 0 0 cnt (fun k => fanK K (al k)) = kby K h := by rw [csc_eq hal, lP_c ok true hh (by decide), eb]
  have key : ∀ v, vm K False v → (v / 8 &&& 2047 = 0 ↔ v / 8 = 0) := fun v hv => by
    rw [show (2047 : Nat) = 2 ^ 11 - 1 from rfl, Nat.and_two_pow_sub_one_eq_mod, Nat.mod_eq_of_lt (hv.lt ok)]
  have hsc : ∀ m m', kby K h m m' ↔ ∃ k, k < cnt ∧ m' = zst K m (al k) := fun m m' => by rw [← esc]; exact Iff.rfl
  obtain ⟨qq, dp, tl, hd, f, -, h2, h3, h4, h5, h6, h7⟩ := hr
  rw [esc] at h3 h6
  have hvm : ∀ i, i < tl → vm K False (qq i) := fun i hi => (rch_V (V := vmm K False 0) ⟨hv, fun i _ => Nat.zero_testBit i⟩ (ksc_V ok hg0) _ _ (h3.2.2.2.2.2.1 i hi)).1
  have hD : isD (goal0 (kby K h) m) r := h6.congr (goalC_0 ok (g := False) ⟨hv, fun i _ => Nat.zero_testBit i⟩ hg0)
  obtain ⟨L, eL, q1, q2, q3, q4, q5, q6⟩ := h7.resolve_left (fun z => hne z.1)
  have ht := (vm_many ok hvm h3.2.2.2.2.1).2 id
  rw [eL] at hD
  refine ⟨qq, dp, tl, hd, f, L, eL, ⟨h3, h4, ht, hvm, ?_, q4, (key _ (hvm _ (by omega))).mp q3, fun i hi z => q5 i hi ((key _ (hvm i (by omega))).mpr z), q2, q6, hsc, ok⟩, h2, hD⟩
  rcases hD with ⟨n, e1, e2, -, e4⟩ | ⟨e1, -⟩
  · rw [z_eq (by omega) e2] at e1
    rw [e1]; exact e4
  · rw [z_m2 (by omega)] at e1; exact e1.elim
