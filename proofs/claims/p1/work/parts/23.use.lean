/-! how the small machine is used: blocks unfolded up to the cuts -/
theorem mm_unfold {R : mmQ} {C : mmCall} (hm : mm_mono C) {bs : List mmB} {pc : Nat} {ls : mmL} {st : List Value} {σ : mmS} (h : mm_w R C bs pc ls st σ) : mm_k (mm_w R C bs) R C bs pc ls st σ :=
  h (fun pc ls st σ => mm_k (mm_w R C bs) R C bs pc ls st σ) fun _ _ _ _ q => mm_k_mono (fun _ _ _ _ z => mm_fold hm z) (fun _ _ z => z) (fun _ _ _ _ z => z) hm q
theorem mm_mask_twice : ∀ (m : List Bool) (ls : mmL), mm_mask m (mm_mask m ls) = mm_mask m ls
  | true :: m, v :: ls => by simp [mm_mask, mm_mask_twice m ls]
  | false :: m, v :: ls => by simp [mm_mask, mm_mask_twice m ls]
  | [], ls => by simp [mm_mask]
  | true :: m, [] => by simp [mm_mask]
  | false :: m, [] => by simp [mm_mask]
def mm_mk (bs : List mmB) (pc : Nat) (ls : mmL) : mmL := match mm_find bs pc with
  | some q => mm_mask q.2.1 ls
  | none => ls
theorem mm_k_mk {K : Nat → mmK} {R : mmQ} {C : mmCall} {bs : List mmB} {pc : Nat} {ls : mmL} {st : List Value} {σ : mmS} (h : mm_k K R C bs pc (mm_mk bs pc ls) st σ) : mm_k K R C bs pc ls st σ := by
  unfold mm_k mm_mk at h
  unfold mm_k
  cases hq : mm_find bs pc with
  | none => rw [hq] at h; exact h
  | some q => rw [hq] at h; dsimp only at h ⊢; rw [mm_mask_twice] at h; exact h
theorem mm_w_mk {R : mmQ} {C : mmCall} (hm : mm_mono C) {bs : List mmB} {pc : Nat} {ls : mmL} {st : List Value} {σ : mmS} (h : mm_w R C bs pc (mm_mk bs pc ls) st σ) : mm_w R C bs pc ls st σ :=
  mm_fold hm (mm_k_mk (mm_unfold hm h))
def mm_u (R : mmQ) (C : mmCall) (bs : List mmB) (cuts : List Nat) : Nat → Nat → mmK
  | 0, pc => fun ls st σ => mm_w R C bs pc (mm_mk bs pc ls) st σ
  | n + 1, pc => match cuts.any (Nat.beq pc) with
    | true => fun ls st σ => mm_w R C bs pc (mm_mk bs pc ls) st σ
    | false => mm_k (mm_u R C bs cuts n) R C bs pc
theorem mm_u_ok {R : mmQ} {C : mmCall} (hm : mm_mono C) {bs : List mmB} {cuts : List Nat} : ∀ (n pc : Nat) (ls : mmL) (st : List Value) (σ : mmS), mm_u R C bs cuts n pc ls st σ → mm_w R C bs pc ls st σ
  | 0, pc, ls, st, σ, h => mm_w_mk hm h
  | n + 1, pc, ls, st, σ, h => by
    cases hc : cuts.any (Nat.beq pc) with
    | true =>
      simp only [mm_u, hc] at h
      exact mm_w_mk hm h
    | false =>
      simp only [mm_u, hc] at h
      exact mm_fold hm (mm_k_mono (fun pc ls st σ z => mm_u_ok hm n pc ls st σ z) (fun _ _ z => z) (fun _ _ _ _ z => z) hm h)
/-- on from a block's head, through all blocks that are no cuts -/
theorem mm_go {R : mmQ} {d : Nat} {bs : List mmB} (cuts : List Nat) (n : Nat) {pc : Nat} {ls : mmL} {st : List Value} {σ : mmS} (h : mm_k (mm_u R (mm_wc d) bs cuts n) R (mm_wc d) bs pc ls st σ) : mm_w R (mm_wc d) bs pc ls st σ :=
  mm_fold (mm_wc_mono d) (mm_k_mono (fun pc ls st σ z => mm_u_ok (mm_wc_mono d) n pc ls st σ z) (fun _ _ z => z) (fun _ _ _ _ z => z) (mm_wc_mono d) h)
theorem mm_call {d c : Nat} {m : mmM} {vs : List Value} {σ : mmS} {Q : mmQ} (hm : mm_P[c]? = some m) (hr : mm_rcv m vs σ = true) (h : mm_w Q (mm_wc d) m.2.2.2.2.2.2.2 0 (mm_loc m.2.2.1 vs) [] σ) : mm_wc (d + 1) c vs σ Q := by
  show (match mm_P[c]? with
    | some m => mm_rcv m vs σ = true ∧ mm_w Q (mm_wc d) m.2.2.2.2.2.2.2 0 (mm_loc m.2.2.1 vs) [] σ
    | none => mm_ext (mm_wc d) c vs σ Q)
  rw [hm]
  exact ⟨hr, h⟩
theorem mm_r0' {rest : List Value} {k : List Value → mmS → Prop} {τ : mmS} (h : k rest τ) : mm_ret 0 rest k none τ := ⟨rfl, h⟩
theorem mm_r1' {rest : List Value} {k : List Value → mmS → Prop} {r : Int32} {τ : mmS} (h : k (.int r :: rest) τ) : mm_ret 1 rest k (some (.int r)) τ := ⟨r, rfl, h⟩
theorem mm_r2' {rest : List Value} {k : List Value → mmS → Prop} {r : Int64} {τ : mmS} (h : k (.long r :: rest) τ) : mm_ret 2 rest k (some (.long r)) τ := ⟨r, rfl, h⟩
theorem mm_r3' {rest : List Value} {k : List Value → mmS → Prop} {r : Nat} {τ : mmS} (h : k (.ref r :: rest) τ) : mm_ret 3 rest k (some (.ref r)) τ := ⟨r, rfl, h⟩
theorem mm_inl {i : Int32} {n : Nat} (h : (decide (0 ≤ i) && decide (i.toNatClampNeg < n)) = true) : vp_in i n := by
  simp only [Bool.and_eq_true, decide_eq_true_eq] at h
  rintro (q | q)
  · exact absurd q (Int32.not_lt.mpr h.1)
  · omega
