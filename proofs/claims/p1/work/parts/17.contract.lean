/-! contracts: a method's, out of what the small machine asks for; a call by its contract -/
def mm_rm (d mc ms : Nat) : Room := { frames := 8 * d, cells := mc, slots := ms, locals := 400 * d }
def mm_pre (D : va_G) (cA : Nat → ClassId) (ad adV : Nat → Nat) (A : Nat → Prop) (L : Nat) (xs : Nat → Int32) (σ : mmS) (U : State) : Prop :=
  va_P D vwCl (mm_W ad cA σ) U.heap ∧ va_K D vwCl (mm_tys cA) U ∧ va_D A (mm_W ad cA σ) ∧ mm_env ad adV A L xs U ∧ mm_cst L xs σ ∧ (∀ q, U.heap.size ≤ q → A q)
def mm_B (D : va_G) (cA : Nat → ClassId) (A : Nat → Prop) (L : Nat) (xs : Nat → Int32) (τ : mmS) (t : State) : Prop :=
  va_P D vwCl (mm_W τ.1.2.2.2.2.2 cA τ) t.heap ∧ va_K D vwCl (mm_tys cA) t ∧ va_D A (mm_W τ.1.2.2.2.2.2 cA τ) ∧ mm_cst L xs τ
def mm_qc (k : Nat) (Q : mmQ) (ad : Nat → Nat) (D : va_G) (cA : Nat → ClassId) (A : Nat → Prop) (L : Nat) (xs : Nat → Int32) : Array Value → State → Outcome → State → Prop := match k with
  | 0 => va_Qv (fun u : mmS => Q none u ∧ mm_ag ad u.1.2.2.2.2.2) (mm_B D cA A L xs) A
  | 1 => va_Qi (fun r (u : mmS) => Q (some (.int r)) u ∧ mm_ag ad u.1.2.2.2.2.2) (mm_B D cA A L xs) A
  | 2 => va_Ql (fun r (u : mmS) => Q (some (.long r)) u ∧ mm_ag ad u.1.2.2.2.2.2) (mm_B D cA A L xs) A
  | _ => va_Qr (fun u : mmS => mm_ag ad u.1.2.2.2.2.2) (fun u a t => (∃ r, a = u.1.2.2.2.2.2 r ∧ Q (some (.ref r)) u) ∧ mm_B D cA A L xs u t) A
/-- the outside stays as it is -/
theorem mm_env_kept {ad adV : Nat → Nat} {A : Nat → Prop} {L : Nat} {xs : Nat → Int32} {u U : State} (h : mm_env ad adV A L xs u) (hW : u.WarmedH U.vm) (hz : u.heap.size ≤ U.heap.size) (hq : ∀ a : Nat, a < u.heap.size → ¬ A a → U.heap[a]? = u.heap[a]?) : mm_env ad adV A L xs U := by
  obtain ⟨⟨h1, h2, h3, h4⟩, ⟨h5, h6, h7⟩, h8, h9, h10, h11⟩ := h
  refine ⟨⟨(h1.kept hq).moved hW.alike, (h2.kept hq).moved hW.alike, (h3.kept hq).moved hW.alike, (h4.kept hq).moved hW.alike⟩, ⟨(h5.kept (hq _ h6 h7)).moved hW.alike, Nat.lt_of_lt_of_le h6 hz, h7⟩, ⟨(h8.1.kept hq).moved hW.alike, (h8.2.1.kept hq).moved hW.alike, (h8.2.2.1.kept hq).moved hW.alike, (h8.2.2.2.1.kept hq).moved hW.alike, (h8.2.2.2.2.1.kept hq).moved hW.alike, h8.2.2.2.2.2.moved hW.alike⟩, fun e he => (h9 e he).warm hW, fun e he => va_Nw.warmF hW (h10 e he), fun e he => va_Nw.warmF hW (h11 e he)⟩
theorem mm_env_same {ad adV : Nat → Nat} {A : Nat → Prop} {L : Nat} {xs : Nat → Int32} {u U : State} (h : mm_env ad adV A L xs u) (hv : U.vm = u.vm) (hh : U.heap = u.heap) : mm_env ad adV A L xs U := by
  have ha : u.vm.Alike U.vm := by rw [hv]; exact Vm.Alike.refl u.vm
  obtain ⟨⟨h1, h2, h3, h4⟩, ⟨h5, h6, h7⟩, h8, h9, h10, h11⟩ := h
  unfold mm_env
  rw [hh]
  exact ⟨⟨h1.moved ha, h2.moved ha, h3.moved ha, h4.moved ha⟩, ⟨h5.moved ha, h6, h7⟩, ⟨h8.1.moved ha, h8.2.1.moved ha, h8.2.2.1.moved ha, h8.2.2.2.1.moved ha, h8.2.2.2.2.1.moved ha, h8.2.2.2.2.2.moved ha⟩, fun e he => (h9 e he).same hv, fun e he => va_Nw.same rfl hv.symm (h10 e he), fun e he => va_Nw.same rfl hv.symm (h11 e he)⟩
theorem mm_pre_blind {D : va_G} {cA : Nat → ClassId} {ad adV : Nat → Nat} {A : Nat → Prop} {L : Nat} {xs : Nat → Int32} {σ : mmS} {av : List Value} : FrameBlind (va_Pc av (mm_pre D cA ad adV A L xs σ)) := by
  rintro a U g mk ⟨h0, h1, h2, h3, h4, h5, h6⟩
  exact ⟨h0, h1, va_K.moved (u := U) (U := U.calling g mk a) (Vm.Alike.refl U.vm) h2, h3, mm_env_same h4 rfl rfl, h5, h6⟩
/-- other addresses, but the same ones for what was there from the start -/
theorem mm_env_ag {ad ad' adV : Nat → Nat} {A : Nat → Prop} {L : Nat} {xs : Nat → Int32} {U : State} (h : mm_env ad adV A L xs U) (ha : mm_ag ad ad') : mm_env ad' adV A L xs U := by
  have e66 := ha 66 (by omega)
  have e67 := ha 67 (by omega)
  have e68 := ha 68 (by omega)
  have es : (fun i => ad' (98 + i)) = fun i => ad (98 + i) := funext fun i => ha _ (by omega)
  obtain ⟨h1, h5, h8, h9, h10⟩ := h
  unfold mm_env
  rw [e66, e67, e68, es]
  refine ⟨h1, h5, h8, fun e he => ?_, h10⟩
  have hS : ∀ e ∈ mm_pS, 98 ≤ e.2.2.1 := by decide +kernel
  rw [ha _ (Or.inr (hS e he))]
  exact h9 e he
theorem mm_ag.refl {a : Nat → Nat} : mm_ag a a := fun _ _ => rfl
theorem mm_ag.trans {a b c : Nat → Nat} (h1 : mm_ag a b) (h2 : mm_ag b c) : mm_ag a c := fun r hr => (h2 r hr).trans (h1 r hr)
section MMA
variable {p : Program} {l : Launch} {e : Env} {R : Room} {s : State} {m : MethodId} {args : Array Value} {below : List Frame} {meth : Method} {c : Code} {H : Heap} {locs : List Loc} {cells slots x y : Nat} {D : va_G} {cA : Nat → ClassId} {ad adV : Nat → Nat} {A : Nat → Prop} {L : Nat} {xs : Nat → Int32} {Q : State → Prop} {pc : Nat} {lsA : Array Slot} {st0 restA : List Value} {a : Array Value}
/-- does an answer fit its kind -/
def mm_fit (k : Nat) (v : Option Value) : Prop := match k, v with
  | 0, none => True
  | 1, some (.int _) => True
  | 2, some (.long _) => True
  | 3, some (.ref _) => True
  | _, _ => False
theorem mm_after {k : Nat} (hk : k < 4) {Qm : mmQ} (hK : va_K D vwCl (mm_tys cA) s) (hr : va_Run p l e R s m args below meth c H locs cells slots x y (F0 m pc lsA st0) restA (mm_qc k Qm ad D cA A L xs a) A) (hS : va_S A s.heap H locs)
    (kk : ∀ (v : Option Value) (τ : mmS), Qm v τ → mm_ag ad τ.1.2.2.2.2.2 → mm_fit k v → ∀ (H1 : Heap) (locs1 : List Loc), va_P D vwCl (mm_W τ.1.2.2.2.2.2 cA τ) H1 → va_D A (mm_W τ.1.2.2.2.2.2 cA τ) → va_S A s.heap H1 locs1 → mm_cst L xs τ →
      W p l e R s m args below meth c H1 locs1 (cells + x) (slots + y) Q (F0 m (pc + 3) lsA (v.toList.map (mm_tr τ.1.2.2.2.2.2) ++ restA))) : W p l e R s m args below meth c H locs cells slots Q (F0 m pc lsA st0) := by
  match k, hk with
  | 0, _ =>
    refine va_callv (a := a) hr hS (fun q _ h => h) (fun q h => h) fun u t H1 locs1 ht hvm hw hB hz hkp hS1 => ?_
    obtain ⟨b1, b2, b3, b4⟩ := hB
    rw [ht] at b1
    exact kk none u hw.1 hw.2 trivial H1 locs1 b1 b3 hS1 b4
  | 1, _ =>
    refine va_calli (a := a) hr hS (fun q _ h => h) (fun q h => h) fun r u t H1 locs1 ht hvm hw hB hz hkp hS1 => ?_
    obtain ⟨b1, b2, b3, b4⟩ := hB
    rw [ht] at b1
    exact kk (some (.int r)) u hw.1 hw.2 trivial H1 locs1 b1 b3 hS1 b4
  | 2, _ =>
    refine va_calll (a := a) hr hS (fun q _ h => h) (fun q h => h) fun r u t H1 locs1 ht hvm hw hB hz hkp hS1 => ?_
    obtain ⟨b1, b2, b3, b4⟩ := hB
    rw [ht] at b1
    exact kk (some (.long r)) u hw.1 hw.2 trivial H1 locs1 b1 b3 hS1 b4
  | 3, _ =>
    refine va_callr (a := a) hr hS (fun q _ h => h) (fun q h => h) fun u ra t H1 locs1 ht hvm hw hB hz hkp hS1 => ?_
    obtain ⟨⟨r, hra, hq⟩, b1, b2, b3, b4⟩ := hB
    rw [ht] at b1
    rw [hra]
    exact kk (some (.ref r)) u hq hw trivial H1 locs1 b1 b3 hS1 b4
end MMA
