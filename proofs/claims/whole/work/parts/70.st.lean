/-! the state that both hold: the tape, told, the cake, the past (now, acts, images), trouble, fault and its place -/
abbrev zT : Type := Nat × (Nat → Nat)
abbrev zP : Type := Nat × Nat × (Nat → Nat) × Nat × (Nat → Nat)
abbrev zF : Type := Nat × Nat
def dzK (K : Nat → Nat) (m : Nat) : Nat := dzs (ofK K 3) (K 3) (m % 8)
def zOk (T : zT) (to : Bool) (K : Nat → Nat) (P : zP) (tr : Nat) (f : zF) : Prop :=
  T.1 ≤ 900 ∧ (∀ k, k < T.1 → T.2 k < 256) ∧ P.2.1 ≤ 20 ∧ P.2.2.2.1 ≤ 3 ∧ (to = false → P.2.1 = 0 ∧ P.2.2.2.1 = 0) ∧
  (to = true → okR K ∧ vm K False P.1 ∧ (∀ k, k < P.2.1 → vm K False (P.2.2.1 k)) ∧ (∀ k, k < P.2.2.2.1 → vm K False (P.2.2.2.2 k)) ∧ K 45 = 0) ∧ tr ≤ 6 ∧ f.1 ≤ 6 ∧ f.2 ≤ 900
/-- the model's row against the cake: but for the guest's place -/
def agR (R K : Nat → Nat) : Prop := ∀ k, k < 72 → k ≠ 23 → k ≠ 34 → R k = K k
/-- the model's cake and fans -/
def mB (I : mmI) (R : Nat → Nat) : Prop := mR I R ∧ (∀ b, b < nB R → I 53 b = nI (fanM R 11 b)) ∧ (∀ c, c < 11 → I 54 c = nI (nearM R 11 c))
def MI (T : zT) (to : Bool) (K : Nat → Nat) (P : zP) (tr : Nat) (f : zF) (I : mmI) : Prop :=
  zOk T to K P tr f ∧ I 46 2 = nI T.1 ∧ (∀ k, k < T.1 → I 47 k = nI (T.2 k)) ∧ I 46 9 = nI f.1 ∧ (tr = 4 → I 46 10 = nI f.2) ∧ I 46 11 = nI tr ∧ I 46 14 = bI to ∧ I 46 19 = nI P.2.1 ∧ I 46 20 = nI P.2.2.2.1 ∧ (∀ j, j < 16 → I 55 j = wX j) ∧ (∀ j, j < 16 → I 56 j = wY j) ∧
  (to = true → (∃ R, agR R K ∧ mB I R) ∧ I 46 17 = nI (P.1 / 8) ∧ I 46 18 = nI (dzK K P.1) ∧ (∀ k, k < P.2.1 → I 51 (2 * k) = nI (P.2.2.1 k / 8) ∧ I 51 (2 * k + 1) = nI (dzK K (P.2.2.1 k))) ∧ (∀ k, k < P.2.2.2.1 → I 52 (2 * k) = nI (P.2.2.2.2 k / 8) ∧ I 52 (2 * k + 1) = nI (dzK K (P.2.2.2.2 k))))
/-- memory the same outside the model -/
def frM (I I' : mmI) : Prop := ∀ r k, (r < 46 ∨ 65 ≤ r) → I' r k = I r k
/-- memory the same in the model and in what is fixed -/
def frC (I I' : mmI) : Prop := ∀ r k, 46 ≤ r → r < 70 → I' r k = I r k
theorem frM.rf {I : mmI} : frM I I := fun _ _ _ => rfl
theorem frM.tr {I I' I'' : mmI} (h : frM I I') (h2 : frM I' I'') : frM I I'' := fun r k hr => (h2 r k hr).trans (h r k hr)
theorem frM.up {I I' : mmI} (h : frM I I') {r k : Nat} {x : Int32} (h1 : 46 ≤ r) (h2 : r < 65) : frM I (mm_up I' r k x) := fun q j hq => by rw [up_c (by omega)]; exact h q j hq
def inMod (L : List (Nat × List Nat)) : Bool := L.all fun e => decide (46 ≤ e.1) && decide (e.1 < 65)
theorem fr.M {L : List (Nat × List Nat)} {I I' : mmI} (h : fr L I I') (h1 : inMod L = true) : frM I I' := by
  intro r k hr
  refine h r k ?_
  cases hb : inS L r k
  · rfl
  · obtain ⟨e, he, h3⟩ := List.any_eq_true.mp hb
    have h4 := List.all_eq_true.mp h1 e he
    simp only [Bool.and_eq_true, beq_iff_eq, decide_eq_true_eq] at h3 h4
    omega
theorem fr.C {L : List (Nat × List Nat)} {I I' : mmI} (h : fr L I I') (h1 : noR 46 70 L = true) : frC I I' := fun r k h2 h3 => h r k (inS_no h1 h2 h3)
theorem frC.rf {I : mmI} : frC I I := fun _ _ _ _ => rfl
theorem frC.tr {I I' I'' : mmI} (h : frC I I') (h2 : frC I' I'') : frC I I'' := fun r k g1 g2 => (h2 r k g1 g2).trans (h r k g1 g2)
theorem frC.up {I I' : mmI} (h : frC I I') {r k : Nat} {x : Int32} (h1 : r < 46 ∨ 70 ≤ r) : frC I (mm_up I' r k x) := fun q j g1 g2 => by rw [up_c (by omega)]; exact h q j g1 g2
theorem mB.of {I I' : mmI} {R : Nat → Nat} (h : mB I R) (h1 : ∀ k, k < 72 → I' 49 k = I 49 k) (h2 : ∀ k, I' 53 k = I 53 k) (h3 : ∀ k, I' 54 k = I 54 k) : mB I' R := ⟨h.1.of h1, fun b hb => by rw [h2]; exact h.2.1 b hb, fun c hc => by rw [h3]; exact h.2.2 c hc⟩
/-- MI where only cells that it doesn't speak of, and the trouble, are new -/
theorem MI.tr {T : zT} {to : Bool} {K : Nat → Nat} {P : zP} {tr tr' : Nat} {f : zF} {I I' : mmI} (h : MI T to K P tr f I) {L : List (Nat × List Nat)} (hf : fr L I I') (h1 : ∀ k, (k = 2 ∨ k = 9 ∨ k = 10 ∨ k = 14 ∨ k = 17 ∨ k = 18 ∨ k = 19 ∨ k = 20) → inS L 46 k = false) (h2 : noR 47 48 L = true) (h3 : noR 49 50 L = true) (h4 : noR 51 57 L = true) (h5 : I' 46 11 = nI tr') (h6 : tr' ≤ 6) (h7 : tr' = 4 → tr = 4) : MI T to K P tr' f I' := by
  obtain ⟨⟨z1, z2, z3, z4, z5, z6, z7, z8, z9⟩, a2, a3, a4, a5, a6, a7, a8, a9, a10, a11, a12⟩ := h
  have o : ∀ r k, 51 ≤ r → r < 57 → I' r k = I r k := fun r k g1 g2 => hf r k (inS_no h4 g1 g2)
  refine ⟨⟨z1, z2, z3, z4, z5, z6, h6, z8, z9⟩, by rw [hf 46 2 (h1 2 (by omega))]; exact a2, fun k hk => by rw [hf 47 k (inS_no h2 (by decide) (by decide))]; exact a3 k hk, by rw [hf 46 9 (h1 9 (by omega))]; exact a4, fun z => by rw [hf 46 10 (h1 10 (by omega))]; exact a5 (h7 z), h5, by rw [hf 46 14 (h1 14 (by omega))]; exact a7, by rw [hf 46 19 (h1 19 (by omega))]; exact a8, by rw [hf 46 20 (h1 20 (by omega))]; exact a9, fun j hj => by rw [o 55 j (by decide) (by decide)]; exact a10 j hj, fun j hj => by rw [o 56 j (by decide) (by decide)]; exact a11 j hj, fun z => ?_⟩
  obtain ⟨⟨R, r1, r2⟩, b2, b3, b4, b5⟩ := a12 z
  exact ⟨⟨R, r1, r2.of (fun k _ => hf 49 k (inS_no h3 (by decide) (by decide))) (fun k => o 53 k (by decide) (by decide)) (fun k => o 54 k (by decide) (by decide))⟩, by rw [hf 46 17 (h1 17 (by omega))]; exact b2, by rw [hf 46 18 (h1 18 (by omega))]; exact b3, fun k hk => by rw [o 51 _ (by decide) (by decide), o 51 _ (by decide) (by decide)]; exact b4 k hk, fun k hk => by rw [o 52 _ (by decide) (by decide), o 52 _ (by decide) (by decide)]; exact b5 k hk⟩
theorem MI.keep {T : zT} {to : Bool} {K : Nat → Nat} {P : zP} {tr : Nat} {f : zF} {I I' : mmI} (h : MI T to K P tr f I) (hf : ∀ r k, 46 ≤ r → r < 65 → I' r k = I r k) : MI T to K P tr f I' := by
  obtain ⟨a1, a2, a3, a4, a5, a6, a7, a8, a9, a10, a11, a12⟩ := h
  have o : ∀ r k, 46 ≤ r → r < 65 → I' r k = I r k := hf
  refine ⟨a1, by rw [o 46 _ (by decide) (by decide)]; exact a2, fun k hk => by rw [o 47 _ (by decide) (by decide)]; exact a3 k hk, by rw [o 46 _ (by decide) (by decide)]; exact a4, fun z => by rw [o 46 _ (by decide) (by decide)]; exact a5 z, by rw [o 46 _ (by decide) (by decide)]; exact a6, by rw [o 46 _ (by decide) (by decide)]; exact a7, by rw [o 46 _ (by decide) (by decide)]; exact a8, by rw [o 46 _ (by decide) (by decide)]; exact a9, fun j hj => by rw [o 55 j (by decide) (by decide)]; exact a10 j hj, fun j hj => by rw [o 56 j (by decide) (by decide)]; exact a11 j hj, fun z => ?_⟩
  obtain ⟨⟨R, r1, r2⟩, b2, b3, b4, b5⟩ := a12 z
  exact ⟨⟨R, r1, r2.of (fun k _ => o 49 k (by decide) (by decide)) (fun k => o 53 k (by decide) (by decide)) (fun k => o 54 k (by decide) (by decide))⟩, by rw [o 46 _ (by decide) (by decide)]; exact b2, by rw [o 46 _ (by decide) (by decide)]; exact b3, fun k hk => by rw [o 51 _ (by decide) (by decide), o 51 _ (by decide) (by decide)]; exact b4 k hk, fun k hk => by rw [o 52 _ (by decide) (by decide), o 52 _ (by decide) (by decide)]; exact b5 k hk⟩
/-- good: no trouble; no: trouble -/
theorem MI.good {T : zT} {to : Bool} {K : Nat → Nat} {P : zP} {tr : Nat} {f : zF} {I : mmI} (h : MI T to K P tr f I) : MI T to K P 0 f (mm_up (mm_up I 46 0 (nI 0)) 46 11 (nI 0)) :=
  h.tr (L := [(46, [0, 11])]) ((fr.rf.up rfl).up rfl) (by rintro k (rfl | rfl | rfl | rfl | rfl | rfl | rfl | rfl) <;> rfl) rfl rfl rfl (up_s _ _ _ _) (by decide) (fun z => absurd z (by decide))
theorem MI.no {T : zT} {to : Bool} {K : Nat → Nat} {P : zP} {tr : Nat} {f : zF} {I : mmI} (h : MI T to K P tr f I) {w : Nat} (hw : w ≤ 6) (h4 : w ≠ 4) : MI T to K P w f (mm_up I 46 11 (nI w)) :=
  h.tr (L := [(46, [11])]) (fr.rf.up rfl) (by rintro k (rfl | rfl | rfl | rfl | rfl | rfl | rfl | rfl) <;> rfl) rfl rfl rfl (up_s _ _ _ _) hw (fun z => absurd z h4)
theorem MI.th {T : zT} {to : Bool} {K : Nat → Nat} {P : zP} {tr : Nat} {f : zF} {I : mmI} (h : MI T to K P tr f I) (x : Int32) : MI T to K P tr f (mm_up I 46 0 x) :=
  h.tr (L := [(46, [0])]) (fr.rf.up rfl) (by rintro k (rfl | rfl | rfl | rfl | rfl | rfl | rfl | rfl) <;> rfl) rfl rfl rfl (by rw [up_k (by decide)]; exact h.2.2.2.2.2.1) h.1.2.2.2.2.2.2.1 id
