/-! the model's row: its public call -/
def ra_row (to : Bool) (K : Nat → Nat) (P : zP) (x v : Int32) (t : Nat) : Prop :=
  (to = true ∧ ∃ i L w, x = nI i ∧ i < L ∧ L < 2 ^ 31 ∧ isD (goal0 (kall K) P.1) (nI L) ∧ rowP K L P.1 w ∧ v = nI (w i) ∧ t = 0) ∨
  (v = -1 ∧ t = 6 ∧ to = true ∧ nI 0 ≤ x ∧ isD (goal0 (kall K) P.1) (-2)) ∨
  (v = -1 ∧ t = 1 ∧ (to = false ∨ ¬ nI 0 ≤ x ∨ ∃ L, L < 2 ^ 31 ∧ isD (goal0 (kall K) P.1) (nI L) ∧ nI 0 ≤ x ∧ ¬ x < nI L))
section RY
variable {d n1 n2 : Nat} {fl : Nat → Bool} {p q : Bool} {ad : Nat → Nat} {J : mmJ} {Q : mmQ} {T : zT} {to : Bool} {K : Nat → Nat} {P : zP} {tr : Nat} {f : zF} {I : mmI}
abbrev roS : List (Nat × List Nat) := [(46, [27, 32, 33, 34, 35]), (57, []), (58, []), (59, []), (60, [])]
theorem MI_ro {I' : mmI} (h : MI T to K P tr f I) (hf : fr roS I I') : MI T to K P tr f I' :=
  h.tr hf (by rintro k (rfl | rfl | rfl | rfl | rfl | rfl | rfl | rfl) <;> rfl) rfl rfl rfl (by rw [hf 46 11 rfl]; exact h.2.2.2.2.2.1) h.1.2.2.2.2.2.2.1 id
/-- allow all, allThere, search: all that is then known -/
theorem sNr (h : MI T to K P tr f I) (ht : to = true) {k : Int32 → mmI → mmJ → Prop} (hk : ∀ I2 I' r R cnt al ee, fr ssS I I' → agR R K → mC I' R (fanM R 11) (nearM R 11) (2 ^ R 3 - 1 ||| 1024) cnt al → alw (fanM R 11) (aP R (-1) (-1) (-1) (-1)) ee (nB R) cnt al → mSE I2 I' R (fanM R 11) (nearM R 11) (2 ^ R 3 - 1 ||| 1024) cnt al P.1 r → k r I' J) :
    mm_wc (d + 5) 234 [.ref 46, .int (-1), .int (-1), .int (-1), .int (-1), .int (nI 0)] ((fl, 0, 0, p, q, ad), I, J) (fun v τ => ∃ I2 J2, v = none ∧ τ = ((fl, 0, 0, p, q, ad), I2, J2) ∧ mm_wc (d + 5) 240 [.ref 46] ((fl, 0, 0, p, q, ad), I2, J2) (fun v τ => ∃ r3 I3 J3, v = some (.int r3) ∧ τ = ((fl, 0, 0, p, q, ad), I3, J3) ∧ k r3 I3 J3)) := by
  obtain ⟨ok, R, ag, mb⟩ := h.cake ht
  have e3 := ag 3 (by decide) (by decide) (by decide)
  have hB := agR_nB ag
  have hBl := nB_le ok
  refine ct_234 (e := false) (F := fanM R 11) mb.1 mb.2.1 (fun b _ => Nat.lt_trans (bset_lt _ _) (by decide)) (fun I1 cnt al f1 g1 g2 g3 => ⟨_, _, rfl, rfl, ?_⟩)
  have mb1 : mB I1 R := mb.of (fun k _ => f1 49 k rfl) (fun k => f1 53 k rfl) (fun k => f1 54 k rfl)
  refine fx_240 (ct_224 mb1.1 ⟨_, _, rfl, rfl, ?_⟩)
  have f2 : fr ssS I (mm_up I1 46 27 (nI (2 ^ R 3 - 1 ||| 1024))) := (f1.sub rfl).up rfl
  have h2 := h.ss f2
  obtain ⟨m1, m2, -, -⟩ := h2.mem ht
  rw [m1, m2]
  have hv := (h.vms ht).1
  have mb2 : mB (mm_up I1 46 27 (nI (2 ^ R 3 - 1 ||| 1024))) R := mb1.of (fun k _ => up_c (by decide)) (fun k => up_c (by decide)) (fun k => up_c (by decide))
  have hC : mC (mm_up I1 46 27 (nI (2 ^ R 3 - 1 ||| 1024))) R (fanM R 11) (nearM R 11) (2 ^ R 3 - 1 ||| 1024) cnt al := ⟨⟨mb2.1, mb2.2.2, fun c _ => bset_lt _ _, up_s _ _ _ _, mb2.2.1, fun b _ => bset_lt _ _⟩, by rw [up_k (by decide)]; exact g1, by have := g3.1; omega, fun k hk => by rw [up_c (by decide)]; exact g2 k hk, fun k hk => (g3.2.1 k hk).1⟩
  refine ct_239 hC (z := dzK K P.1) (Nat.lt_trans (lt_p11 ok (dzK_lt K P.1)) (by decide)) (hv.lt ok) ?_ (fun I3 r hr => ⟨_, _, _, rfl, rfl, ⟨_, _, _, rfl, rfl, ?_⟩⟩)
  · rw [ofK_ag ag ok, e3]; exact hv.2.1.symm
  · obtain ⟨-, -, -, -, f3, -⟩ := id hr
    have f4 : fr ssS I I3 := f2.tr (f3.sub rfl)
    exact hk _ I3 r R cnt al _ f4 ag (hC.fr f3) g3 hr
theorem md_242 {x : Int32} (h : MI T to K P tr f I) (k : ∀ I' v t, frM I I' → MI T to K P t f I' → ra_row to K P x v t → Q (some (.int v)) ((fl, n1, n2, p, q, ad), I', J)) : mm_wc (d + 6) 242 [.ref 46, .int x] ((fl, n1, n2, p, q, ad), I, J) Q := by
  refine fx_242k (ct_166 h (fun I1 f1 h1 => ⟨_, _, rfl, rfl, ?_⟩))
  rw [h1.told, bI_0]
  refine ⟨fun e => fx_242k_15 (ct_167 h1 (by decide) (by decide) (fun I' f' h' => ⟨_, _, _, rfl, rfl, k I' _ _ (f1.tr f') h' (.inr (.inr ⟨rfl, rfl, .inl e⟩))⟩)), fun e => ?_⟩
  have ht : to = true := by simpa using e
  refine ⟨fun hx => ?_, fun hx => fx_242k_15 (ct_167 h1 (by decide) (by decide) (fun I' f' h' => ⟨_, _, _, rfl, rfl, k I' _ _ (f1.tr f') h' (.inr (.inr ⟨rfl, rfl, .inr (.inl hx)⟩))⟩))⟩
  have ok := (h1.cake ht).1
  have hv := (h1.vms ht).1
  refine sNr h1 ht (fun I2 I3 r R cnt al ee f3 ag hC hal hr => ?_)
  have e3 := ag 3 (by decide) (by decide) (by decide)
  have hB := agR_nB ag
  have hP : ∀ b, b < nB K → (aP R (-1) (-1) (-1) (-1) b ↔ True) := fun b hb => aP_allK ok ag hb
  have hg0 : ∀ i, Nat.testBit 0 i = true → i < K 3 := fun i hi => by rw [Nat.zero_testBit] at hi; cases hi
  have hz : ∀ b, b < nB K → ∀ m, vm K False m → zstp R (2 ^ R 3 - 1 ||| 1024) (nearM R 11) (fanM R 11 b) m = cstp K 0 0 (fanK K b) m := fun b hb m hm => zcK ag ok hb hm (fun i _ => Nat.zero_testBit i) (fun i hi => by rw [e3, th_tb hi]; simp)
  have rc : ∀ v, vm K False v → ∀ n m, rch (kall K) v n m ↔ rch (msc R (fanM R 11) (nearM R 11) (2 ^ R 3 - 1 ||| 1024) cnt al) v n m := fun v hv => rch_congr (V := vmm K False 0) ⟨hv, fun i _ => Nat.zero_testBit i⟩ (ksc_V ok hg0) (fun m m' hV => msc_ksc hB hal hP (fun b hb m hm => hz b hb m hm.1) m m' hV)
  have hgc : ∀ v, vm K False v → ∀ n, goal0 (msc R (fanM R 11) (nearM R 11) (2 ^ R 3 - 1 ||| 1024) cnt al) v n ↔ goal0 (kall K) v n := fun v hv n => (goal0_congr (rc v hv) n).symm
  have h3 := h1.ss f3
  obtain ⟨qq, dp, tl, hd, g1, g2, g3, g4, g5, g6, g7, g8, g9⟩ := id hr
  have hD : isD (goal0 (kall K) P.1) r := g8.congr (hgc P.1 hv)
  have hvm : ∀ i, i < tl → vm K False (qq i) := fun i hi => (rch_V (V := vmm K False 0) ⟨hv, fun i _ => Nat.zero_testBit i⟩ (ksc_V ok hg0) _ _ ((rc P.1 hv _ _).mpr (g3.2.2.2.2.2.1 i hi))).1
  refine ⟨fun hr2 => ?_, fun hr2 => ct_167 h3 (by decide) (by decide) (fun I' f' h' => ⟨_, _, _, rfl, rfl, k I' _ _ ((f1.tr (fr.ssM f3)).tr f') h' (.inr (.inl ⟨rfl, rfl, ht, hx, by rw [← hr2]; exact hD⟩))⟩)⟩
  obtain ⟨L, eL, hL31, gL, gm⟩ := g8.resolve_right (fun z => hr2 z.1)
  rw [eL] at hD
  rw [g7, eL]
  refine ⟨fun hxl => ?_, fun hxl => ct_167 h3 (by decide) (by decide) (fun I' f' h' => ⟨_, _, _, rfl, rfl, k I' _ _ ((f1.tr (fr.ssM f3)).tr f') h' (.inr (.inr ⟨rfl, rfl, .inr (.inr ⟨L, hL31, hD, hx, hxl⟩)⟩))⟩)⟩
  obtain ⟨w, hw⟩ := rowP_ex ((hgc P.1 hv L).mp gL)
  rcases z_ca x with z | ⟨i, hi, rfl⟩
  · exact absurd z (by rw [Int32.not_lt]; exact hx)
  rw [z_lt (by omega) hL31] at hxl
  have hhd : hd < tl → L ≤ dp hd := fun z => by
    obtain ⟨L', e1, e2, e3⟩ := g9 z
    rw [eL, z_eq hL31 e2] at e1
    omega
  rw [g2.1]
  refine mr_out hC (hv.lt ok) g2 g3 g4 g5 (g7.trans eL) hL31 gm hhd (fun I' f' d' => ?_) tl (Nat.le_refl _) I3 fr.rf (fun i h1 h2 => absurd h1 (by omega))
  rw [f' 46 34 rfl, g6, ← g3.1]
  have fA : fr roS I1 I' := (f3.sub rfl).tr (f'.sub rfl)
  refine mr_go (K := K) (w := w) hC g2 g3 g4 g5 gm hhd ok hB hal (fun b hb => (hP b hb).mpr trivial) hz hgc hvm hxl hL31 hw f' d' ?_ i 0 (by omega) 0 (by have := g3.2.2.1; omega) g3.1 g3.2.1 ⟨by rw [g3.2.1]; omega, by rw [g3.2.1, g3.1]; exact gL⟩
  exact k I' _ _ (f1.tr (fA.M rfl)) (MI_ro h1 fA) (.inl ⟨ht, i, L, w, rfl, hxl, hL31, hD, hw, rfl, rfl⟩)
end RY
