/-! the model's fewest, from, by, inTime -/
/-- behind a breath that Pb allows -/
def ksc (K : Nat → Nat) (ms gl : Nat) (fan : Nat → Nat) (Pb : Nat → Prop) (m m' : Nat) : Prop := ∃ b, b < nB K ∧ Pb b ∧ m' = cstp K ms gl (fan b) m
def vmm (K : Nat → Nat) (g : Prop) (ms m : Nat) : Prop := vm K g m ∧ ∀ i, (m / 8).testBit i = true → ms.testBit i = false
theorem cstp_vmm {K : Nat → Nat} (ok : okR K) {g : Prop} {ms gl f m : Nat} (h : vmm K g ms m) (hgl : ∀ i, gl.testBit i = true → i < K 3) : vmm K g ms (cstp K ms gl f m) := by
  refine ⟨cstp_vm ok h.1 hgl, fun i hi => ?_⟩
  rw [(cstp_d ok).1, Nat.testBit_or, sd_tb, Bool.or_eq_true, Bool.and_eq_true] at hi
  rcases hi with z | ⟨-, z⟩
  · exact h.2 i (bL_sub (fun j hj => (bH_sub _ _ _ _ _ hj).1) i z)
  · simpa using z
theorem ksc_V {K : Nat → Nat} (ok : okR K) {g : Prop} {ms gl : Nat} {fan : Nat → Nat} {Pb : Nat → Prop} (hgl : ∀ i, gl.testBit i = true → i < K 3) : ∀ m m', vmm K g ms m → ksc K ms gl fan Pb m m' → vmm K g ms m' := by
  rintro m m' h ⟨b, -, -, rfl⟩
  exact cstp_vmm ok h hgl
theorem goal0_congr {sc sc' : Nat → Nat → Prop} {s : Nat} (h : ∀ n m, rch sc s n m ↔ rch sc' s n m) (n : Nat) : goal0 sc s n ↔ goal0 sc' s n := ⟨fun ⟨m, a, b⟩ => ⟨m, (h n m).mp a, b⟩, fun ⟨m, a, b⟩ => ⟨m, (h n m).mpr a, b⟩⟩
theorem msc_ksc {K R F N : Nat → Nat} {th cnt ms gl : Nat} {al fan : Nat → Nat} {Pm Pb : Nat → Prop} {e : Prop} (hB : nB R = nB K) (hal : alw F Pm e (nB R) cnt al) (hP : ∀ b, b < nB K → (Pm b ↔ Pb b)) {V : Nat → Prop} (hz : ∀ b, b < nB K → ∀ m, V m → zstp R th N (F b) m = cstp K ms gl (fan b) m) (m m' : Nat) (hV : V m) : ksc K ms gl fan Pb m m' ↔ msc R F N th cnt al m m' := by
  obtain ⟨a0, a1, a2, a3⟩ := hal
  rw [hB] at a1 a3
  constructor
  · rintro ⟨b, hb, hPb, rfl⟩
    obtain ⟨k, hk, -, hF, -⟩ := a3 b hb ((hP b hb).mpr hPb)
    refine ⟨k, hk, ?_⟩
    unfold mst
    rw [hF, hz b hb m hV]
  · rintro ⟨k, hk, rfl⟩
    obtain ⟨h1, h2⟩ := a1 k hk
    exact ⟨al k, h1, (hP _ h1).mp h2, hz _ h1 m hV⟩
theorem mSE_isD {I0 I : mmI} {K R F N : Nat → Nat} {th cnt ms gl s : Nat} {al fan : Nat → Nat} {Pm Pb : Nat → Prop} {e g : Prop} {r : Int32} (h : mSE I0 I R F N th cnt al s r) (ok : okR K) (hB : nB R = nB K) (hal : alw F Pm e (nB R) cnt al) (hP : ∀ b, b < nB K → (Pm b ↔ Pb b)) (hgl : ∀ i, gl.testBit i = true → i < K 3) (hz : ∀ b, b < nB K → ∀ m, vmm K g ms m → zstp R th N (F b) m = cstp K ms gl (fan b) m) (hs : vmm K g ms s) : isD (goal0 (ksc K ms gl fan Pb) s) r := by
  obtain ⟨qq, dp, tl, hd, -, -, -, -, -, -, -, hD, -⟩ := h
  exact hD.congr (fun n => (goal0_congr (rch_congr hs (ksc_V ok hgl) (fun m m' hV => msc_ksc hB hal hP hz m m' hV)) n).symm)
theorem aP_allK {R K : Nat → Nat} (ok : okR K) (ag : agR R K) {b : Nat} (hb : b < nB K) : aP R (-1) (-1) (-1) (-1) b ↔ True := by
  obtain ⟨b1, b2⟩ := bd_ix ok hb
  have h4 := ok.p
  have h6 := ok.h
  have e4 := ag 4 (by decide) (by decide) (by decide)
  have hm : (-1 : Int32) < nI 0 := nm1_lt
  refine ⟨fun _ => trivial, fun _ => ⟨.inl hm, .inl hm, ?_, ?_⟩⟩
  · rw [e4, z_m1 (by omega)]; exact id
  · rw [e4, z_m1 (by omega)]; exact id
section MS2
variable {d n1 n2 : Nat} {fl : Nat → Bool} {p q : Bool} {ad : Nat → Nat} {J : mmJ} {Q : mmQ} {T : zT} {to : Bool} {K : Nat → Nat} {P : zP} {tr : Nat} {f : zF} {I : mmI}
theorem wiz {x : Int32} {n : Nat} (hb : n < 2 ^ 31) (k1 : ∀ c, c < n → x = nI c → Q (some (.int (nI 1))) ((fl, n1, n2, p, q, ad), I, J)) (k0 : ¬ ix n x → Q (some (.int (nI 0))) ((fl, n1, n2, p, q, ad), I, J)) : mm_wc (d + 1) 169 [.int x, .int (nI 0), .int (nI n - nI 1)] ((fl, n1, n2, p, q, ad), I, J) Q := by
  by_cases e0 : n = 0
  · subst e0
    refine ct_169 ?_
    have : decide (¬ x < nI 0 ∧ ¬ nI 0 - nI 1 < x) = false := by
      apply decide_eq_false
      rintro ⟨z1, z2⟩
      rcases z_ca x with z | ⟨a, ha, rfl⟩
      · exact z1 z
      · apply z2
        rw [Int32.lt_iff_toInt_lt, nI_toInt ha, show (nI 0 - nI 1).toInt = -1 from by decide]
        omega
    rw [this]
    exact k0 (by rintro ⟨c, hc, -⟩; omega)
  · exact wi (by omega) hb k1 k0
abbrev ssS : List (Nat × List Nat) := [(46, [27, 32, 33, 34, 35]), (57, []), (58, []), (59, [])]
theorem MI.ss {I' : mmI} (h : MI T to K P tr f I) (hf : fr ssS I I') : MI T to K P tr f I' :=
  h.tr hf (by rintro k (rfl | rfl | rfl | rfl | rfl | rfl | rfl | rfl) <;> rfl) rfl rfl rfl (by rw [hf 46 11 rfl]; exact h.2.2.2.2.2.1) h.1.2.2.2.2.2.2.1 id
/-- allow, allThere, search: the fewest of those that Pb allows, from now on -/
theorem sN {x0 x1 x2 x3 : Int32} {Pb : Nat → Prop} (h : MI T to K P tr f I) (ht : to = true) (hP : ∀ R, agR R K → ∀ b, b < nB K → (aP R x0 x1 x2 x3 b ↔ Pb b)) {k : Int32 → mmI → mmJ → Prop} (hk : ∀ I' r, fr ssS I I' → MI T to K P tr f I' → isD (goal0 (ksc K 0 0 (fanK K) Pb) P.1) r → k r I' J) :
    mm_wc (d + 5) 234 [.ref 46, .int x0, .int x1, .int x2, .int x3, .int (nI 0)] ((fl, 0, 0, p, q, ad), I, J) (fun v τ => ∃ I2 J2, v = none ∧ τ = ((fl, 0, 0, p, q, ad), I2, J2) ∧ mm_wc (d + 5) 240 [.ref 46] ((fl, 0, 0, p, q, ad), I2, J2) (fun v τ => ∃ r3 I3 J3, v = some (.int r3) ∧ τ = ((fl, 0, 0, p, q, ad), I3, J3) ∧ k r3 I3 J3)) := by
  obtain ⟨ok, R, ag, mb⟩ := h.cake ht
  have e3 := ag 3 (by decide) (by decide) (by decide)
  have hB := agR_nB ag
  have hBl := nB_le ok
  refine ct_234 (e := false) (F := fanM R 11) mb.1 mb.2.1 (fun b _ => Nat.lt_trans (bset_lt _ _) (by decide)) (fun I1 cnt al f1 g1 g2 g3 => ⟨_, _, rfl, rfl, ?_⟩)
  have mb1 : mB I1 R := mb.of (fun k _ => f1 49 k rfl) (fun k => f1 53 k rfl) (fun k => f1 54 k rfl)
  refine fx_240 (ct_224 mb1.1 ⟨_, _, rfl, rfl, ?_⟩)
  have f2 : fr ssS I (mm_up I1 46 27 (nI (2 ^ R 3 - 1 ||| 1024))) := (f1.sub rfl).up rfl
  have h2 := h.ss f2
  obtain ⟨m1, m2, -, -⟩ := h2.mem ht
  rw [m1, m2]
  have hv := (h.vms ht).1
  have mb2 : mB (mm_up I1 46 27 (nI (2 ^ R 3 - 1 ||| 1024))) R := mb1.of (fun k _ => up_c (by decide)) (fun k => up_c (by decide)) (fun k => up_c (by decide))
  have hC : mC (mm_up I1 46 27 (nI (2 ^ R 3 - 1 ||| 1024))) R (fanM R 11) (nearM R 11) (2 ^ R 3 - 1 ||| 1024) cnt al := ⟨⟨mb2.1, mb2.2.2, fun c _ => bset_lt _ _, up_s _ _ _ _, mb2.2.1, fun b _ => bset_lt _ _⟩, by rw [up_k (by decide)]; exact g1, by have := g3.1; omega, fun k hk => by rw [up_c (by decide)]; exact g2 k hk, fun k hk => (g3.2.1 k hk).1⟩
  refine ct_239 hC (z := dzK K P.1) (Nat.lt_trans (lt_p11 ok (dzK_lt K P.1)) (by decide)) (hv.lt ok) ?_ (fun I3 r hr => ⟨_, _, _, rfl, rfl, ⟨_, _, _, rfl, rfl, ?_⟩⟩)
  · rw [ofK_ag ag ok, e3]; exact hv.2.1.symm
  · obtain ⟨-, -, -, -, f3, -⟩ := id hr
    have f4 : fr ssS I I3 := f2.tr (f3.sub rfl)
    exact hk I3 r f4 (h.ss f4) (mSE_isD hr ok hB g3 (hP R ag) (fun i hi => by rw [Nat.zero_testBit] at hi; cases hi) (g := False) (fun b hb m hm => zcK ag ok hb hm.1 hm.2 (fun i hi => by rw [e3, th_tb hi]; simp)) ⟨hv, fun i _ => Nat.zero_testBit i⟩)
theorem fr.ssM {I' : mmI} (hf : fr ssS I I') : frM I I' := hf.M rfl
theorem md_241 (h : MI T to K P tr f I) (k : ∀ I' v t, frM I I' → MI T to K P t f I' → rf (to = true) (isD (goal0 (ksc K 0 0 (fanK K) (fun _ => True)) P.1)) v t → Q (some (.int v)) ((fl, n1, n2, p, q, ad), I', J)) : mm_wc (d + 6) 241 [.ref 46] ((fl, n1, n2, p, q, ad), I, J) Q := by
  refine fx_241 (ct_166 h (fun I1 f1 h1 => ⟨_, _, rfl, rfl, ?_⟩))
  rw [h1.told, bI_0]
  refine ⟨fun e => ?_, fun e => ct_167 h1 (by decide) (by decide) (fun I' f' h' => ⟨_, _, _, rfl, rfl, k I' _ _ (f1.tr f') h' (.inr ⟨by rw [e]; decide, rfl, rfl⟩)⟩)⟩
  have ht : to = true := by simpa using e
  exact sN h1 ht (Pb := fun _ => True) (fun R ag b hb => aP_allK (h1.cake ht).1 ag hb) (k := fun r I3 J3 => Q (some (.int r)) ((fl, n1, n2, p, q, ad), I3, J3)) (fun I' r f' h' hr => k I' _ _ (f1.tr (fr.ssM f')) h' (.inl ⟨ht, hr, rfl⟩))
end MS2
