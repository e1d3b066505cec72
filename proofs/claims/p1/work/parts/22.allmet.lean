/-! every method of the program keeps its contract -/
theorem mm_pM_k : ∀ e ∈ mm_pM, (mm_yn e.2.2.1).2.2 < 4 := by decide +kernel
theorem mm_ck2_k {own : Nat} {ret : Option FieldType} {q : mmE} (h : mm_ck2 own ret q = true) (hI : mm_isI q.1) : q.2.2.2.2.1 < 4 := by
  obtain ⟨i, n, a, b, k, v, w⟩ := q
  have key : ∀ x, (mm_pM.any fun z => Nat.beq z.1 own && Nat.beq z.2.1 x && Nat.beq z.2.2.1 a) = true → (mm_yn a).2.2 < 4 := by
    intro x h
    obtain ⟨⟨q1, q2, q3, q4⟩, hq, h⟩ := List.any_eq_true.mp h
    simp only [Bool.and_eq_true] at h
    have := mm_pM_k _ hq
    rw [← Nat.eq_of_beq_eq_true h.2]; exact this
  cases i <;> first | exact hI.elim | skip
  · simp only [mm_ck2, Bool.and_eq_true] at h
    show k < 4
    rw [← Nat.eq_of_beq_eq_true h.1.2]; exact key _ h.1.1.1
  · simp only [mm_ck2, Bool.and_eq_true] at h
    show k < 4
    rw [← Nat.eq_of_beq_eq_true h.1.2]; exact key _ h.1.1.1
/-- what is asked of what lies outside the program: its calls, at every point of every method -/
def mm_XH (l : Launch) (d : Nat) : Prop := ∀ (p : Program) (e : Env) (s : State) (m : MethodId) (args : Array Value) (below : List Frame) (meth : Method) (c : Code) (own : Nat) (cc : ByteArray) (D : va_G) (cA : Nat → ClassId) (ad0 adV : Nat → Nat) (A : Nat → Prop) (L : Nat) (xs : Nat → Int32) (mc ms : Nat) (Q : State → Prop) (ret : Option FieldType),
    (∀ ad, mm_ag ad0 ad → mm_c p s m args c own cc D cA ad adV A L xs) → (∀ z, s.heap.size ≤ z → A z) → ∀ (ad : Nat → Nat), mm_ag ad0 ad → ∀ (pc : Nat) (q : mmE) (ls : mmL) (st : List Value) (σ : mmS) (kk : List Value → mmS → Prop), decode cc pc = .ok (q.1, 3) → mm_ck2 own ret q = true → mm_isI q.1 → mm_P[q.2.2.1]? = none →
    mm_inv (mm_wc (d + 1)) q.2.2.1 q.2.2.2.1 q.2.2.2.2.1 q.2.2.2.2.2.1 ls st σ kk → (∀ ad', mm_ag ad0 ad' → ∀ s' τ, kk s' τ → mm_g p l e (mm_rm (d + 1) mc ms) s m args below meth c D cA ad' A L xs mc ms Q (pc + 3) ls s' τ) → mm_g p l e (mm_rm (d + 1) mc ms) s m args below meth c D cA ad A L xs mc ms Q pc ls st σ
/-- the calls of a body at depth d, where the methods below keep their contracts -/
theorem mm_calls {l : Launch} {d : Nat} (hX : ∀ d', d' < d → mm_XH l d') (ih : ∀ d', d = d' + 1 → ∀ (c : Nat) (m : mmM), mm_P[c]? = some m → ∀ (D : va_G) (cA : Nat → ClassId) (adV : Nat → Nat) (A : Nat → Prop) (L : Nat) (xs : Nat → Int32) (σ : mmS) (vs : List Value) (Q : mmQ), L < 2 ^ 31 → mm_wc (d' + 1) c vs σ Q → mm_Met l d' m D cA adV A L xs σ vs Q)
    {p : Program} {e : Env} {s : State} {m : MethodId} {args : Array Value} {below : List Frame} {meth : Method} {c : Code} {own : Nat} {cc : ByteArray} {D : va_G} {cA : Nat → ClassId} {ad0 adV : Nat → Nat} {A : Nat → Prop} {L : Nat} {xs : Nat → Int32} {mc ms : Nat} {Q : State → Prop} {ret : Option FieldType}
    (X : ∀ ad, mm_ag ad0 ad → mm_c p s m args c own cc D cA ad adV A L xs) (hAA : ∀ z, s.heap.size ≤ z → A z) (ad : Nat → Nat) (ha : mm_ag ad0 ad) (pc : Nat) (q : mmE) (ls : mmL) (st : List Value) (σ : mmS) (kk : List Value → mmS → Prop) (hd : decode cc pc = .ok (q.1, q.2.1)) (hn : q.2.1 = 3) (hck : mm_ck2 own ret q = true) (hI : mm_isI q.1)
    (h : mm_inv (mm_wc d) q.2.2.1 q.2.2.2.1 q.2.2.2.2.1 q.2.2.2.2.2.1 ls st σ kk) (kn : ∀ ad', mm_ag ad0 ad' → ∀ s' τ, kk s' τ → mm_g p l e (mm_rm d mc ms) s m args below meth c D cA ad' A L xs mc ms Q (pc + 3) ls s' τ) : mm_g p l e (mm_rm d mc ms) s m args below meth c D cA ad A L xs mc ms Q pc ls st σ := by
  rw [hn] at hd
  match d, hX, ih, h, kn with
  | 0, _, _, h, _ =>
    unfold mm_inv at h
    split at h
    · exact h.elim
    split at h
    · exact h.elim
    split at h
    · exact h.elim
    obtain ⟨x, y, -, -, h⟩ := h
    exact h.elim
  | d' + 1, hX, ih, h, kn =>
    cases hm : mm_P[q.2.2.1]? with
    | none => exact hX d' (Nat.lt_succ_self d') p e s m args below meth c own cc D cA ad0 adV A L xs mc ms Q ret X hAA ad ha pc q ls st σ kk hd hck hI hm h kn
    | some mm =>
      intro lsA H locs cells slots h1 h2 h3 h4 h5 h6 h7 h8 h9
      refine mm_inv_sound (X ad ha).2.2.2.2.1 ha (mm_ck2_k hck hI) h ?_ kn lsA H locs cells slots h1 h2 h3 h4 h5 h6 h7 h8 h9
      intro x y Qm hcat hC
      have hC' : (match mm_P[q.2.2.1]? with
        | some m => mm_rcv m (st.take q.2.2.2.1).reverse (mm_bud σ x y) = true ∧ mm_w Qm (mm_wc d') m.2.2.2.2.2.2.2 0 (mm_loc m.2.2.1 (st.take q.2.2.2.1).reverse) [] (mm_bud σ x y)
        | none => mm_ext (mm_wc d') q.2.2.1 (st.take q.2.2.2.1).reverse (mm_bud σ x y) Qm) := hC
      rw [hm] at hC'
      exact mm_ctP (X ad ha) hAA hd hck hI hm hcat h8 hC'.1 (ih d' rfl _ mm hm D cA adV A L xs _ _ Qm (X ad ha).2.2.2.2.2.2 hC)
/-- a method's end -/
theorem mm_ends {l : Launch} {R : Room} {p : Program} {e : Env} {s : State} {m : MethodId} {args : Array Value} {below : List Frame} {meth : Method} {c : Code} {own : Nat} {cc : ByteArray} {D : va_G} {cA : Nat → ClassId} {ad0 ad adV : Nat → Nat} {A : Nat → Prop} {L : Nat} {xs : Nat → Int32} {mc ms : Nat} {ret : Option FieldType} {Qm : mmQ}
    (X : mm_c p s m args c own cc D cA ad adV A L xs) (ha : mm_ag ad0 ad) (hr : meth.sig.returnType = ret) (hlocks : meth.locks = false) {pc : Nat} {q : mmE} {ls : mmL} {v : Option Value} {σ : mmS} (hd : decode cc pc = .ok (q.1, q.2.1)) (hn : q.2.1 = 1) (hck : mm_ck2 own ret q = true) (hq : Qm v σ) (hrk : mm_rk q v) :
    mm_g p l e R s m args below meth c D cA ad A L xs mc ms (MQ below (mm_qc (mm_rt ret) Qm ad0 D cA A L xs) args s mc ms A) pc ls v.toList σ := by
  intro lsA H locs cells slots h1 h2 h3 h4 h5 h6 h7 h8 h9
  obtain ⟨hx, hb, hown, hts, hK, hE, hL⟩ := X
  obtain ⟨i, n, a, b, k, vv, w⟩ := q
  dsimp only at hd hn
  subst hn
  refine W.widen (k := mc) (n := ms) (by omega) (by omega) ?_
  have hB : ∀ t : State, t.heap = H → s.WarmedH t.vm → mm_B D cA A L xs σ t := fun t ht hW => by
    unfold mm_B
    rw [h8, ht]
    exact ⟨h2, va_K.moved hW.alike hK, h3, h5⟩
  have hag : mm_ag ad0 σ.1.2.2.2.2.2 := by rw [h8]; exact ha
  cases i <;> first | exact hrk.elim | skip
  · -- int
    cases v with
    | none => exact hrk.elim
    | some v =>
      cases v <;> first | exact hrk.elim | skip
      rename_i z
      have hrk' : k = 5 → z = 0 ∨ z = 1 := hrk
      simp only [mm_ck2] at hck
      split at hck
      · exact W.iret hx hb hr (fun t ht hW => ⟨⟨z, σ, rfl, ⟨hq, hag⟩, hB t ht hW⟩, h4.F ht⟩) (fun q hq => h4.2.2 q hq) hd hlocks
      · exact W.zret hx hb hr (by rcases hrk' (Nat.eq_of_beq_eq_true hck) with rfl | rfl <;> rfl) (fun t ht hW => ⟨⟨z, σ, rfl, ⟨hq, hag⟩, hB t ht hW⟩, h4.F ht⟩) (fun q hq => h4.2.2 q hq) hd hlocks
      · cases hck
  · -- long
    cases v with
    | none => exact hrk.elim
    | some v =>
      cases v <;> first | exact hrk.elim | skip
      rename_i z
      simp only [mm_ck2] at hck
      split at hck
      · exact W.lret hx hb hr (fun t ht hW => ⟨⟨z, σ, rfl, ⟨hq, hag⟩, hB t ht hW⟩, h4.F ht⟩) (fun q hq => h4.2.2 q hq) hd hlocks
      · cases hck
  · -- nothing
    cases v with
    | some v => cases v <;> exact hrk.elim
    | none =>
      simp only [mm_ck2] at hck
      split at hck
      · exact W.vret hx hb hr (fun t ht hW => ⟨⟨σ, rfl, ⟨hq, hag⟩, hB t ht hW⟩, h4.F ht⟩) (fun q hq => h4.2.2 q hq) hd hlocks
      · cases hck
/-- one method, where those below keep theirs -/
theorem mm_met1 {l : Launch} {d : Nat} (hX : ∀ d', d' < d → mm_XH l d') (ih : ∀ d', d = d' + 1 → ∀ (c : Nat) (m : mmM), mm_P[c]? = some m → ∀ (D : va_G) (cA : Nat → ClassId) (adV : Nat → Nat) (A : Nat → Prop) (L : Nat) (xs : Nat → Int32) (σ : mmS) (vs : List Value) (Q : mmQ), L < 2 ^ 31 → mm_wc (d' + 1) c vs σ Q → mm_Met l d' m D cA adV A L xs σ vs Q)
    (c0 : Nat) (mm : mmM) (hm : mm_P[c0]? = some mm) (D : va_G) (cA : Nat → ClassId) (adV : Nat → Nat) (A : Nat → Prop) (L : Nat) (xs : Nat → Int32) (σ : mmS) (vs : List Value) (Qm : mmQ) (hL : L < 2 ^ 31) (h : mm_wc (d + 1) c0 vs σ Qm) : mm_Met l d mm D cA adV A L xs σ vs Qm := by
  have h' : (match mm_P[c0]? with
      | some m => mm_rcv m vs σ = true ∧ mm_w Qm (mm_wc d) m.2.2.2.2.2.2.2 0 (mm_loc m.2.2.1 vs) [] σ
      | none => mm_ext (mm_wc d) c0 vs σ Qm) := h
  rw [hm] at h'
  obtain ⟨hrc, hw⟩ := h'
  obtain ⟨f1, f2, f3, f4, f5, f6, f7, f8, f9, f10, f11⟩ := mm_mf_of hm
  unfold mm_rcv at hrc
  simp only [Bool.and_eq_true] at hrc
  have hfit : (mm_ent vs).length ≤ mm.2.2.1 := Nat.le_of_ble_eq_true hrc.1.2
  unfold mm_Met
  refine Met.ofW (cc := mm.2.1) (maxL := mm.2.2.1) (ret := mm.2.2.2.1) f6 rfl ?_
  intro p e s m args below meth c s₁ B hml hv
  obtain ⟨rfl, hP, hK, hD, hE, hcst, hAA⟩ := hv
  have hts0 := atoms_spec (ws := Cond.code mm.1 mm.2.1 mm.2.2.1 mm.2.2.2.1 :: mm_ws) B.pre
  have hts : ∀ w ∈ mm_ws, w.before ((vs.map (mm_tr σ.1.2.2.2.2.2)).toArray) s = true := fun w hw => hts0 w (List.mem_cons_of_mem _ hw)
  have hown : s.vm.findClass (mm_nm mm.2.2.2.2.1) = some m.cls := by rw [f7]; exact findClass_of_methodNamed B.named
  have X : ∀ ad, mm_ag σ.1.2.2.2.2.2 ad → mm_c p s m ((vs.map (mm_tr σ.1.2.2.2.2.2)).toArray) c mm.2.2.2.2.1 mm.2.1 D cA ad adV A L xs := fun ad ha => ⟨B.exec, B.bytes, hown, hts, hK, mm_env_ag hE ha, hL⟩
  have hl := mm_lr_entry (ad := σ.1.2.2.2.2.2) (n := mm.2.2.1) hfit
  rw [lg_entry_eq]
  refine mm_w_sound (ret := mm.2.2.2.1) X ?_ ?_ f10 f11 hw σ.1.2.2.2.2.2 mm_ag.refl _ s.heap [] 0 0 hl hP hD va_S.rf hcst (Nat.zero_add _) (Nat.zero_add _) rfl ?_
  · intro ad ha pc q ls v τ hd hn hck hq hrk
    exact mm_ends (X ad ha) ha B.returns B.notSynchronized hd hn hck hq hrk
  · intro ad ha pc q ls st τ kk hd hn hck hI hi kn
    exact mm_calls hX ih X hAA ad ha pc q ls st τ kk hd hn hck hI hi kn
  · rw [hml, hl.1]; unfold mm_loc; rw [List.length_append, List.length_replicate]; omega
theorem mm_met {l : Launch} : ∀ (d : Nat) (hX : ∀ d', d' < d → mm_XH l d') (c : Nat) (m : mmM), mm_P[c]? = some m → ∀ (D : va_G) (cA : Nat → ClassId) (adV : Nat → Nat) (A : Nat → Prop) (L : Nat) (xs : Nat → Int32) (σ : mmS) (vs : List Value) (Q : mmQ), L < 2 ^ 31 → mm_wc (d + 1) c vs σ Q → mm_Met l d m D cA adV A L xs σ vs Q := by
  intro d
  induction d with
  | zero => exact fun hX c m hm D cA adV A L xs σ vs Q hL h => mm_met1 hX (fun d' z => absurd z (by omega)) c m hm D cA adV A L xs σ vs Q hL h
  | succ d ih => exact fun hX c m hm D cA adV A L xs σ vs Q hL h => mm_met1 hX (fun d' z => by cases z; exact ih (fun d' z => hX d' (by omega))) c m hm D cA adV A L xs σ vs Q hL h
