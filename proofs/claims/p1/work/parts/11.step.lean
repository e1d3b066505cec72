/-! one instruction of the small machine is one of the real one: all of them -/
section MMY
variable {p : Program} {l : Launch} {e : Env} {R : Room} {s : State} {m : MethodId} {args : Array Value} {below : List Frame} {meth : Method} {c : Code} {own : Nat} {cc : ByteArray} {D : va_G} {cA : Nat → ClassId} {ad adV : Nat → Nat} {A : Nat → Prop} {L : Nat} {xs : Nat → Int32} {mc ms : Nat} {Q : State → Prop} {pc : Nat} {ls : mmL} {st : List Value} {σ : mmS}
set_option maxHeartbeats 4000000 in
theorem mm_x_sound (X : mm_c p s m args c own cc D cA ad adV A L xs) {q : mmE} (hdec : decode cc pc = .ok (q.1, q.2.1)) (hck : mm_ck1 own pc q = true) {K : Nat → mmK} {Rq : mmQ} {C : mmCall} {k : mmK}
    (hk : ∀ ls st σ, k ls st σ → mm_g p l e R s m args below meth c D cA ad A L xs mc ms Q (pc + q.2.1) ls st σ) (hK : ∀ pc ls st σ, K pc ls st σ → mm_g p l e R s m args below meth c D cA ad A L xs mc ms Q pc ls st σ) (hR : ∀ ls v σ, Rq v σ → mm_rk q v → mm_g p l e R s m args below meth c D cA ad A L xs mc ms Q pc ls v.toList σ)
    (hI : ∀ ls st σ (kk : List Value → mmS → Prop), mm_isI q.1 → mm_inv C q.2.2.1 q.2.2.2.1 q.2.2.2.2.1 q.2.2.2.2.2.1 ls st σ kk → (∀ s' τ, kk s' τ → mm_g p l e R s m args below meth c D cA ad A L xs mc ms Q (pc + 3) ls s' τ) → mm_g p l e R s m args below meth c D cA ad A L xs mc ms Q pc ls st σ)
    (h : mm_x K Rq C pc q k ls st σ) : mm_g p l e R s m args below meth c D cA ad A L xs mc ms Q pc ls st σ := by
  have X' := X
  obtain ⟨hx, hb, hown, hts, hKK, hE, hL⟩ := X'
  obtain ⟨i, n, a, b, cd, v, w⟩ := q
  dsimp only at hdec hk hI
  cases i <;> first | exact h.elim | skip
  case iconst t =>
    simp only [mm_ck1, Bool.and_eq_true, decide_eq_true_eq] at hck
    obtain ⟨hn, hck⟩ := hck
    cases Nat.eq_of_beq_eq_true hn
    intro lsA H locs cells slots h1 h2 h3 h4 h5 h6 h7 h8 h9
    exact lv_iconst hx hb hdec hck (hk _ _ _ h lsA H locs cells slots h1 h2 h3 h4 h5 h6 h7 h8 h9)
  case bipush t =>
    simp only [mm_ck1, Bool.and_eq_true, decide_eq_true_eq] at hck
    obtain ⟨hn, hck⟩ := hck
    cases Nat.eq_of_beq_eq_true hn
    intro lsA H locs cells slots h1 h2 h3 h4 h5 h6 h7 h8 h9
    exact lv_bipush hx hb hdec hck (hk _ _ _ h lsA H locs cells slots h1 h2 h3 h4 h5 h6 h7 h8 h9)
  case sipush t =>
    simp only [mm_ck1, Bool.and_eq_true, decide_eq_true_eq] at hck
    obtain ⟨hn, hck⟩ := hck
    cases Nat.eq_of_beq_eq_true hn
    intro lsA H locs cells slots h1 h2 h3 h4 h5 h6 h7 h8 h9
    exact lv_sipush hx hb hdec hck (hk _ _ _ h lsA H locs cells slots h1 h2 h3 h4 h5 h6 h7 h8 h9)
  case lconst t =>
    simp only [mm_ck1, Bool.and_eq_true, decide_eq_true_eq] at hck
    obtain ⟨hn, hck⟩ := hck
    cases Nat.eq_of_beq_eq_true hn
    intro lsA H locs cells slots h1 h2 h3 h4 h5 h6 h7 h8 h9
    exact lv_lconst hx hb hdec hck (hk _ _ _ h lsA H locs cells slots h1 h2 h3 h4 h5 h6 h7 h8 h9)
  case ldc x =>
    simp only [mm_ck1, Bool.and_eq_true, decide_eq_true_eq] at hck
    obtain ⟨hn, hck⟩ := hck
    cases Nat.eq_of_beq_eq_true hn
    cases a with
    | zero =>
      dsimp only at hck
      obtain ⟨⟨q1, q2, q3, q4⟩, hq, hck⟩ := List.any_eq_true.mp hck
      simp only [Bool.and_eq_true, decide_eq_true_eq] at hck
      obtain ⟨⟨e1, e2⟩, e3⟩ := hck
      cases Nat.eq_of_beq_eq_true e1; cases Nat.eq_of_beq_eq_true e2; cases e3
      intro lsA H locs cells slots h1 h2 h3 h4 h5 h6 h7 h8 h9
      exact lv_ldc hx hb hown (hts _ (mm_pI_ws hq)) hdec (hk _ _ _ h lsA H locs cells slots h1 h2 h3 h4 h5 h6 h7 h8 h9)
    | succ t =>
      dsimp only at hck
      obtain ⟨⟨q1, q2, q3, q4⟩, hq, hck⟩ := List.any_eq_true.mp hck
      simp only [Bool.and_eq_true] at hck
      obtain ⟨⟨e1, e2⟩, e3⟩ := hck
      cases Nat.eq_of_beq_eq_true e1; cases Nat.eq_of_beq_eq_true e2; cases Nat.eq_of_beq_eq_true e3
      intro lsA H locs cells slots h1 h2 h3 h4 h5 h6 h7 h8 h9
      exact va_ldcS hx hb hown (hE.2.2.2.1 _ hq) hdec (hk _ _ _ h lsA H locs cells slots h1 h2 h3 h4 h5 h6 h7 h8 h9)
  case ldc_w x =>
    simp only [mm_ck1, Bool.and_eq_true, decide_eq_true_eq] at hck
    obtain ⟨hn, hck⟩ := hck
    cases Nat.eq_of_beq_eq_true hn
    cases a with
    | zero =>
      dsimp only at hck
      obtain ⟨⟨q1, q2, q3, q4⟩, hq, hck⟩ := List.any_eq_true.mp hck
      simp only [Bool.and_eq_true, decide_eq_true_eq] at hck
      obtain ⟨⟨e1, e2⟩, e3⟩ := hck
      cases Nat.eq_of_beq_eq_true e1; cases Nat.eq_of_beq_eq_true e2; cases e3
      intro lsA H locs cells slots h1 h2 h3 h4 h5 h6 h7 h8 h9
      exact lv_ldcw hx hb hown (hts _ (mm_pI_ws hq)) hdec (hk _ _ _ h lsA H locs cells slots h1 h2 h3 h4 h5 h6 h7 h8 h9)
    | succ t =>
      dsimp only at hck
      obtain ⟨⟨q1, q2, q3, q4⟩, hq, hck⟩ := List.any_eq_true.mp hck
      simp only [Bool.and_eq_true] at hck
      obtain ⟨⟨e1, e2⟩, e3⟩ := hck
      cases Nat.eq_of_beq_eq_true e1; cases Nat.eq_of_beq_eq_true e2; cases Nat.eq_of_beq_eq_true e3
      intro lsA H locs cells slots h1 h2 h3 h4 h5 h6 h7 h8 h9
      exact mm_ldcwS hx hb hown (hE.2.2.2.1 _ hq) hdec (hk _ _ _ h lsA H locs cells slots h1 h2 h3 h4 h5 h6 h7 h8 h9)
  case ldc2_w x =>
    simp only [mm_ck1, Bool.and_eq_true, decide_eq_true_eq] at hck
    obtain ⟨hn, hck⟩ := hck
    cases Nat.eq_of_beq_eq_true hn
    obtain ⟨⟨q1, q2, q3, q4⟩, hq, hck⟩ := List.any_eq_true.mp hck
    simp only [Bool.and_eq_true, decide_eq_true_eq] at hck
    obtain ⟨⟨e1, e2⟩, e3⟩ := hck
    cases Nat.eq_of_beq_eq_true e1; cases Nat.eq_of_beq_eq_true e2; cases e3
    intro lsA H locs cells slots h1 h2 h3 h4 h5 h6 h7 h8 h9
    exact lv_ldc2 hx hb hown (hts _ (mm_pL_ws hq)) hdec (hk _ _ _ h lsA H locs cells slots h1 h2 h3 h4 h5 h6 h7 h8 h9)
  case iload_n t =>
    simp only [mm_ck1] at hck
    cases Nat.eq_of_beq_eq_true hck
    obtain ⟨x, hl, h⟩ := mm_ldI_inv h
    intro lsA H locs cells slots h1 h2 h3 h4 h5 h6 h7 h8 h9
    exact lv_iload_n hx hb hdec rfl (h1.int hl) (hk _ _ _ h lsA H locs cells slots h1 h2 h3 h4 h5 h6 h7 h8 h9)
  case iload t =>
    simp only [mm_ck1] at hck
    cases Nat.eq_of_beq_eq_true hck
    obtain ⟨x, hl, h⟩ := mm_ldI_inv h
    intro lsA H locs cells slots h1 h2 h3 h4 h5 h6 h7 h8 h9
    exact lv_iload hx hb hdec (h1.int hl) (hk _ _ _ h lsA H locs cells slots h1 h2 h3 h4 h5 h6 h7 h8 h9)
  case lload_n t =>
    simp only [mm_ck1] at hck
    cases Nat.eq_of_beq_eq_true hck
    obtain ⟨x, hl, h⟩ := mm_ldL_inv h
    intro lsA H locs cells slots h1 h2 h3 h4 h5 h6 h7 h8 h9
    exact lv_lload_n hx hb hdec rfl (h1.long hl) (hk _ _ _ h lsA H locs cells slots h1 h2 h3 h4 h5 h6 h7 h8 h9)
  case lload t =>
    simp only [mm_ck1] at hck
    cases Nat.eq_of_beq_eq_true hck
    obtain ⟨x, hl, h⟩ := mm_ldL_inv h
    intro lsA H locs cells slots h1 h2 h3 h4 h5 h6 h7 h8 h9
    exact lv_lload hx hb hdec (h1.long hl) (hk _ _ _ h lsA H locs cells slots h1 h2 h3 h4 h5 h6 h7 h8 h9)
  case aload_n t =>
    simp only [mm_ck1] at hck
    cases Nat.eq_of_beq_eq_true hck
    obtain ⟨x, hl, h⟩ := mm_ldA_inv h
    intro lsA H locs cells slots h1 h2 h3 h4 h5 h6 h7 h8 h9
    exact lv_aload_n hx hb hdec rfl (h1.ref hl) (hk _ _ _ h lsA H locs cells slots h1 h2 h3 h4 h5 h6 h7 h8 h9)
  case aload t =>
    simp only [mm_ck1] at hck
    cases Nat.eq_of_beq_eq_true hck
    obtain ⟨x, hl, h⟩ := mm_ldA_inv h
    intro lsA H locs cells slots h1 h2 h3 h4 h5 h6 h7 h8 h9
    exact lv_aload hx hb hdec (h1.ref hl) (hk _ _ _ h lsA H locs cells slots h1 h2 h3 h4 h5 h6 h7 h8 h9)
  case istore_n t =>
    simp only [mm_ck1] at hck
    cases Nat.eq_of_beq_eq_true hck
    obtain ⟨x, r, rfl, h0⟩ := mm_p1_inv h
    obtain ⟨hlt, h10⟩ := mm_st1_inv h0
    intro lsA H locs cells slots h1 h2 h3 h4 h5 h6 h7 h8 h9
    exact lv_istore_n hx hb hdec rfl h1.has hlt rfl (fun lsB hB => hk _ _ _ h10 lsB H locs cells slots (mm_lr.st1 (v := .int x) hlt hB) h2 h3 h4 h5 h6 h7 h8 (by rw [hB.1, ← h1.1]; exact h9))
  case istore t =>
    simp only [mm_ck1] at hck
    cases Nat.eq_of_beq_eq_true hck
    obtain ⟨x, r, rfl, h0⟩ := mm_p1_inv h
    obtain ⟨hlt, h10⟩ := mm_st1_inv h0
    intro lsA H locs cells slots h1 h2 h3 h4 h5 h6 h7 h8 h9
    exact lv_istore hx hb hdec h1.has hlt rfl (fun lsB hB => hk _ _ _ h10 lsB H locs cells slots (mm_lr.st1 (v := .int x) hlt hB) h2 h3 h4 h5 h6 h7 h8 (by rw [hB.1, ← h1.1]; exact h9))
  case lstore_n t =>
    simp only [mm_ck1] at hck
    cases Nat.eq_of_beq_eq_true hck
    obtain ⟨x, r, rfl, h0⟩ := mm_l1_inv h
    obtain ⟨hlt, h10⟩ := mm_st2_inv h0
    intro lsA H locs cells slots h1 h2 h3 h4 h5 h6 h7 h8 h9
    exact lv_lstore_n hx hb hdec rfl h1.has hlt rfl (fun lsB hB => hk _ _ _ h10 lsB H locs cells slots (mm_lr.st2 (v := .long x) hlt hB) h2 h3 h4 h5 h6 h7 h8 (by rw [hB.1, ← h1.1]; exact h9))
  case lstore t =>
    simp only [mm_ck1] at hck
    cases Nat.eq_of_beq_eq_true hck
    obtain ⟨x, r, rfl, h0⟩ := mm_l1_inv h
    obtain ⟨hlt, h10⟩ := mm_st2_inv h0
    intro lsA H locs cells slots h1 h2 h3 h4 h5 h6 h7 h8 h9
    exact lv_lstore hx hb hdec h1.has hlt rfl (fun lsB hB => hk _ _ _ h10 lsB H locs cells slots (mm_lr.st2 (v := .long x) hlt hB) h2 h3 h4 h5 h6 h7 h8 (by rw [hB.1, ← h1.1]; exact h9))
  case astore_n t =>
    simp only [mm_ck1] at hck
    cases Nat.eq_of_beq_eq_true hck
    obtain ⟨x, r, rfl, h0⟩ := mm_a1_inv h
    obtain ⟨hlt, h10⟩ := mm_st1_inv h0
    intro lsA H locs cells slots h1 h2 h3 h4 h5 h6 h7 h8 h9
    exact lv_astore_n hx hb hdec rfl h1.has hlt rfl (fun lsB hB => hk _ _ _ h10 lsB H locs cells slots (mm_lr.st1 (v := .ref x) hlt hB) h2 h3 h4 h5 h6 h7 h8 (by rw [hB.1, ← h1.1]; exact h9))
  case astore t =>
    simp only [mm_ck1] at hck
    cases Nat.eq_of_beq_eq_true hck
    obtain ⟨x, r, rfl, h0⟩ := mm_a1_inv h
    obtain ⟨hlt, h10⟩ := mm_st1_inv h0
    intro lsA H locs cells slots h1 h2 h3 h4 h5 h6 h7 h8 h9
    exact lv_astore hx hb hdec h1.has hlt rfl (fun lsB hB => hk _ _ _ h10 lsB H locs cells slots (mm_lr.st1 (v := .ref x) hlt hB) h2 h3 h4 h5 h6 h7 h8 (by rw [hB.1, ← h1.1]; exact h9))
  case iinc t z =>
    simp only [mm_ck1, Bool.and_eq_true, decide_eq_true_eq] at hck
    obtain ⟨hn, hck⟩ := hck
    cases Nat.eq_of_beq_eq_true hn
    obtain ⟨x, hl, h⟩ := mm_ldI_inv h
    obtain ⟨hlt, h⟩ := mm_st1_inv h
    intro lsA H locs cells slots h1 h2 h3 h4 h5 h6 h7 h8 h9
    have hmem : (t, Value.int x) ∈ mm_lvs ad ls := mm_lvs_mem.mpr ⟨.int x, hl, rfl⟩
    obtain ⟨kp, hkp⟩ := List.getElem?_of_mem hmem
    exact lv_iinc hx hb hdec h1.has hkp (by rw [hck]) hlt rfl (fun lsB hB => hk _ _ _ h lsB H locs cells slots (mm_lr.st1 (v := .int (x + v)) hlt hB) h2 h3 h4 h5 h6 h7 h8 (by rw [hB.1, ← h1.1]; exact h9))
  case iadd =>
    simp only [mm_ck1] at hck
    cases Nat.eq_of_beq_eq_true hck
    obtain ⟨x, y, r, rfl, h⟩ := mm_p2_inv h
    intro lsA H locs cells slots h1 h2 h3 h4 h5 h6 h7 h8 h9
    exact lv_iadd hx hb hdec (hk _ _ _ h lsA H locs cells slots h1 h2 h3 h4 h5 h6 h7 h8 h9)
  case isub =>
    simp only [mm_ck1] at hck
    cases Nat.eq_of_beq_eq_true hck
    obtain ⟨x, y, r, rfl, h⟩ := mm_p2_inv h
    intro lsA H locs cells slots h1 h2 h3 h4 h5 h6 h7 h8 h9
    exact lv_isub hx hb hdec (hk _ _ _ h lsA H locs cells slots h1 h2 h3 h4 h5 h6 h7 h8 h9)
  case imul =>
    simp only [mm_ck1] at hck
    cases Nat.eq_of_beq_eq_true hck
    obtain ⟨x, y, r, rfl, h⟩ := mm_p2_inv h
    intro lsA H locs cells slots h1 h2 h3 h4 h5 h6 h7 h8 h9
    exact lv_imul hx hb hdec (hk _ _ _ h lsA H locs cells slots h1 h2 h3 h4 h5 h6 h7 h8 h9)
  case iand =>
    simp only [mm_ck1] at hck
    cases Nat.eq_of_beq_eq_true hck
    obtain ⟨x, y, r, rfl, h⟩ := mm_p2_inv h
    intro lsA H locs cells slots h1 h2 h3 h4 h5 h6 h7 h8 h9
    exact lv_iand hx hb hdec (hk _ _ _ h lsA H locs cells slots h1 h2 h3 h4 h5 h6 h7 h8 h9)
  case ior =>
    simp only [mm_ck1] at hck
    cases Nat.eq_of_beq_eq_true hck
    obtain ⟨x, y, r, rfl, h⟩ := mm_p2_inv h
    intro lsA H locs cells slots h1 h2 h3 h4 h5 h6 h7 h8 h9
    exact lv_ior hx hb hdec (hk _ _ _ h lsA H locs cells slots h1 h2 h3 h4 h5 h6 h7 h8 h9)
  case ixor =>
    simp only [mm_ck1] at hck
    cases Nat.eq_of_beq_eq_true hck
    obtain ⟨x, y, r, rfl, h⟩ := mm_p2_inv h
    intro lsA H locs cells slots h1 h2 h3 h4 h5 h6 h7 h8 h9
    exact lv_ixor hx hb hdec (hk _ _ _ h lsA H locs cells slots h1 h2 h3 h4 h5 h6 h7 h8 h9)
  case ishl =>
    simp only [mm_ck1] at hck
    cases Nat.eq_of_beq_eq_true hck
    obtain ⟨x, y, r, rfl, h⟩ := mm_p2_inv h
    intro lsA H locs cells slots h1 h2 h3 h4 h5 h6 h7 h8 h9
    exact lv_ishl hx hb hdec (hk _ _ _ h lsA H locs cells slots h1 h2 h3 h4 h5 h6 h7 h8 h9)
  case ishr =>
    simp only [mm_ck1] at hck
    cases Nat.eq_of_beq_eq_true hck
    obtain ⟨x, y, r, rfl, h⟩ := mm_p2_inv h
    intro lsA H locs cells slots h1 h2 h3 h4 h5 h6 h7 h8 h9
    exact lv_ishr hx hb hdec (hk _ _ _ h lsA H locs cells slots h1 h2 h3 h4 h5 h6 h7 h8 h9)
  case iushr =>
    simp only [mm_ck1] at hck
    cases Nat.eq_of_beq_eq_true hck
    obtain ⟨x, y, r, rfl, h⟩ := mm_p2_inv h
    intro lsA H locs cells slots h1 h2 h3 h4 h5 h6 h7 h8 h9
    exact lv_iushr hx hb hdec rfl (hk _ _ _ h lsA H locs cells slots h1 h2 h3 h4 h5 h6 h7 h8 h9)
  case idiv =>
    simp only [mm_ck1] at hck
    cases Nat.eq_of_beq_eq_true hck
    obtain ⟨x, y, r, rfl, hne, h⟩ := mm_p2_inv h
    intro lsA H locs cells slots h1 h2 h3 h4 h5 h6 h7 h8 h9
    exact lv_idiv hx hb hdec hne (hk _ _ _ h lsA H locs cells slots h1 h2 h3 h4 h5 h6 h7 h8 h9)
  case irem =>
    simp only [mm_ck1] at hck
    cases Nat.eq_of_beq_eq_true hck
    obtain ⟨x, y, r, rfl, hne, h⟩ := mm_p2_inv h
    intro lsA H locs cells slots h1 h2 h3 h4 h5 h6 h7 h8 h9
    exact lv_irem hx hb hdec hne (hk _ _ _ h lsA H locs cells slots h1 h2 h3 h4 h5 h6 h7 h8 h9)
  case ineg =>
    simp only [mm_ck1] at hck
    cases Nat.eq_of_beq_eq_true hck
    obtain ⟨x, r, rfl, h⟩ := mm_p1_inv h
    intro lsA H locs cells slots h1 h2 h3 h4 h5 h6 h7 h8 h9
    exact lv_ineg hx hb hdec (hk _ _ _ h lsA H locs cells slots h1 h2 h3 h4 h5 h6 h7 h8 h9)
  case i2b =>
    simp only [mm_ck1] at hck
    cases Nat.eq_of_beq_eq_true hck
    obtain ⟨x, r, rfl, h⟩ := mm_p1_inv h
    intro lsA H locs cells slots h1 h2 h3 h4 h5 h6 h7 h8 h9
    exact lv_i2b hx hb hdec rfl (hk _ _ _ h lsA H locs cells slots h1 h2 h3 h4 h5 h6 h7 h8 h9)
  case i2l =>
    simp only [mm_ck1] at hck
    cases Nat.eq_of_beq_eq_true hck
    obtain ⟨x, r, rfl, h⟩ := mm_p1_inv h
    intro lsA H locs cells slots h1 h2 h3 h4 h5 h6 h7 h8 h9
    exact lv_i2l hx hb hdec rfl (hk _ _ _ h lsA H locs cells slots h1 h2 h3 h4 h5 h6 h7 h8 h9)
  case ladd =>
    simp only [mm_ck1] at hck
    cases Nat.eq_of_beq_eq_true hck
    obtain ⟨x, y, r, rfl, h⟩ := mm_l2_inv h
    intro lsA H locs cells slots h1 h2 h3 h4 h5 h6 h7 h8 h9
    exact lv_ladd hx hb hdec (hk _ _ _ h lsA H locs cells slots h1 h2 h3 h4 h5 h6 h7 h8 h9)
  case lmul =>
    simp only [mm_ck1] at hck
    cases Nat.eq_of_beq_eq_true hck
    obtain ⟨x, y, r, rfl, h⟩ := mm_l2_inv h
    intro lsA H locs cells slots h1 h2 h3 h4 h5 h6 h7 h8 h9
    exact lv_lmul hx hb hdec (hk _ _ _ h lsA H locs cells slots h1 h2 h3 h4 h5 h6 h7 h8 h9)
  case ldiv =>
    simp only [mm_ck1] at hck
    cases Nat.eq_of_beq_eq_true hck
    obtain ⟨x, y, r, rfl, hne, h⟩ := mm_l2_inv h
    intro lsA H locs cells slots h1 h2 h3 h4 h5 h6 h7 h8 h9
    exact lv_ldiv hx hb hdec hne (hk _ _ _ h lsA H locs cells slots h1 h2 h3 h4 h5 h6 h7 h8 h9)
  case lrem =>
    simp only [mm_ck1] at hck
    cases Nat.eq_of_beq_eq_true hck
    obtain ⟨x, y, r, rfl, hne, h⟩ := mm_l2_inv h
    intro lsA H locs cells slots h1 h2 h3 h4 h5 h6 h7 h8 h9
    exact lv_lrem hx hb hdec hne (hk _ _ _ h lsA H locs cells slots h1 h2 h3 h4 h5 h6 h7 h8 h9)
  case lcmp =>
    simp only [mm_ck1] at hck
    cases Nat.eq_of_beq_eq_true hck
    obtain ⟨x, y, r, rfl, h⟩ := mm_l2_inv h
    intro lsA H locs cells slots h1 h2 h3 h4 h5 h6 h7 h8 h9
    exact W.lcmp hx hb hdec (hk _ _ _ h lsA H locs cells slots h1 h2 h3 h4 h5 h6 h7 h8 h9)
  case dup =>
    simp only [mm_ck1] at hck
    cases Nat.eq_of_beq_eq_true hck
    dsimp only [mm_x] at h
    split at h
    · intro lsA H locs cells slots h1 h2 h3 h4 h5 h6 h7 h8 h9
      exact lv_dup hx hb hdec rfl (hk _ _ _ h lsA H locs cells slots h1 h2 h3 h4 h5 h6 h7 h8 h9)
    · intro lsA H locs cells slots h1 h2 h3 h4 h5 h6 h7 h8 h9
      exact lv_dup hx hb hdec rfl (hk _ _ _ h lsA H locs cells slots h1 h2 h3 h4 h5 h6 h7 h8 h9)
    · exact h.elim
  case dup2 =>
    simp only [mm_ck1] at hck
    cases Nat.eq_of_beq_eq_true hck
    dsimp only [mm_x] at h
    split at h
    · intro lsA H locs cells slots h1 h2 h3 h4 h5 h6 h7 h8 h9
      exact lv_dup2_11 hx hb hdec rfl rfl (hk _ _ _ h lsA H locs cells slots h1 h2 h3 h4 h5 h6 h7 h8 h9)
    · exact h.elim
  case getfield x =>
    simp only [mm_ck1, Bool.and_eq_true] at hck
    obtain ⟨⟨⟨⟨hn, ha⟩, hbb⟩, hc⟩, hl⟩ := hck
    cases Nat.eq_of_beq_eq_true hn
    obtain ⟨r, st, rfl, h⟩ := mm_a1_inv h
    exact mm_s_gf X hdec (Nat.le_of_ble_eq_true ha) (Nat.le_of_ble_eq_true hbb) (Nat.eq_of_beq_eq_true hc) (mm_hasF_lk hl) (mm_gf_mono (fun _ => hk _ _ _) h)
  case putfield x =>
    simp only [mm_ck1, Bool.and_eq_true] at hck
    obtain ⟨⟨⟨⟨⟨hn, ha⟩, hbb⟩, hl⟩, hf⟩, hc⟩ := hck
    cases Nat.eq_of_beq_eq_true hn
    dsimp only [mm_x] at h
    split at h
    · refine mm_s_pf X hdec (Nat.le_of_ble_eq_true ha) (Nat.le_of_ble_eq_true hbb) (mm_hasF_lk hl) (by simpa using hf) ?_ (mm_pf_mono (fun _ => hk _ _ _) h)
      split at hc <;> first | (simp only [Bool.and_eq_true, decide_eq_true_eq] at hc; skip) | skip
      · exact Or.inl ⟨rfl, hc.1, Nat.eq_of_beq_eq_true hc.2⟩
      · exact Or.inr (Or.inl ⟨rfl, hc.1, Nat.eq_of_beq_eq_true hc.2⟩)
      · exact Or.inr (Or.inr (Or.inl ⟨rfl, hc.1, Nat.eq_of_beq_eq_true hc.2⟩))
      · exact Or.inr (Or.inr (Or.inr (Or.inl ⟨rfl, hc.1.1.1, Nat.eq_of_beq_eq_true hc.1.1.2⟩)))
      · exact Or.inr (Or.inr (Or.inr (Or.inr ⟨rfl, hc.1.1.1, Nat.eq_of_beq_eq_true hc.1.1.2⟩)))
      · cases hc
    · exact h.elim
  case getstatic x =>
    simp only [mm_ck1, Bool.and_eq_true, decide_eq_true_eq] at hck
    obtain ⟨hn, hck⟩ := hck
    cases Nat.eq_of_beq_eq_true hn
    obtain ⟨⟨q1, q2, q3, q4⟩, hq, hck⟩ := List.any_eq_true.mp hck
    simp only [Bool.and_eq_true] at hck
    obtain ⟨⟨e1, e2⟩, e3⟩ := hck
    have hlink := va_Nw.use (A := args) rfl (hE.2.2.2.2.2 _ hq)
    intro lsA H locs cells slots h1 h2 h3 h4 h5 h6 h7 h8 h9
    have hq' : (q1, q2, q3, q4) = (0, 103, 66, "WAY_X") ∨ (q1, q2, q3, q4) = (0, 106, 67, "WAY_Y") := by simpa [mm_pG] using hq
    rcases hq' with hq' | hq'
    · cases hq'
      cases Nat.eq_of_beq_eq_true e1; cases Nat.eq_of_beq_eq_true e2; cases Nat.eq_of_beq_eq_true e3
      exact va_getsN hx hb hE.1.1 h4 hown hlink (fun _ q => q) hdec (hk _ _ _ h lsA H locs cells slots h1 h2 h3 h4 h5 h6 h7 h8 h9)
    · cases hq'
      cases Nat.eq_of_beq_eq_true e1; cases Nat.eq_of_beq_eq_true e2; cases Nat.eq_of_beq_eq_true e3
      exact va_getsN hx hb hE.1.2.1 h4 hown hlink (fun _ q => q) hdec (hk _ _ _ h lsA H locs cells slots h1 h2 h3 h4 h5 h6 h7 h8 h9)
  case iaload =>
    simp only [mm_ck1] at hck
    cases Nat.eq_of_beq_eq_true hck
    dsimp only [mm_x] at h
    split at h
    · exact mm_s_iald X hdec (mm_ild_mono (fun _ => hk _ _ _) h)
    · exact h.elim
  case baload =>
    simp only [mm_ck1] at hck
    cases Nat.eq_of_beq_eq_true hck
    dsimp only [mm_x] at h
    split at h
    · exact mm_s_bald X hdec (mm_ild_mono (fun _ => hk _ _ _) h)
    · exact h.elim
  case laload =>
    simp only [mm_ck1] at hck
    cases Nat.eq_of_beq_eq_true hck
    dsimp only [mm_x] at h
    split at h
    · exact mm_s_lald X hdec (mm_lld_mono (fun _ => hk _ _ _) h)
    · exact h.elim
  case aaload =>
    simp only [mm_ck1] at hck
    cases Nat.eq_of_beq_eq_true hck
    dsimp only [mm_x] at h
    split at h
    · exact mm_s_aald X hdec (mm_ald_mono (fun _ => hk _ _ _) h)
    · exact h.elim
  case iastore =>
    simp only [mm_ck1] at hck
    cases Nat.eq_of_beq_eq_true hck
    dsimp only [mm_x] at h
    split at h
    · exact mm_s_iast X hdec (mm_ist_mono (fun _ => hk _ _ _) h)
    · exact h.elim
  case bastore =>
    simp only [mm_ck1] at hck
    cases Nat.eq_of_beq_eq_true hck
    dsimp only [mm_x] at h
    split at h
    · exact mm_s_bast X hdec (mm_ist_mono (fun _ => hk _ _ _) h)
    · exact h.elim
  case lastore =>
    simp only [mm_ck1] at hck
    cases Nat.eq_of_beq_eq_true hck
    dsimp only [mm_x] at h
    split at h
    · exact mm_s_last X hdec (mm_lst_mono (fun _ => hk _ _ _) h)
    · exact h.elim
  case arraylength =>
    simp only [mm_ck1] at hck
    cases Nat.eq_of_beq_eq_true hck
    obtain ⟨r, st, rfl, h⟩ := mm_a1_inv h
    exact mm_s_alen X hdec (mm_len_mono (fun _ => hk _ _ _) h)
  case goto t =>
    simp only [mm_ck1, Bool.and_eq_true, decide_eq_true_eq] at hck
    obtain ⟨hn, hck⟩ := hck
    cases Nat.eq_of_beq_eq_true hn
    intro lsA H locs cells slots h1 h2 h3 h4 h5 h6 h7 h8 h9
    exact lv_goto hx hb hdec hck (hK _ _ _ _ h lsA H locs cells slots h1 h2 h3 h4 h5 h6 h7 h8 h9)
  case ifCond cd t =>
    simp only [mm_ck1, Bool.and_eq_true, decide_eq_true_eq] at hck
    obtain ⟨hn, hck⟩ := hck
    cases Nat.eq_of_beq_eq_true hn
    obtain ⟨x, r, rfl, h⟩ := mm_p1_inv h
    intro lsA H locs cells slots h1 h2 h3 h4 h5 h6 h7 h8 h9
    cases cd
    · exact lv_if_eq hx hb hdec hck (fun z => hK _ _ _ _ (h.1 z) lsA H locs cells slots h1 h2 h3 h4 h5 h6 h7 h8 h9) (fun z => hk _ _ _ (h.2 z) lsA H locs cells slots h1 h2 h3 h4 h5 h6 h7 h8 h9)
    · exact lv_if_ne hx hb hdec hck (fun z => hK _ _ _ _ (h.1 z) lsA H locs cells slots h1 h2 h3 h4 h5 h6 h7 h8 h9) (fun z => hk _ _ _ (h.2 z) lsA H locs cells slots h1 h2 h3 h4 h5 h6 h7 h8 h9)
    · exact lv_if_lt hx hb hdec hck (fun z => hK _ _ _ _ (h.1 z) lsA H locs cells slots h1 h2 h3 h4 h5 h6 h7 h8 h9) (fun z => hk _ _ _ (h.2 z) lsA H locs cells slots h1 h2 h3 h4 h5 h6 h7 h8 h9)
    · exact lv_if_ge hx hb hdec hck (fun z => hK _ _ _ _ (h.1 z) lsA H locs cells slots h1 h2 h3 h4 h5 h6 h7 h8 h9) (fun z => hk _ _ _ (h.2 z) lsA H locs cells slots h1 h2 h3 h4 h5 h6 h7 h8 h9)
    · exact lv_if_gt hx hb hdec hck (fun z => hK _ _ _ _ (h.1 z) lsA H locs cells slots h1 h2 h3 h4 h5 h6 h7 h8 h9) (fun z => hk _ _ _ (h.2 z) lsA H locs cells slots h1 h2 h3 h4 h5 h6 h7 h8 h9)
    · exact lv_if_le hx hb hdec hck (fun z => hK _ _ _ _ (h.1 z) lsA H locs cells slots h1 h2 h3 h4 h5 h6 h7 h8 h9) (fun z => hk _ _ _ (h.2 z) lsA H locs cells slots h1 h2 h3 h4 h5 h6 h7 h8 h9)
  case if_icmp cd t =>
    simp only [mm_ck1, Bool.and_eq_true, decide_eq_true_eq] at hck
    obtain ⟨hn, hck⟩ := hck
    cases Nat.eq_of_beq_eq_true hn
    obtain ⟨x, y, r, rfl, h⟩ := mm_p2_inv h
    intro lsA H locs cells slots h1 h2 h3 h4 h5 h6 h7 h8 h9
    cases cd
    · exact lv_icmp_eq hx hb hdec hck (fun z => hK _ _ _ _ (h.1 z) lsA H locs cells slots h1 h2 h3 h4 h5 h6 h7 h8 h9) (fun z => hk _ _ _ (h.2 z) lsA H locs cells slots h1 h2 h3 h4 h5 h6 h7 h8 h9)
    · exact lv_icmp_ne hx hb hdec hck (fun z => hK _ _ _ _ (h.1 z) lsA H locs cells slots h1 h2 h3 h4 h5 h6 h7 h8 h9) (fun z => hk _ _ _ (h.2 z) lsA H locs cells slots h1 h2 h3 h4 h5 h6 h7 h8 h9)
    · exact lv_icmp_lt hx hb hdec hck (fun z => hK _ _ _ _ (h.1 z) lsA H locs cells slots h1 h2 h3 h4 h5 h6 h7 h8 h9) (fun z => hk _ _ _ (h.2 z) lsA H locs cells slots h1 h2 h3 h4 h5 h6 h7 h8 h9)
    · exact lv_icmp_ge hx hb hdec hck (fun z => hK _ _ _ _ (h.1 z) lsA H locs cells slots h1 h2 h3 h4 h5 h6 h7 h8 h9) (fun z => hk _ _ _ (h.2 z) lsA H locs cells slots h1 h2 h3 h4 h5 h6 h7 h8 h9)
    · exact lv_icmp_gt hx hb hdec hck (fun z => hK _ _ _ _ (h.1 z) lsA H locs cells slots h1 h2 h3 h4 h5 h6 h7 h8 h9) (fun z => hk _ _ _ (h.2 z) lsA H locs cells slots h1 h2 h3 h4 h5 h6 h7 h8 h9)
    · exact lv_icmp_le hx hb hdec hck (fun z => hK _ _ _ _ (h.1 z) lsA H locs cells slots h1 h2 h3 h4 h5 h6 h7 h8 h9) (fun z => hk _ _ _ (h.2 z) lsA H locs cells slots h1 h2 h3 h4 h5 h6 h7 h8 h9)
  case tableswitch d lo hi os =>
    simp only [mm_ck1, Bool.and_eq_true, decide_eq_true_eq] at hck
    obtain ⟨⟨hc1, hcs⟩, hc2⟩ := hck
    obtain ⟨x, r, rfl, h⟩ := mm_p1_inv h
    intro lsA H locs cells slots h1 h2 h3 h4 h5 h6 h7 h8 h9
    by_cases hlo : x.toInt < lo
    · exact lv_tableOut hx hb hdec (Or.inl hlo) (Int.toNat_of_nonneg hc1).symm (hK _ _ _ _ (h.1 (Or.inl hlo)) lsA H locs cells slots h1 h2 h3 h4 h5 h6 h7 h8 h9)
    by_cases hhi : hi < x.toInt
    · exact lv_tableOut hx hb hdec (Or.inr hhi) (Int.toNat_of_nonneg hc1).symm (hK _ _ _ _ (h.1 (Or.inr hhi)) lsA H locs cells slots h1 h2 h3 h4 h5 h6 h7 h8 h9)
    have hsz : (x.toInt - lo).toNat < os.size := by omega
    have ho : os[(x.toInt - lo).toNat]? = some os[(x.toInt - lo).toNat] := Array.getElem?_eq_getElem hsz
    have hnn : 0 ≤ (pc : Int) + os[(x.toInt - lo).toNat] := by have := (Array.all_eq_true.mp hc2) _ hsz; simpa using this
    exact lv_tableIn hx hb hdec hlo hhi ho (Int.toNat_of_nonneg hnn).symm (hK _ _ _ _ (h.2 _ hlo hhi ho) lsA H locs cells slots h1 h2 h3 h4 h5 h6 h7 h8 h9)
  case invokevirtual t =>
    simp only [mm_ck1] at hck
    cases Nat.eq_of_beq_eq_true hck
    exact hI ls st σ _ trivial h (fun s' τ => hk _ _ _)
  case invokestatic t =>
    simp only [mm_ck1] at hck
    cases Nat.eq_of_beq_eq_true hck
    exact hI ls st σ _ trivial h (fun s' τ => hk _ _ _)
  case ireturn =>
    simp only [mm_ck1] at hck
    cases Nat.eq_of_beq_eq_true hck
    dsimp only [mm_x] at h
    split at h
    · split at h
      · exact hR _ _ _ h.2 (fun _ => h.1)
      · rename_i hne
        exact hR _ _ _ h (fun z => absurd z hne)
    · exact h.elim
  case lreturn =>
    simp only [mm_ck1] at hck
    cases Nat.eq_of_beq_eq_true hck
    dsimp only [mm_x] at h
    split at h
    · exact hR _ _ _ h trivial
    · exact h.elim
  case return_ =>
    simp only [mm_ck1] at hck
    cases Nat.eq_of_beq_eq_true hck
    dsimp only [mm_x] at h
    split at h
    · exact hR _ _ _ h trivial
    · exact h.elim
end MMY
