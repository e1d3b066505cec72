/-! stores into arrays; the check of an instruction; one instruction of the small machine is one of the real one -/
section MMU
variable {p : Program} {l : Launch} {e : Env} {R : Room} {s : State} {m : MethodId} {args : Array Value} {below : List Frame} {meth : Method} {c : Code} {own : Nat} {cc : ByteArray} {D : va_G} {cA : Nat → ClassId} {ad adV : Nat → Nat} {A : Nat → Prop} {L : Nat} {xs : Nat → Int32} {mc ms : Nat} {Q : State → Prop} {pc : Nat} {ls : mmL} {st : List Value} {σ : mmS}
/-- ldc_w of a String constant -/
theorem mm_ldcwS {H : Heap} {locs : List Loc} {cells slots : Nat} {lsA : Array Slot} {rest : List Value} (hexec : p.tables.exec = Jvm.exec) (hb : c.code = cc) {own tx : String} {index q : Nat} (hown : s.vm.findClass own = some m.cls) (hZ : vk_R own index tx q s) (hdg : decode cc pc = .ok (.ldc_w index, 3))
    (k : W p l e R s m args below meth c H locs cells slots Q (F0 m (pc + 3) lsA (.ref q :: rest))) : W p l e R s m args below meth c H locs cells slots Q (F0 m pc lsA rest) := by
  intro T hT X
  obtain ⟨t, a1, b1⟩ := k T hT X
  refine ⟨t, ?_, b1⟩
  obtain ⟨kc, cf, i, a', hk, hcf, hcp, -, hr, hev'⟩ := Cond.stringRef_spec hown hZ.1
  cases hZ.2.symm.trans hev'
  obtain ⟨k', hk', he⟩ := X.warmed.alike.2.2 _ _ hk
  have hr' : k'.resolved[index]? = some (some (.string q)) := by
    rcases X.warmed.entry hk hk' index with h | ⟨h, -⟩
    · rw [h]; exact hr
    · rw [hr] at h; cases h
  have hdg' : decode c.code pc = .ok (.ldc_w index, 3) := by rw [hb]; exact hdg
  jvm_step X.here [hexec, hdg', ldc_w.wp_string (e := e) (s := T) (f := F0 m pc lsA rest) X.here.top hk' (by rw [he]; exact hcf) hcp hr']
  exact a1
theorem mm_up_at {I : mmI} {r k : Nat} {x : Int32} : mm_up I r k x r = upd (I r) k x := if_pos rfl
theorem mm_upJ_at {I : mmJ} {r k : Nat} {x : Int64} : mm_upJ I r k x r = vp_updL (I r) k x := if_pos rfl
theorem mm_bool_nar {x : Int32} (h : x = 0 ∨ x = 1) : vp_nar .boolean x = x := by rcases h with rfl | rfl <;> rfl
theorem mm_s_iast (X : mm_c p s m args c own cc D cA ad adV A L xs) {r : Nat} {i x : Int32} (hd : decode cc pc = .ok (.iastore, 1)) (h : mm_ist 0 r i x σ fun τ => mm_g p l e R s m args below meth c D cA ad A L xs mc ms Q (pc + 1) ls st τ) : mm_g p l e R s m args below meth c D cA ad A L xs mc ms Q pc ls (.int x :: .int i :: .ref r :: st) σ := by
  intro lsA H locs cells slots h1 h2 h3 h4 h5 h6 h7 h8 h9
  obtain ⟨hx, hb, hown, hts, hK, hE, hL⟩ := X
  obtain ⟨reg, kd, n, rf, ht, hv, h⟩ := mm_at_in h
  have hcase : kd = 20 ∧ vp_in i n ∧ mm_g p l e R s m args below meth c D cA ad A L xs mc ms Q (pc + 1) ls st (σ.1, mm_up σ.2.1 r i.toNatClampNeg x, σ.2.2) := by
    revert h; split <;> first | (intro q; exact ⟨rfl, q⟩) | (intro q; exact q.elim) | (exfalso; omega)
  obtain ⟨rfl, q1, q2⟩ := hcase
  obtain ⟨q0, hq0, hw⟩ := mm_W_arr (ad := ad) (cA := cA) ht hv (by omega) (by omega)
  refine va_iast hx hb hK h2 h3 h4 q0 0 hw rfl q1 hd fun H1 locs1 g1 g2 g3 => ?_
  have hs := mm_W_set (cA := cA) (σ := σ) (τ := (σ.1, mm_up σ.2.1 r i.toNatClampNeg x, σ.2.2)) (e := mm_ar ad cA (σ.1, mm_up σ.2.1 r i.toNatClampNeg x, σ.2.2) r 20 n rf) rfl h3 hq0 (mm_cell_arr ht (by omega)) (fun j hj => mm_cell_up hj)
  simp only [mm_ar, mm_up_at] at hs
  rw [hs] at g1 g2
  exact q2 lsA H1 locs1 cells slots h1 g1 g2 g3 (mm_cst_up h5 ht (by omega)) h6 h7 h8 h9
theorem mm_s_bast (X : mm_c p s m args c own cc D cA ad adV A L xs) {r : Nat} {i x : Int32} (hd : decode cc pc = .ok (.bastore, 1)) (h : mm_ist 1 r i x σ fun τ => mm_g p l e R s m args below meth c D cA ad A L xs mc ms Q (pc + 1) ls st τ) : mm_g p l e R s m args below meth c D cA ad A L xs mc ms Q pc ls (.int x :: .int i :: .ref r :: st) σ := by
  intro lsA H locs cells slots h1 h2 h3 h4 h5 h6 h7 h8 h9
  obtain ⟨hx, hb, hown, hts, hK, hE, hL⟩ := X
  obtain ⟨reg, kd, n, rf, ht, hv, h⟩ := mm_at_in h
  have hcase : (kd = 22 ∧ vp_in i n ∧ mm_g p l e R s m args below meth c D cA ad A L xs mc ms Q (pc + 1) ls st (σ.1, mm_up σ.2.1 r i.toNatClampNeg x.toInt8.toInt32, σ.2.2)) ∨ (kd = 23 ∧ (x = 0 ∨ x = 1) ∧ vp_in i n ∧ mm_g p l e R s m args below meth c D cA ad A L xs mc ms Q (pc + 1) ls st (σ.1, mm_up σ.2.1 r i.toNatClampNeg x, σ.2.2)) := by
    revert h; split <;> first | (intro q; exact Or.inl ⟨rfl, q⟩) | (intro q; exact Or.inr ⟨rfl, q⟩) | (intro q; exact q.elim) | (exfalso; omega)
  rcases hcase with ⟨rfl, q1, q2⟩ | ⟨rfl, q3, q1, q2⟩
  · obtain ⟨q0, hq0, hw⟩ := mm_W_arr (ad := ad) (cA := cA) ht hv (by omega) (by omega)
    refine va_bast hx hb hK h2 h3 h4 q0 2 hw rfl q1 hd fun H1 locs1 g1 g2 g3 => ?_
    rw [vp_nar_byte] at g1 g2
    have hs := mm_W_set (cA := cA) (σ := σ) (τ := (σ.1, mm_up σ.2.1 r i.toNatClampNeg x.toInt8.toInt32, σ.2.2)) (e := mm_ar ad cA (σ.1, mm_up σ.2.1 r i.toNatClampNeg x.toInt8.toInt32, σ.2.2) r 22 n rf) rfl h3 hq0 (mm_cell_arr ht (by omega)) (fun j hj => mm_cell_up hj)
    simp only [mm_ar, mm_up_at] at hs
    rw [hs] at g1 g2
    exact q2 lsA H1 locs1 cells slots h1 g1 g2 g3 (mm_cst_up h5 ht (by omega)) h6 h7 h8 h9
  · obtain ⟨q0, hq0, hw⟩ := mm_W_arr (ad := ad) (cA := cA) ht hv (by omega) (by omega)
    refine va_zast hx hb hK h2 h3 h4 q0 3 hw rfl q1 hd fun H1 locs1 g1 g2 g3 => ?_
    rw [mm_bool_nar q3] at g1 g2
    have hs := mm_W_set (cA := cA) (σ := σ) (τ := (σ.1, mm_up σ.2.1 r i.toNatClampNeg x, σ.2.2)) (e := mm_ar ad cA (σ.1, mm_up σ.2.1 r i.toNatClampNeg x, σ.2.2) r 23 n rf) rfl h3 hq0 (mm_cell_arr ht (by omega)) (fun j hj => mm_cell_up hj)
    simp only [mm_ar, mm_up_at] at hs
    rw [hs] at g1 g2
    exact q2 lsA H1 locs1 cells slots h1 g1 g2 g3 (mm_cst_up h5 ht (by omega)) h6 h7 h8 h9
theorem mm_s_last (X : mm_c p s m args c own cc D cA ad adV A L xs) {r : Nat} {i : Int32} {x : Int64} (hd : decode cc pc = .ok (.lastore, 1)) (h : mm_lst r i x σ fun τ => mm_g p l e R s m args below meth c D cA ad A L xs mc ms Q (pc + 1) ls st τ) : mm_g p l e R s m args below meth c D cA ad A L xs mc ms Q pc ls (.long x :: .int i :: .ref r :: st) σ := by
  intro lsA H locs cells slots h1 h2 h3 h4 h5 h6 h7 h8 h9
  obtain ⟨hx, hb, hown, hts, hK, hE, hL⟩ := X
  obtain ⟨reg, kd, n, rf, ht, hv, h⟩ := mm_at_in h
  have hcase : kd = 21 ∧ vp_in i n ∧ mm_g p l e R s m args below meth c D cA ad A L xs mc ms Q (pc + 1) ls st (σ.1, σ.2.1, mm_upJ σ.2.2 r i.toNatClampNeg x) := by
    revert h; split <;> first | (intro q; exact ⟨rfl, q⟩) | (intro q; exact q.elim)
  obtain ⟨rfl, q1, q2⟩ := hcase
  obtain ⟨q0, hq0, hw⟩ := mm_W_arr (ad := ad) (cA := cA) ht hv (by omega) (by omega)
  refine va_last hx hb hK h2 h3 h4 q0 1 hw rfl q1 hd fun H1 locs1 g1 g2 g3 => ?_
  have hs := mm_W_set (cA := cA) (σ := σ) (τ := (σ.1, σ.2.1, mm_upJ σ.2.2 r i.toNatClampNeg x)) (e := mm_ar ad cA (σ.1, σ.2.1, mm_upJ σ.2.2 r i.toNatClampNeg x) r 21 n rf) rfl h3 hq0 (mm_cell_arr ht (by omega)) (fun j hj => mm_cell_upJ hj)
  simp only [mm_ar, mm_upJ_at] at hs
  rw [hs] at g1 g2
  exact q2 lsA H1 locs1 cells slots h1 g1 g2 g3 h5 h6 h7 h8 h9
end MMU
/-- the kind of a field: its code, and whether ints only of 0 and 1 go into it -/
def mm_fty (ci k : Nat) : Option FieldType := parseFieldDescriptor (mm_fn ci k).2.2.1
def mm_hasF (own x a b : Nat) : Bool := (mm_pF.any fun q => Nat.beq q.1 own && Nat.beq q.2.1 x && Nat.beq q.2.2.1 a && Nat.beq q.2.2.2.1 b) || (mm_pN.any fun q => Nat.beq q.1 own && Nat.beq q.2.1 x && Nat.beq q.2.2.1 a && Nat.beq q.2.2.2.1 b)
theorem mm_hasF_lk {own x a b : Nat} (h : mm_hasF own x a b = true) : mm_lk own x a b := by
  unfold mm_hasF at h
  rw [Bool.or_eq_true] at h
  rcases h with h | h
  · obtain ⟨⟨q1, q2, q3, q4, q5⟩, hq, h⟩ := List.any_eq_true.mp h
    simp only [Bool.and_eq_true] at h
    obtain ⟨⟨⟨e1, e2⟩, e3⟩, e4⟩ := h
    cases Nat.eq_of_beq_eq_true e1; cases Nat.eq_of_beq_eq_true e2; cases Nat.eq_of_beq_eq_true e3; cases Nat.eq_of_beq_eq_true e4
    exact Or.inl ⟨q5, hq⟩
  · obtain ⟨⟨q1, q2, q3, q4, q5⟩, hq, h⟩ := List.any_eq_true.mp h
    simp only [Bool.and_eq_true] at h
    obtain ⟨⟨⟨e1, e2⟩, e3⟩, e4⟩ := h
    cases Nat.eq_of_beq_eq_true e1; cases Nat.eq_of_beq_eq_true e2; cases Nat.eq_of_beq_eq_true e3; cases Nat.eq_of_beq_eq_true e4
    exact Or.inr ⟨q5, hq⟩
/-- is the instruction what it is said to be; calls and ends are checked apart -/
def mm_ck1 (own : Nat) (pc : Nat) (q : mmE) : Bool := match q with
  | (i, n, a, b, c, v, w) => match i with
    | .iconst t => Nat.beq n 1 && decide (Int32.ofInt t = v)
    | .bipush t => Nat.beq n 2 && decide ((Int8.ofInt t).toInt32 = v)
    | .sipush t => Nat.beq n 3 && decide ((Int16.ofInt t).toInt32 = v)
    | .ldc x => Nat.beq n 2 && match a with
      | 0 => mm_pI.any fun q => Nat.beq q.1 own && Nat.beq q.2.1 x && decide (q.2.2.1 = v)
      | t + 1 => mm_pS.any fun q => Nat.beq q.1 own && Nat.beq q.2.1 x && Nat.beq q.2.2.1 t
    | .ldc_w x => Nat.beq n 3 && match a with
      | 0 => mm_pI.any fun q => Nat.beq q.1 own && Nat.beq q.2.1 x && decide (q.2.2.1 = v)
      | t + 1 => mm_pS.any fun q => Nat.beq q.1 own && Nat.beq q.2.1 x && Nat.beq q.2.2.1 t
    | .ldc2_w x => Nat.beq n 3 && mm_pL.any fun q => Nat.beq q.1 own && Nat.beq q.2.1 x && decide (q.2.2.1 = w)
    | .lconst t => Nat.beq n 1 && decide (Int64.ofNat t.val = w)
    | .iload_n _ => Nat.beq n 1
    | .iload _ => Nat.beq n 2
    | .lload_n _ => Nat.beq n 1
    | .lload _ => Nat.beq n 2
    | .aload_n _ => Nat.beq n 1
    | .aload _ => Nat.beq n 2
    | .istore_n _ => Nat.beq n 1
    | .istore _ => Nat.beq n 2
    | .lstore_n _ => Nat.beq n 1
    | .lstore _ => Nat.beq n 2
    | .astore_n _ => Nat.beq n 1
    | .astore _ => Nat.beq n 2
    | .iinc _ t => Nat.beq n 3 && decide (Int32.ofInt t = v)
    | .getfield x => Nat.beq n 3 && Nat.blt a 11 && Nat.blt b (mm_F.getD a []).length && Nat.beq ((mm_F.getD a []).getD b 0) c && mm_hasF own x a b
    | .putfield x => Nat.beq n 3 && Nat.blt a 11 && Nat.blt b (mm_F.getD a []).length && mm_hasF own x a b && !(mm_fn a b).2.2.2 && match c with
      | 0 => decide (mm_fty a b = some .int) && Nat.beq ((mm_F.getD a []).getD b 0) 0
      | 1 => decide (mm_fty a b = some .long) && Nat.beq ((mm_F.getD a []).getD b 0) 1
      | 5 => decide (mm_fty a b = some .boolean) && Nat.beq ((mm_F.getD a []).getD b 0) 0
      | 3 => decide (mm_fty a b = some (.object "ThreeBreaths$Cake")) && Nat.beq ((mm_F.getD a []).getD b 0) 3 && Nat.beq a 0 && Nat.beq b 0
      | 4 => decide (mm_fty a b = some (.object "ThreeBreaths$Cake")) && Nat.beq ((mm_F.getD a []).getD b 0) 4 && Nat.beq a 6 && Nat.beq b 13
      | _ => false
    | .getstatic x => Nat.beq n 3 && mm_pG.any fun q => Nat.beq q.1 own && Nat.beq q.2.1 x && Nat.beq q.2.2.1 a
    | .goto o => Nat.beq n 3 && decide ((pc : Int) + o = (a : Int))
    | .ifCond _ o => Nat.beq n 3 && decide ((pc : Int) + o = (a : Int))
    | .if_icmp _ o => Nat.beq n 3 && decide ((pc : Int) + o = (a : Int))
    | .tableswitch d lo hi os => decide (0 ≤ (pc : Int) + d) && decide (hi < lo + (os.size : Int)) && os.all fun o => decide (0 ≤ (pc : Int) + o)
    | .invokevirtual _ => Nat.beq n 3
    | .invokestatic _ => Nat.beq n 3
    | _ => Nat.beq n 1
/-- a whole row of instructions decodes to what it is said to be -/
def mm_ckr (own : Nat) (cc : ByteArray) : List mmE → Nat → Bool
  | [], _ => true
  | q :: r, pc => decide (decode cc pc = .ok (q.1, q.2.1)) && mm_ck1 own pc q && mm_ckr own cc r (pc + q.2.1)
