/-! the contract of every method of the program, out of what the small machine asks for -/
theorem mm_ent_args {ad : Nat → Nat} : ∀ (vs : List Value) (k i : Nat) (v : Value), (mm_ent vs)[i]? = some (some v) → (k + i, mm_tr ad v) ∈ lv_args k (vs.map (mm_tr ad))
  | [], _, i, v, h => by simp [mm_ent] at h
  | u :: r, k, i, v, h => by
    unfold mm_ent at h
    show (k + i, mm_tr ad v) ∈ (k, mm_tr ad u) :: lv_args (if (mm_tr ad u).category = 2 then k + 2 else k + 1) (r.map (mm_tr ad))
    rw [mm_tr_cat]
    by_cases hc : u.category = 2
    · rw [if_pos hc] at h
      rw [if_pos hc]
      match i, h with
      | 0, h => cases h; exact List.mem_cons_self
      | 1, h => cases h
      | j + 2, h =>
        have := mm_ent_args (ad := ad) r (k + 2) j v (by simpa using h)
        exact List.mem_cons_of_mem _ (by rw [show k + (j + 2) = k + 2 + j by omega]; exact this)
    · rw [if_neg hc] at h
      rw [if_neg hc]
      match i, h with
      | 0, h => cases h; exact List.mem_cons_self
      | j + 1, h =>
        have := mm_ent_args (ad := ad) r (k + 1) j v (by simpa using h)
        exact List.mem_cons_of_mem _ (by rw [show k + (j + 1) = k + 1 + j by omega]; exact this)
theorem mm_ent_len {ad : Nat → Nat} : ∀ (vs : List Value), (lg_sl (vs.map (mm_tr ad))).length = (mm_ent vs).length
  | [] => rfl
  | u :: r => by
    have ih := mm_ent_len (ad := ad) r
    unfold mm_ent
    show (lg_sl (mm_tr ad u :: r.map (mm_tr ad))).length = _
    unfold lg_sl at ih ⊢
    rw [List.flatMap_cons, List.length_append, ih, mm_tr_cat]
    by_cases hc : u.category = 2
    · rw [if_pos hc, if_pos hc]; simp; omega
    · rw [if_neg hc, if_neg hc]; simp; omega
/-- the locals at a method's entry -/
theorem mm_lr_entry {ad : Nat → Nat} {vs : List Value} {n : Nat} (h : (mm_ent vs).length ≤ n) : mm_lr ad ((lg_sl (vs.map (mm_tr ad)) ++ List.replicate (n - (lg_sl (vs.map (mm_tr ad))).length) Slot.unset).toArray) (mm_loc n vs) := by
  have hl := lv_entry (vs.map (mm_tr ad)) (n := n) (by rw [mm_ent_len]; exact h)
  refine ⟨?_, hl.2.1, fun i v hv => ?_⟩
  · rw [hl.1]; unfold mm_loc; rw [List.length_append, List.length_replicate]; omega
  · unfold mm_loc at hv
    have hi : i < (mm_ent vs).length := by
      by_cases hi : i < (mm_ent vs).length
      · exact hi
      · rw [List.getElem?_append_right (by omega)] at hv
        have := List.mem_of_getElem? hv
        simp at this
    rw [List.getElem?_append_left hi] at hv
    have := mm_ent_args (ad := ad) vs 0 i v hv
    rw [Nat.zero_add] at this
    exact hl.2.2 _ this
/-- what the contract of a method is -/
def mm_Met (l : Launch) (d : Nat) (m : mmM) (D : va_G) (cA : Nat → ClassId) (adV : Nat → Nat) (A : Nat → Prop) (L : Nat) (xs : Nat → Int32) (σ : mmS) (vs : List Value) (Q : mmQ) : Prop :=
  Met l m.1 (Cond.code m.1 m.2.1 m.2.2.1 m.2.2.2.1 :: mm_ws) (mm_rm d σ.1.2.1 σ.1.2.2.1) (va_Pc (vs.map (mm_tr σ.1.2.2.2.2.2)) (mm_pre D cA σ.1.2.2.2.2.2 adV A L xs σ)) (mm_qc (mm_rt m.2.2.2.1) Q σ.1.2.2.2.2.2 D cA A L xs) σ.1.2.1 σ.1.2.2.1 A
section MMM
variable {p : Program} {l : Launch} {e : Env} {s : State} {m : MethodId} {args : Array Value} {below : List Frame} {meth : Method} {c : Code} {own : Nat} {cc : ByteArray} {D : va_G} {cA : Nat → ClassId} {ad adV : Nat → Nat} {A : Nat → Prop} {L : Nat} {xs : Nat → Int32} {mc ms : Nat} {Q : State → Prop} {pc : Nat} {st : List Value} {σ : mmS}
/-- the picture at a callee's start -/
theorem mm_pre_of (X : mm_c p s m args c own cc D cA ad adV A L xs) (hAA : ∀ z, s.heap.size ≤ z → A z) {H : Heap} {locs : List Loc} (h2 : va_P D vwCl (mm_W ad cA σ) H) (h3 : va_D A (mm_W ad cA σ)) (h4 : va_S A s.heap H locs) (h5 : mm_cst L xs σ) (x y : Nat) :
    ∀ U : State, U.heap = H → s.WarmedH U.vm → mm_pre D cA ad adV A L xs (mm_bud σ x y) U := by
  intro U hU hW
  obtain ⟨hx, hb, hown, hts, hK, hE, hL⟩ := X
  refine ⟨by rw [hU]; exact h2, va_K.moved hW.alike hK, h3, mm_env_kept hE hW (by rw [hU]; exact h4.1) (fun a g1 g2 => by rw [hU]; exact h4.2.1 a g1 g2), h5, fun z hz => hAA z (Nat.le_trans h4.1 (by rw [← hU]; exact hz))⟩
/-- a call of a method of the program -/
theorem mm_ctP {d : Nat} (X : mm_c p s m args c own cc D cA ad adV A L xs) (hAA : ∀ z, s.heap.size ≤ z → A z) {q : mmE} {ret : Option FieldType} (hd : decode cc pc = .ok (q.1, 3)) (hck : mm_ck2 own ret q = true) (hI : mm_isI q.1) {mm : mmM} (hm : mm_P[q.2.2.1]? = some mm) (hcat : mm_cat (st.drop q.2.2.2.1) ≤ 8) (h8 : σ.1.2.2.2.2.2 = ad)
    {x y : Nat} {Qm : mmQ} (hrc : mm_rcv mm (st.take q.2.2.2.1).reverse (mm_bud σ x y) = true) (hM : mm_Met l d mm D cA adV A L xs (mm_bud σ x y) (st.take q.2.2.2.1).reverse Qm) : mm_ct p l e (mm_rm (d + 1) mc ms) s m args below meth c D cA ad A L xs mc ms pc q.2.2.1 q.2.2.2.1 q.2.2.2.2.1 st σ x y Qm := by
  obtain ⟨i, n, a, b, k, v, w⟩ := q
  dsimp only at hm hd hrc hM hcat ⊢
  obtain ⟨f1, f2, f3, f4, f5, f6, f7, f8, f9, -, -⟩ := mm_mf_of hm
  have hyn : mm_yn a = (mm.1, mm.2.2.2.2.2.2.1, mm_rt mm.2.2.2.1) := by unfold mm_yn; rw [hm]
  have hst : mm_stat a = mm.2.2.2.2.2.1 := by unfold mm_stat; rw [hm]
  intro lsA H locs cells slots h2 h3 h4 h5 hc1 hc2 h9
  have hpre := mm_pre_of X hAA h2 h3 h4 h5 x y
  obtain ⟨hx, hb, hown, hts, hK, hE, hL⟩ := X
  unfold mm_Met at hM
  have e8 : (mm_bud σ x y).1.2.2.2.2.2 = ad := h8
  rw [e8] at hM
  have hgood : ∀ w ∈ (Cond.code mm.1 mm.2.1 mm.2.2.1 mm.2.2.2.1 :: mm_ws), ∀ (a' : Array Value) (U : State), s.WarmedH U.vm → w.before a' U = true := pay_in hts (mm_ws_good (fun _ h => h) f1)
  unfold mm_rcv at hrc
  simp only [Bool.and_eq_true] at hrc
  obtain ⟨⟨r1, r2⟩, r3⟩ := hrc
  have r1 := Nat.eq_of_beq_eq_true r1
  have r2 := Nat.le_of_ble_eq_true r2
  have hsplit : st = (st.take b) ++ st.drop b := (List.take_append_drop b st).symm
  cases i <;> first | exact hI.elim | skip
  case invokevirtual xx =>
    simp only [mm_ck2, Bool.and_eq_true, Bool.not_eq_true', hyn, hst] at hck
    obtain ⟨⟨⟨k1, k2⟩, k3⟩, k4⟩ := hck
    have k2 := Nat.eq_of_beq_eq_true k2
    have k3 := Nat.eq_of_beq_eq_true k3
    subst k3
    have hlink := mm_mem_pM k1
    rw [hyn] at hlink
    obtain ⟨g1, g2, g3, g4⟩ := f3 k4
    rw [k4, Bool.false_or] at r3
    cases hv : (st.take b).reverse with
    | nil => rw [hv] at r3; cases r3
    | cons u As =>
      rw [hv] at r3 r1 hM
      cases u <;> first | cases r3 | skip
      rename_i r
      dsimp only at r3
      cases hT : mm_T[r]? with
      | none => rw [hT] at r3; cases r3
      | some z =>
        obtain ⟨reg, kd, nn, rf⟩ := z
        rw [hT] at r3
        simp only [Bool.and_eq_true] at r3
        have hkd := Nat.eq_of_beq_eq_true r3.1
        obtain ⟨C, T, N, hcl, -, -, -, -, hcn⟩ := mm_clf_of g4
        obtain ⟨q0, -, hw⟩ := mm_W_get (ad := ad) (cA := cA) (σ := σ) (mm_in_of hT r3.2 (by omega))
        rw [mm_cell_obj hT (by omega), hkd] at hw
        have hrecv := va_recv hK h2 hcl hw
        have hCC : C = mm.1.cls := by rw [← hcn, f7]
        have htake : st.take b = As.reverse ++ [.ref r] := by
          have := congrArg List.reverse hv
          rw [List.reverse_reverse] at this
          rw [this, List.reverse_cons]
        refine ⟨_, va_runV (As := As.map (mm_tr ad)) (rest := (st.drop b).map (mm_tr ad)) (b := ad r) (C := C) (n := As.length) ⟨hx, hb, h9.symm, hown, hts⟩ hM ⟨⟨rfl, rfl, ?_, ?_, hgood, List.mem_cons_self, hts _ f1, hts _ f4, f5, ?_, hts _ hlink⟩, hts _ g1, ?_⟩ ⟨mm_pre_blind, hrecv, fun U hU hW => ⟨rfl, hpre U hU hW⟩⟩ rfl (List.length_map ..) rfl ?_ ?_ hd ⟨hc1, hc2⟩⟩
        · show 8 * d + 1 ≤ 8 * (d + 1); omega
        · show 8 + (mm.2.2.1 + 11) + 400 * d ≤ 400 * (d + 1); omega
        · intro sig hs
          rw [hs] at g3
          have : sig.parameters.length + 1 = mm.2.2.2.2.2.2.1 := Option.some.inj g3
          have r1' : (Value.ref r :: As).length = mm.2.2.2.2.2.2.1 := r1
          rw [List.length_cons] at r1'
          omega
        · rw [hCC]; exact hts _ g2
        · show st.map (mm_tr ad) = (As.map (mm_tr ad)).reverse ++ .ref (ad r) :: (st.drop b).map (mm_tr ad)
          conv => lhs; rw [hsplit, htake]
          rw [List.map_append, List.map_append, List.map_reverse, List.append_assoc]; rfl
        · exact lv_room (by rw [mm_cat_map]; exact hcat)
  case invokestatic xx =>
    simp only [mm_ck2, Bool.and_eq_true, hyn, hst] at hck
    obtain ⟨⟨⟨k1, k2⟩, k3⟩, k4⟩ := hck
    have k2 := Nat.eq_of_beq_eq_true k2
    have k3 := Nat.eq_of_beq_eq_true k3
    subst k3
    have hlink := mm_mem_pM k1
    rw [hyn] at hlink
    obtain ⟨g1, g3⟩ := f2 k4
    refine ⟨_, va_runS (As := ((st.take b).reverse).map (mm_tr ad)) (rest := (st.drop b).map (mm_tr ad)) (n := (st.take b).reverse.length) ⟨hx, hb, h9.symm, hown, hts⟩ hM ⟨⟨rfl, rfl, ?_, ?_, hgood, List.mem_cons_self, hts _ f1, hts _ f4, f5, ?_, hts _ hlink⟩, hts _ g1⟩ ⟨mm_pre_blind, fun U hU hW => ⟨rfl, hpre U hU hW⟩⟩ rfl (List.length_map ..) rfl ?_ ?_ hd ⟨hc1, hc2⟩⟩
    · show 8 * d + 1 ≤ 8 * (d + 1); omega
    · show 8 + (mm.2.2.1 + 11) + 400 * d ≤ 400 * (d + 1); omega
    · intro sig hs
      rw [hs] at g3
      have : sig.parameters.length = mm.2.2.2.2.2.2.1 := Option.some.inj g3
      omega
    · show st.map (mm_tr ad) = (((st.take b).reverse).map (mm_tr ad)).reverse ++ (st.drop b).map (mm_tr ad)
      conv => lhs; rw [hsplit]
      rw [List.map_append, List.map_reverse, List.reverse_reverse]
    · exact lv_room (by rw [mm_cat_map]; exact hcat)
end MMM
