/-! parts that are made when they are first asked for -/
theorem mm_rng {w v : va_W} : (List.range w.length).map (fun i => (w ++ v)[i]?) = w.map some := by
  apply List.ext_getElem?
  intro i
  rw [List.getElem?_map, List.getElem?_map]
  by_cases h : i < w.length
  · rw [List.getElem?_range h]
    show some ((w ++ v)[i]?) = _
    rw [List.getElem?_append_left h, List.getElem?_eq_getElem h]; rfl
  · rw [List.getElem?_eq_none (by rw [List.length_range]; omega), List.getElem?_eq_none (by omega)]; rfl
theorem mm_nd_of : ∀ {l : List Nat}, l.Nodup → va_nd l = true
  | [], _ => rfl
  | a :: l, h => by
    show (decide (a ∉ l) && va_nd l) = true
    rw [List.nodup_cons] at h
    rw [mm_nd_of h.2, Bool.and_true]
    exact decide_eq_true h.1
theorem mm_nd_rng {n : Nat} : va_nd (List.range n) = true := mm_nd_of List.nodup_range
theorem mm_last {w : va_W} {x : Nat × va_E} : [w.length].map (fun i => (w ++ [x])[i]?) = [x].map some := by simp
theorem mm_lastF {w : va_W} {x : Nat × va_E} : [w.length].filterMap (fun i => (w ++ [x])[i]?) = [x] := by simp
theorem mm_ix_nd {g : mmG} : (mm_ix g).Nodup := List.nodup_range.filter _
/-- a world in another order -/
theorem mm_world {D : va_G} {A : Nat → Prop} {F : Nat → Nat × va_E} {R S : List Nat} {H : Heap} (hS : S.Nodup) (hsub : ∀ r, r ∈ S → r ∈ R) (hP : va_P D vwCl (R.map F) H) (hD : va_D A (R.map F)) : va_P D vwCl (S.map F) H ∧ va_D A (S.map F) := by
  have key : ∀ (k : Nat) (q : Nat × va_E), (S.map F)[k]? = some q → ∃ r i : Nat, S[k]? = some r ∧ R[i]? = some r ∧ q = F r := by
    intro k q h
    rw [List.getElem?_map] at h
    cases hs : S[k]? with
    | none => rw [hs] at h; cases h
    | some r =>
      rw [hs] at h; cases h
      obtain ⟨i, hi⟩ := List.getElem?_of_mem (hsub r (List.mem_of_getElem? hs))
      exact ⟨r, i, rfl, hi, rfl⟩
  have up : ∀ (i r : Nat), R[i]? = some r → (R.map F)[i]? = some (F r) := fun i r h => by rw [List.getElem?_map, h]; rfl
  refine ⟨fun k q h => ?_, fun i j p q hi hj e => ?_, fun k q h => ?_⟩
  · obtain ⟨r, i, h1, h2, rfl⟩ := key k q h
    exact hP i _ (up i r h2)
  · obtain ⟨r1, i1, a1, b1, rfl⟩ := key i p hi
    obtain ⟨r2, i2, a2, b2, rfl⟩ := key j q hj
    have hij := hD.1 i1 i2 _ _ (up _ _ b1) (up _ _ b2) e
    subst hij
    have : r1 = r2 := Option.some.inj (b1.symm.trans b2)
    subst this
    have l1 := (List.getElem?_eq_some_iff.mp a1).1
    exact (List.getElem?_inj l1 hS).mp (a1.trans a2.symm)
  · obtain ⟨r, i, h1, h2, rfl⟩ := key k q h
    exact hD.2 i _ (up i r h2)
/-- the addresses with a new part's -/
def mm_ad2 (lo hi : Nat) (u ad : Nat → Nat) : Nat → Nat := fun r => if lo ≤ r ∧ r < hi then u r else ad r
theorem mm_ad2_out {lo hi r : Nat} {u ad : Nat → Nat} (h : r < lo ∨ hi ≤ r) : mm_ad2 lo hi u ad r = ad r := if_neg fun q => by omega
/-- the cells that were there, but the first, are as they were -/
def mm_old (lo hi : Nat) (r : Nat) : Bool := match mm_T[r]? with
  | some (_, kd, _, rf) => rf.all (fun t => Nat.blt t lo || Nat.ble hi t) && (Nat.ble 20 kd || (mm_F.getD kd []).all fun c => Nat.ble c 4) && Nat.beq kd 24 == false || (lo ≤ r && r < hi) || (match kd with | 24 => rf.all (fun t => Nat.blt t lo || Nat.ble hi t) | _ => false)
  | none => true
theorem mm_zr_out {lo hi r : Nat} {I : mmI} (h : r < lo ∨ hi ≤ r) : mm_zr lo hi I r = I r := if_neg fun q => by omega
theorem mm_getD_all {rf : List Nat} {k lo hi : Nat} (h0 : 0 < lo) (h : ∀ t ∈ rf, t < lo ∨ hi ≤ t) : rf.getD k 0 < lo ∨ hi ≤ rf.getD k 0 := by
  rw [List.getD_eq_getElem?_getD]
  cases e : rf[k]? with
  | none => exact Or.inl h0
  | some t => exact h t (List.mem_of_getElem? e)
theorem mm_ck_lt {b : Bool} : mm_ck b 0 < 70 := by cases b <;> decide
theorem mm_cell_old {ad u : Nat → Nat} {cA : Nat → ClassId} {σ σ' : mmS} {lo hi r reg kd n : Nat} {rf : List Nat} (hlo : 70 ≤ lo) (hT : mm_T[r]? = some (reg, kd, n, rf)) (hr : r < lo ∨ hi ≤ r) (hrf : ∀ t ∈ rf, t < lo ∨ hi ≤ t) (hF : kd < 20 → ∀ c ∈ mm_F.getD kd [], c ≤ 4)
    (h1 : σ'.2.1 = mm_zr lo hi σ.2.1) (h2 : σ'.2.2 = σ.2.2) (h3 : σ'.1.2.2.2.1 = σ.1.2.2.2.1) (h4 : σ'.1.2.2.2.2.1 = σ.1.2.2.2.2.1) : mm_cell (mm_ad2 lo hi u ad) cA σ' r = mm_cell ad cA σ r := by
  have hI : σ'.2.1 r = σ.2.1 r := by rw [h1]; exact mm_zr_out hr
  have hg : ∀ k, mm_ad2 lo hi u ad (rf.getD k 0) = ad (rf.getD k 0) := fun k => mm_ad2_out (mm_getD_all (by omega) hrf)
  have hc : ∀ b, mm_ad2 lo hi u ad (mm_ck b 0) = ad (mm_ck b 0) := fun b => mm_ad2_out (Or.inl (by have := mm_ck_lt (b := b); omega))
  unfold mm_cell
  rw [hT]
  dsimp only
  split
  · rename_i hk
    have hk : kd < 20 := Nat.le_of_ble_eq_true hk
    congr 2
    unfold mm_fs
    apply List.map_congr_left
    intro k hkm
    have hkl := List.mem_range.mp hkm
    have hcode : (mm_F.getD kd []).getD k 0 ≤ 4 := by
      have hF := hF hk
      generalize mm_F.getD kd [] = Fl at hF hkl
      refine hF _ ?_
      rw [List.getD_eq_getElem?_getD, List.getElem?_eq_getElem hkl]
      exact List.getElem_mem _
    generalize hcd : (mm_F.getD kd []).getD k 0 = cd at hcode
    match cd, hcode with
    | 0, _ => show Value.int _ = Value.int _; rw [hI]
    | 1, _ => show Value.long _ = Value.long _; rw [h2]
    | 2, _ => show Value.ref _ = Value.ref _; rw [hg]
    | 3, _ => show Value.ref _ = Value.ref _; rw [h3, hc]
    | 4, _ => show Value.ref _ = Value.ref _; rw [h4, hc]
  · split
    · rw [hI]
    · rw [h2]
    · rw [hI]
    · rw [hI]
    · have he : (fun i : Nat => (rf[i]?).map (mm_ad2 lo hi u ad)) = fun i : Nat => (rf[i]?).map ad := by
        funext i
        cases e : rf[i]? with
        | none => rfl
        | some t =>
          show some (mm_ad2 lo hi u ad t) = some (ad t)
          rw [mm_ad2_out (hrf t (List.mem_of_getElem? e))]
      rw [he]
theorem mm_fs_set2 {ad ad' : Nat → Nat} {σ τ : mmS} {r kd k : Nat} {rf : List Nat} {v : Value} (hv : mm_val ad' τ r k ((mm_F.getD kd []).getD k 0) rf = v) (ho : ∀ j, j < (mm_F.getD kd []).length → j ≠ k → mm_val ad' τ r j ((mm_F.getD kd []).getD j 0) rf = mm_val ad σ r j ((mm_F.getD kd []).getD j 0) rf) : (mm_fs ad σ r kd rf).set k v = mm_fs ad' τ r kd rf := by
  apply List.ext_getElem?
  intro i
  rw [List.getElem?_set]
  by_cases hi : k = i
  · subst hi
    rw [if_pos rfl, mm_fs_len]
    split
    · rename_i h; rw [mm_fs_get h, hv]
    · rename_i h
      exact (List.getElem?_eq_none (by rw [mm_fs_len]; omega)).symm
  · rw [if_neg hi]
    by_cases hl : i < (mm_F.getD kd []).length
    · rw [mm_fs_get hl, mm_fs_get hl, ho i hl (Ne.symm hi)]
    · rw [List.getElem?_eq_none (by rw [mm_fs_len]; omega), List.getElem?_eq_none (by rw [mm_fs_len]; omega)]
/-- which cells there are when flag k is set -/
theorem mm_ix_more {g : mmG} {k : Nat} {NL : List Nat} (hNL : ∀ r, r < 115 → (match mm_T[r]? with | some (reg, kd, _, _) => !(Nat.blt kd 30 && Nat.beq reg (k + 1)) || NL.contains r | none => true) = true) (g' : mmG) (hg : g'.1 = fun j => if j = k then true else g.1 j) : ∀ r, r ∈ mm_ix g' → r ∈ mm_ix g ++ NL := by
  intro r hr
  unfold mm_ix at hr
  rw [List.mem_filter] at hr
  obtain ⟨h1, h2⟩ := hr
  have h3 := hNL r (List.mem_range.mp h1)
  unfold mm_in at h2
  cases hT : mm_T[r]? with
  | none => rw [hT] at h2; cases h2
  | some z =>
    obtain ⟨reg, kd, n, rf⟩ := z
    rw [hT] at h2 h3
    simp only [Bool.and_eq_true] at h2
    dsimp only at h3
    by_cases e : reg = k + 1
    · subst e
      rw [h2.1, Bool.true_and] at h3
      have : Nat.beq (k + 1) (k + 1) = true := Nat.beq_refl _
      rw [this, Bool.not_true, Bool.false_or] at h3
      exact List.mem_append_right _ (List.contains_iff_mem.mp h3)
    · refine List.mem_append_left _ (List.mem_filter.mpr ⟨h1, ?_⟩)
      unfold mm_in
      rw [hT]
      show (Nat.blt kd 30 && mm_lv g reg) = true
      rw [h2.1, Bool.true_and]
      have h4 := h2.2
      unfold mm_lv at h4 ⊢
      cases reg with
      | zero => rfl
      | succ j =>
        dsimp only at h4 ⊢
        rw [hg] at h4
        dsimp only at h4
        rw [if_neg (fun q => e (by omega))] at h4
        exact h4
theorem dz_searching_0 : decode cX9_searching 0 = .ok (.aload_n 0, 1) := by decide +kernel
theorem dz_searching_1 : decode cX9_searching 1 = .ok (.getfield 320, 3) := by decide +kernel
theorem dz_searching_4 : decode cX9_searching 4 = .ok (.ifnonnull 18, 3) := by decide +kernel
theorem dz_searching_7 : decode cX9_searching 7 = .ok (.aload_n 0, 1) := by decide +kernel
theorem dz_searching_8 : decode cX9_searching 8 = .ok (.new 194, 3) := by decide +kernel
theorem dz_searching_11 : decode cX9_searching 11 = .ok (.dup, 1) := by decide +kernel
theorem dz_searching_12 : decode cX9_searching 12 = .ok (.aload_n 0, 1) := by decide +kernel
theorem dz_searching_13 : decode cX9_searching 13 = .ok (.getfield 19, 3) := by decide +kernel
theorem dz_searching_16 : decode cX9_searching 16 = .ok (.invokespecial 324, 3) := by decide +kernel
theorem dz_searching_19 : decode cX9_searching 19 = .ok (.putfield 320, 3) := by decide +kernel
theorem dz_searching_22 : decode cX9_searching 22 = .ok (.aload_n 0, 1) := by decide +kernel
theorem dz_searching_23 : decode cX9_searching 23 = .ok (.getfield 320, 3) := by decide +kernel
theorem dz_searching_26 : decode cX9_searching 26 = .ok (.areturn, 1) := by decide +kernel
set_option maxHeartbeats 2000000 in
set_option maxRecDepth 100000 in
theorem c_lz_0 (l : Launch) (dC : Nat → ClassId) (dI : Nat → Nat → Nat) (cA : Nat → ClassId) (adV : Nat → Nat) (A : Nat → Prop) (L : Nat) (xs : Nat → Int32) (σ : mmS) (Q : mmQ) (h : mm_lz 0 70 11 53657 70 81 σ Q) : Met l yX9_searching (Cond.code yX9_searching cX9_searching 1 (some (.object "ThreeBreaths$Search")) :: mm_ws) ({ frames := 6, cells := σ.1.2.1, slots := σ.1.2.2.1, locals := 300 }) (va_Pc [.ref (σ.1.2.2.2.2.2 0)] (mm_pre (dC, dI) cA σ.1.2.2.2.2.2 adV A L xs σ)) (mm_qc 3 Q σ.1.2.2.2.2.2 (dC, dI) cA A L xs) σ.1.2.1 σ.1.2.2.1 A := by
  refine Met.ofW (cc := cX9_searching) (maxL := 1) (ret := (some (.object "ThreeBreaths$Search"))) (by decide) rfl ?_
  intro p e s m args below meth c s₁ B hml hv
  obtain ⟨rfl, hP, hK, hD, hE, hcst, hAA⟩ := hv
  have hx := B.exec
  have hb := B.bytes
  have hr := B.returns
  have hts0 := atoms_spec (ws := Cond.code yX9_searching cX9_searching 1 (some (.object "ThreeBreaths$Search")) :: mm_ws) B.pre
  have hts : ∀ w ∈ mm_ws, w.before ([Value.ref (σ.1.2.2.2.2.2 0)].toArray) s = true := fun w hw => hts0 w (List.mem_cons_of_mem _ hw)
  have hown : s.vm.findClass RX9 = some m.cls := findClass_of_methodNamed B.named
  have hlocks := B.notSynchronized
  have hS : va_S A s.heap s.heap [] := va_S.rf
  have hl := lv_entry ([Value.ref (σ.1.2.2.2.2.2 0)]) (n := 1) (Nat.le_of_ble_eq_true rfl)
  rw [lg_entry_eq]
  generalize (lg_sl ([Value.ref (σ.1.2.2.2.2.2 0)]) ++ List.replicate (1 - (lg_sl ([Value.ref (σ.1.2.2.2.2.2 0)])).length) Slot.unset).toArray = ls at hl ⊢
  have hl : lv_has ls 1 [(0, .ref (σ.1.2.2.2.2.2 0))] := hl
  generalize had : σ.1.2.2.2.2.2 = ad at hP hD hE hl hts ⊢
  obtain ⟨q0, hq0, hw0⟩ := mm_W_get (ad := ad) (cA := cA) (σ := σ) (r := 0) rfl
  have hw0 : (mm_W ad cA σ)[q0]? = some (ad 0, .inr (9, mm_fs ad σ 0 9 [1, 0, 6, 15, 70, 81, 96, 0, 0, 0])) := hw0
  refine lv_aload_n hx hb dz_searching_0 rfl (lv_at hl 0 rfl) ?_
  unfold mm_lz at h
  cases hfl : σ.1.1 0 with
  | true =>
    rw [hfl] at h
    have hv : (mm_fs ad σ 0 9 [1, 0, 6, 15, 70, 81, 96, 0, 0, 0])[4]? = some (.ref (ad 70)) := by
      rw [mm_fs_get (show 4 < _ by decide)]
      show some (match σ.1.1 0 with | true => Value.ref (ad 70) | false => .null) = _
      rw [hfl]
    refine va_get (D := (dC, dI)) hx hb hts mm_i9 hown hK hP q0 hw0 rfl 4 (by decide) (hts _ (mm_pF_ws (e := (9, 320, 9, 4, 432)) (List.mem_of_getElem? (i := 55) rfl))) (fun _ h9 => h9) (v := .ref (ad 70)) hv dz_searching_1 ?_
    refine lv_ifnonnull (tgt := 22) hx hb dz_searching_4 rfl ?_
    refine lv_aload_n hx hb dz_searching_22 rfl (lv_at hl 0 rfl) ?_
    refine va_get (D := (dC, dI)) hx hb hts mm_i9 hown hK hP q0 hw0 rfl 4 (by decide) (hts _ (mm_pF_ws (e := (9, 320, 9, 4, 432)) (List.mem_of_getElem? (i := 55) rfl))) (fun _ h9 => h9) (v := .ref (ad 70)) hv dz_searching_23 ?_
    refine W.widen (k := σ.1.2.1) (n := σ.1.2.2.1) (by omega) (by omega) ?_
    exact W.aret hx hb hr (Or.inl ⟨_, rfl⟩) (Or.inr ⟨_, rfl⟩) (fun t ht hW => ⟨⟨σ, ad 70, rfl, by show mm_ag ad σ.1.2.2.2.2.2; rw [had]; exact mm_ag.refl, ⟨70, by rw [had], h⟩, by rw [had, ht]; exact hP, va_K.moved hW.alike hK, by rw [had]; exact hD, hcst⟩, hS.F ht⟩) hS.2.2 dz_searching_26
  | false =>
    rw [hfl] at h
    obtain ⟨hn, hz, h⟩ := h
    have hv : (mm_fs ad σ 0 9 [1, 0, 6, 15, 70, 81, 96, 0, 0, 0])[4]? = some .null := by
      rw [mm_fs_get (show 4 < _ by decide)]
      show some (match σ.1.1 0 with | true => Value.ref (ad 70) | false => .null) = _
      rw [hfl]
    have hvb : (mm_fs ad σ 0 9 [1, 0, 6, 15, 70, 81, 96, 0, 0, 0])[2]? = some (.ref (ad 6)) := mm_fs_get (show 2 < _ by decide)
    refine va_get (D := (dC, dI)) hx hb hts mm_i9 hown hK hP q0 hw0 rfl 4 (by decide) (hts _ (mm_pF_ws (e := (9, 320, 9, 4, 432)) (List.mem_of_getElem? (i := 55) rfl))) (fun _ h9 => h9) (v := .null) hv dz_searching_1 ?_
    refine lv_ifnonnullN hx hb dz_searching_4 ?_
    refine lv_aload_n hx hb dz_searching_7 rfl (lv_at hl 0 rfl) ?_
    refine va_new (ci := 7) (fs := [.null, .null, .null, .null, .null, .int 0, .null, .null, .null, .int 0, .int 0, .int 0, .int 0, .int 0]) (C := RX7) (T := TX7) (N := 14) hx hb hts mm_i7 tyX7 tyX7_ok hown (hts _ wq_cl_9_194) (hts _ wq_in_7) (hts _ wq_it_7) hK hP hD hS hAA rfl (fun j hj => by have := mm_lt_cases14 j hj; rcases this with rfl | rfl | rfl | rfl | rfl | rfl | rfl | rfl | rfl | rfl | rfl | rfl | rfl | rfl <;> rfl) (by show 0 + 1 ≤ σ.1.2.1; omega) (by show 0 + 14 ≤ σ.1.2.2.1; omega) dz_searching_8 (fun q H hP hD hS => ?_)
    refine lv_dup hx hb dz_searching_11 rfl ?_
    refine lv_aload_n hx hb dz_searching_12 rfl (lv_at hl 0 rfl) ?_
    have hq0l := (List.getElem?_eq_some_iff.mp hw0).1
    have hw1 : ∀ v : va_W, (mm_W ad cA σ ++ v)[q0]? = some (ad 0, .inr (9, mm_fs ad σ 0 9 [1, 0, 6, 15, 70, 81, 96, 0, 0, 0])) := fun v => by rw [List.getElem?_append_left hq0l]; exact hw0
    refine va_get (D := (dC, dI)) hx hb hts mm_i9 hown hK hP q0 (hw1 _) rfl 2 (by decide) (hts _ (mm_pF_ws (e := (9, 19, 9, 2, 430)) (List.mem_of_getElem? (i := 53) rfl))) (fun _ h9 => h9) (v := .ref (ad 6)) hvb dz_searching_13 ?_
    have hPc := hP.sub (ws' := [(q, .inr (7, [.null, .null, .null, .null, .null, .int 0, .null, .null, .null, .int 0, .int 0, .int 0, .int 0, .int 0]))]) [(mm_W ad cA σ).length] mm_lastF
    have hDc := hD.sub (ws' := [(q, .inr (7, [.null, .null, .null, .null, .null, .int 0, .null, .null, .null, .int 0, .int 0, .int 0, .int 0, .int 0]))]) [(mm_W ad cA σ).length] rfl mm_last
    have hFc := va_free (wc := [(q, .inr (7, [.null, .null, .null, .null, .null, .int 0, .null, .null, .null, .int 0, .int 0, .int 0, .int 0, .int 0]))]) hD hS hAA [(mm_W ad cA σ).length] mm_last
    refine va_callv (va_runI (As := [.ref (ad 6)]) (rest := [.ref q, .ref (ad 0)]) (Ts := mm_ws) ⟨hx, hb, hml, hown, hts⟩ (c_init_7 l dC dI cA q H.size (ad 6)) ⟨mm_cb2 hts wq_ic_7 wq_it_7 wq_mi_9_324 rfl rfl (by decide) (by show _ = some 1; decide +kernel) ⟨Nat.le_of_ble_eq_true rfl, Nat.le_of_ble_eq_true rfl⟩, rfl, hts _ wq_ii_7⟩ ⟨mm_pj_blind, fun U hU hW => ⟨rfl, by rw [hU], by rw [hU]; exact hPc, va_K.moved hW.alike hK, hDc.weaken (fun _ _ _ _ => trivial)⟩⟩ rfl rfl hl.1 rfl (lv_room (Nat.le_of_ble_eq_true rfl)) dz_searching_16 ⟨by show 0 + 1 + 10 ≤ σ.1.2.1; omega, by show 0 + 14 + 53643 ≤ σ.1.2.2.1; omega⟩) hS (fun q _ h => hFc q h) hFc (fun u t H1 locs ht hvm hw hB hz1 hk1 hS => ?_)
    obtain ⟨hP1, hK1, hD1⟩ := hB
    rw [ht] at hP1
    obtain ⟨hP, hD⟩ := va_join (wr := mm_W ad cA σ) (w1 := w_init_7 cA q (ad 6) u) hP hD [(mm_W ad cA σ).length] (List.range (mm_W ad cA σ).length) mm_last mm_rng mm_nd_rng (fun i hi => by have := List.mem_range.mp hi; simp; omega) hk1 hFc hP1 hD1
    generalize H1 = H at hP hS ⊢
    refine va_put (D := (dC, dI)) (ci := 9) (v := .ref q) (ty := .object "ThreeBreaths$Search") (C := RX9) (T := TX9) (N := 10) hx hb hts mm_i9 tyX9 tyX9_ok nmX9 hown hK hP hD hS q0 (hw1 _) rfl 4 (by decide) (hts _ (mm_pF_ws (e := (9, 320, 9, 4, 432)) (List.mem_of_getElem? (i := 55) rfl))) (fun _ h9 => h9) rfl (by decide +kernel) rfl rfl (by rw [mm_fs_len]; decide) dz_searching_19 (fun H locs hP hD hS => ?_)
    rw [List.set_append_left _ _ hq0l] at hP hD
    -- the new addresses, the new memory
    let u9 : Nat → Nat := fun r => [q, u 5, u 6, u 7, u 8, u 9, u 10, u 1, u 2, u 3, u 4].getD (r - 70) 0
    have hnew : w_init_7 cA q (ad 6) u = ([70, 77, 78, 79, 80, 71, 72, 73, 74, 75, 76] : List Nat).map fun r => (mm_ad2 70 81 u9 ad r, mm_cell (mm_ad2 70 81 u9 ad) cA (((fun j => if j = 0 then true else σ.1.1 j), σ.1.2.1 - 11, σ.1.2.2.1 - 53657, σ.1.2.2.2.1, σ.1.2.2.2.2.1, mm_ad2 70 81 u9 ad), mm_zr 70 81 σ.2.1, σ.2.2) r) := rfl
    have hflags : ∀ j, (((fun j => if j = 0 then true else σ.1.1 j), σ.1.2.1 - 11, σ.1.2.2.1 - 53657, σ.1.2.2.2.1, σ.1.2.2.2.2.1, mm_ad2 70 81 u9 ad) : mmG).1 j = if j = 0 then true else σ.1.1 j := fun _ => rfl
    generalize hτ : (((fun j => if j = 0 then true else σ.1.1 j), σ.1.2.1 - 11, σ.1.2.2.1 - 53657, σ.1.2.2.2.1, σ.1.2.2.2.2.1, mm_ad2 70 81 u9 ad), mm_zr 70 81 σ.2.1, σ.2.2) = τ at hnew
    have hold : (mm_W ad cA σ).set q0 (ad 0, .inr (9, (mm_fs ad σ 0 9 [1, 0, 6, 15, 70, 81, 96, 0, 0, 0]).set 4 (.ref q))) = (mm_ix σ.1).map fun r => (mm_ad2 70 81 u9 ad r, mm_cell (mm_ad2 70 81 u9 ad) cA τ r) := by
      have e0 : mm_cell (mm_ad2 70 81 u9 ad) cA τ 0 = .inr (9, (mm_fs ad σ 0 9 [1, 0, 6, 15, 70, 81, 96, 0, 0, 0]).set 4 (.ref q)) := by
        rw [mm_fs_set2 (ad' := mm_ad2 70 81 u9 ad) (τ := τ) (by subst hτ; rfl) ?_]
        · rfl
        · intro j hj hne
          have hj : j < 10 := hj
          subst hτ
          have := mm_lt_cases10 j hj
          rcases this with rfl | rfl | rfl | rfl | rfl | rfl | rfl | rfl | rfl | rfl <;> first | rfl | exact absurd rfl hne
      apply List.ext_getElem?
      intro i
      rw [List.getElem?_set, List.getElem?_map]
      by_cases hi : q0 = i
      · subst hi
        rw [if_pos rfl, if_pos hq0l, hq0]
        show _ = some (mm_ad2 70 81 u9 ad 0, mm_cell (mm_ad2 70 81 u9 ad) cA τ 0)
        rw [e0]; rfl
      · rw [if_neg hi]
        unfold mm_W
        rw [List.getElem?_map]
        cases hx9 : (mm_ix σ.1)[i]? with
        | none => rfl
        | some r =>
          have hrin := (List.mem_filter.mp (List.mem_of_getElem? hx9 : r ∈ mm_ix σ.1))
          have hr115 := List.mem_range.mp hrin.1
          have hne : r ≠ 0 := fun e9 => by
            subst e9
            exact hi ((List.getElem?_inj (List.getElem?_eq_some_iff.mp hq0).1 mm_ix_nd).mp (hq0.trans hx9.symm))
          have hchk : ∀ r, r < 115 → r ≠ 0 → (match mm_T[r]? with | some (reg, kd, _, rf) => Nat.ble 30 kd || ((Nat.beq reg 1 == (Nat.ble 70 r && Nat.blt r 81)) && (Nat.beq reg 1 || (rf.all (fun t => Nat.blt t 70 || Nat.ble 81 t) && (Nat.ble 20 kd || (mm_F.getD kd []).all fun c => Nat.ble c 4)))) | none => true) = true := by decide +kernel
          have hc9 := hchk r hr115 hne
          have hin9 := hrin.2
          unfold mm_in at hin9
          cases hT : mm_T[r]? with
          | none => rw [hT] at hin9; cases hin9
          | some zz =>
            obtain ⟨reg, kd, nn, rf⟩ := zz
            rw [hT] at hin9 hc9
            simp only [Bool.and_eq_true] at hin9
            have h30 : Nat.ble 30 kd = false := by
              cases hb9 : Nat.ble 30 kd with
              | false => rfl
              | true =>
                have a1 := Nat.le_of_ble_eq_true hb9
                have a2 : kd < 30 := Nat.le_of_ble_eq_true hin9.1
                omega
            have hreg : Nat.beq reg 1 = false := by
              cases hb9 : Nat.beq reg 1 with
              | false => rfl
              | true =>
                have a1 := Nat.eq_of_beq_eq_true hb9
                subst a1
                have a2 : σ.1.1 0 = true := hin9.2
                rw [hfl] at a2; cases a2
            dsimp only at hc9
            rw [h30, hreg, Bool.false_or, Bool.false_or, Bool.and_eq_true, Bool.and_eq_true] at hc9
            obtain ⟨c1, c2, c3⟩ := hc9
            have hout : r < 70 ∨ 81 ≤ r := by
              by_cases z1 : 70 ≤ r
              · by_cases z2 : r < 81
                · have b1 : Nat.ble 70 r = true := Nat.ble_eq_true_of_le z1
                  have b2 : Nat.blt r 81 = true := Nat.ble_eq_true_of_le z2
                  rw [b1, b2] at c1; cases c1
                · omega
              · omega
            show some (ad r, mm_cell ad cA σ r) = some (mm_ad2 70 81 u9 ad r, mm_cell (mm_ad2 70 81 u9 ad) cA τ r)
            rw [mm_ad2_out hout, mm_cell_old (σ := σ) (σ' := τ) (by omega) hT hout (fun t ht9 => ?_) (fun hk9 c hc => ?_) (by subst hτ; rfl) (by subst hτ; rfl) (by subst hτ; rfl) (by subst hτ; rfl)]
            · have := List.all_eq_true.mp c2 t ht9
              rw [Bool.or_eq_true] at this
              exact this.imp Nat.le_of_ble_eq_true Nat.le_of_ble_eq_true
            · have k20 : Nat.ble 20 kd = false := by
                cases hb9 : Nat.ble 20 kd with
                | false => rfl
                | true => have := Nat.le_of_ble_eq_true hb9; omega
              rw [k20, Bool.false_or] at c3
              exact Nat.le_of_ble_eq_true (List.all_eq_true.mp c3 c hc)
    rw [hold, hnew, ← List.map_append] at hP hD
    have hix := mm_ix_more (g := σ.1) (k := 0) (NL := [70, 77, 78, 79, 80, 71, 72, 73, 74, 75, 76]) (by decide +kernel) τ.1 (by subst hτ; rfl)
    obtain ⟨hP, hD⟩ := mm_world (S := mm_ix τ.1) mm_ix_nd hix hP hD
    have hP : va_P (dC, dI) vwCl (mm_W (mm_ad2 70 81 u9 ad) cA τ) H := hP
    have hD : va_D A (mm_W (mm_ad2 70 81 u9 ad) cA τ) := hD
    have hadτ : τ.1.2.2.2.2.2 = mm_ad2 70 81 u9 ad := by subst hτ; rfl
    have hag : mm_ag ad (mm_ad2 70 81 u9 ad) := fun r hr9 => mm_ad2_out (by omega)
    have hcst2 : mm_cst L xs τ := by
      subst hτ
      exact hcst
    have hQ := h (mm_ad2 70 81 u9 ad) (fun r hr9 => (mm_ad2_out hr9).trans (by rw [had]))
    refine lv_aload_n hx hb dz_searching_22 rfl (lv_at hl 0 rfl) ?_
    obtain ⟨q1, hq1, hw2⟩ := mm_W_get (ad := mm_ad2 70 81 u9 ad) (cA := cA) (σ := τ) (r := 0) rfl
    have hw2 : (mm_W (mm_ad2 70 81 u9 ad) cA τ)[q1]? = some (ad 0, .inr (9, mm_fs (mm_ad2 70 81 u9 ad) τ 0 9 [1, 0, 6, 15, 70, 81, 96, 0, 0, 0])) := hw2
    have hv2 : (mm_fs (mm_ad2 70 81 u9 ad) τ 0 9 [1, 0, 6, 15, 70, 81, 96, 0, 0, 0])[4]? = some (.ref q) := by subst hτ; rfl
    refine va_get (D := (dC, dI)) hx hb hts mm_i9 hown hK hP q1 hw2 rfl 4 (by decide) (hts _ (mm_pF_ws (e := (9, 320, 9, 4, 432)) (List.mem_of_getElem? (i := 55) rfl))) (fun _ h9 => h9) (v := .ref q) hv2 dz_searching_23 ?_
    refine W.widen (k := σ.1.2.1) (n := σ.1.2.2.1) (by omega) (by omega) ?_
    exact W.aret hx hb hr (Or.inl ⟨_, rfl⟩) (Or.inr ⟨_, rfl⟩) (fun t ht hW => ⟨⟨τ, q, rfl, by show mm_ag ad τ.1.2.2.2.2.2; rw [hadτ]; exact hag, ⟨70, by rw [hadτ]; rfl, by rw [← hτ]; exact hQ⟩, by rw [hadτ, ht]; exact hP, va_K.moved hW.alike hK, by rw [hadτ]; exact hD, hcst2⟩, hS.F ht⟩) hS.2.2 dz_searching_26
theorem dz_tracing_0 : decode cX9_tracing 0 = .ok (.aload_n 0, 1) := by decide +kernel
theorem dz_tracing_1 : decode cX9_tracing 1 = .ok (.getfield 332, 3) := by decide +kernel
theorem dz_tracing_4 : decode cX9_tracing 4 = .ok (.ifnonnull 18, 3) := by decide +kernel
theorem dz_tracing_7 : decode cX9_tracing 7 = .ok (.aload_n 0, 1) := by decide +kernel
theorem dz_tracing_8 : decode cX9_tracing 8 = .ok (.new 262, 3) := by decide +kernel
theorem dz_tracing_11 : decode cX9_tracing 11 = .ok (.dup, 1) := by decide +kernel
theorem dz_tracing_12 : decode cX9_tracing 12 = .ok (.aload_n 0, 1) := by decide +kernel
theorem dz_tracing_13 : decode cX9_tracing 13 = .ok (.getfield 19, 3) := by decide +kernel
theorem dz_tracing_16 : decode cX9_tracing 16 = .ok (.invokespecial 336, 3) := by decide +kernel
theorem dz_tracing_19 : decode cX9_tracing 19 = .ok (.putfield 332, 3) := by decide +kernel
theorem dz_tracing_22 : decode cX9_tracing 22 = .ok (.aload_n 0, 1) := by decide +kernel
theorem dz_tracing_23 : decode cX9_tracing 23 = .ok (.getfield 332, 3) := by decide +kernel
theorem dz_tracing_26 : decode cX9_tracing 26 = .ok (.areturn, 1) := by decide +kernel
set_option maxHeartbeats 2000000 in
set_option maxRecDepth 100000 in
theorem c_lz_2 (l : Launch) (dC : Nat → ClassId) (dI : Nat → Nat → Nat) (cA : Nat → ClassId) (adV : Nat → Nat) (A : Nat → Prop) (L : Nat) (xs : Nat → Int32) (σ : mmS) (Q : mmQ) (h : mm_lz 2 96 2 322 96 98 σ Q) : Met l yX9_tracing (Cond.code yX9_tracing cX9_tracing 1 (some (.object "ThreeBreaths$Traces")) :: mm_ws) ({ frames := 6, cells := σ.1.2.1, slots := σ.1.2.2.1, locals := 300 }) (va_Pc [.ref (σ.1.2.2.2.2.2 0)] (mm_pre (dC, dI) cA σ.1.2.2.2.2.2 adV A L xs σ)) (mm_qc 3 Q σ.1.2.2.2.2.2 (dC, dI) cA A L xs) σ.1.2.1 σ.1.2.2.1 A := by
  refine Met.ofW (cc := cX9_tracing) (maxL := 1) (ret := (some (.object "ThreeBreaths$Traces"))) (by decide) rfl ?_
  intro p e s m args below meth c s₁ B hml hv
  obtain ⟨rfl, hP, hK, hD, hE, hcst, hAA⟩ := hv
  have hx := B.exec
  have hb := B.bytes
  have hr := B.returns
  have hts0 := atoms_spec (ws := Cond.code yX9_tracing cX9_tracing 1 (some (.object "ThreeBreaths$Traces")) :: mm_ws) B.pre
  have hts : ∀ w ∈ mm_ws, w.before ([Value.ref (σ.1.2.2.2.2.2 0)].toArray) s = true := fun w hw => hts0 w (List.mem_cons_of_mem _ hw)
  have hown : s.vm.findClass RX9 = some m.cls := findClass_of_methodNamed B.named
  have hlocks := B.notSynchronized
  have hS : va_S A s.heap s.heap [] := va_S.rf
  have hl := lv_entry ([Value.ref (σ.1.2.2.2.2.2 0)]) (n := 1) (Nat.le_of_ble_eq_true rfl)
  rw [lg_entry_eq]
  generalize (lg_sl ([Value.ref (σ.1.2.2.2.2.2 0)]) ++ List.replicate (1 - (lg_sl ([Value.ref (σ.1.2.2.2.2.2 0)])).length) Slot.unset).toArray = ls at hl ⊢
  have hl : lv_has ls 1 [(0, .ref (σ.1.2.2.2.2.2 0))] := hl
  generalize had : σ.1.2.2.2.2.2 = ad at hP hD hE hl hts ⊢
  obtain ⟨q0, hq0, hw0⟩ := mm_W_get (ad := ad) (cA := cA) (σ := σ) (r := 0) rfl
  have hw0 : (mm_W ad cA σ)[q0]? = some (ad 0, .inr (9, mm_fs ad σ 0 9 [1, 0, 6, 15, 70, 81, 96, 0, 0, 0])) := hw0
  refine lv_aload_n hx hb dz_tracing_0 rfl (lv_at hl 0 rfl) ?_
  unfold mm_lz at h
  cases hfl : σ.1.1 2 with
  | true =>
    rw [hfl] at h
    have hv : (mm_fs ad σ 0 9 [1, 0, 6, 15, 70, 81, 96, 0, 0, 0])[6]? = some (.ref (ad 96)) := by
      rw [mm_fs_get (show 6 < _ by decide)]
      show some (match σ.1.1 2 with | true => Value.ref (ad 96) | false => .null) = _
      rw [hfl]
    refine va_get (D := (dC, dI)) hx hb hts mm_i9 hown hK hP q0 hw0 rfl 6 (by decide) (hts _ (mm_pF_ws (e := (9, 332, 9, 6, 434)) (List.mem_of_getElem? (i := 57) rfl))) (fun _ h9 => h9) (v := .ref (ad 96)) hv dz_tracing_1 ?_
    refine lv_ifnonnull (tgt := 22) hx hb dz_tracing_4 rfl ?_
    refine lv_aload_n hx hb dz_tracing_22 rfl (lv_at hl 0 rfl) ?_
    refine va_get (D := (dC, dI)) hx hb hts mm_i9 hown hK hP q0 hw0 rfl 6 (by decide) (hts _ (mm_pF_ws (e := (9, 332, 9, 6, 434)) (List.mem_of_getElem? (i := 57) rfl))) (fun _ h9 => h9) (v := .ref (ad 96)) hv dz_tracing_23 ?_
    refine W.widen (k := σ.1.2.1) (n := σ.1.2.2.1) (by omega) (by omega) ?_
    exact W.aret hx hb hr (Or.inl ⟨_, rfl⟩) (Or.inr ⟨_, rfl⟩) (fun t ht hW => ⟨⟨σ, ad 96, rfl, by show mm_ag ad σ.1.2.2.2.2.2; rw [had]; exact mm_ag.refl, ⟨96, by rw [had], h⟩, by rw [had, ht]; exact hP, va_K.moved hW.alike hK, by rw [had]; exact hD, hcst⟩, hS.F ht⟩) hS.2.2 dz_tracing_26
  | false =>
    rw [hfl] at h
    obtain ⟨hn, hz, h⟩ := h
    have hv : (mm_fs ad σ 0 9 [1, 0, 6, 15, 70, 81, 96, 0, 0, 0])[6]? = some .null := by
      rw [mm_fs_get (show 6 < _ by decide)]
      show some (match σ.1.1 2 with | true => Value.ref (ad 96) | false => .null) = _
      rw [hfl]
    have hvb : (mm_fs ad σ 0 9 [1, 0, 6, 15, 70, 81, 96, 0, 0, 0])[2]? = some (.ref (ad 6)) := mm_fs_get (show 2 < _ by decide)
    refine va_get (D := (dC, dI)) hx hb hts mm_i9 hown hK hP q0 hw0 rfl 6 (by decide) (hts _ (mm_pF_ws (e := (9, 332, 9, 6, 434)) (List.mem_of_getElem? (i := 57) rfl))) (fun _ h9 => h9) (v := .null) hv dz_tracing_1 ?_
    refine lv_ifnonnullN hx hb dz_tracing_4 ?_
    refine lv_aload_n hx hb dz_tracing_7 rfl (lv_at hl 0 rfl) ?_
    refine va_new (ci := 8) (fs := [.null, .null]) (C := RX8) (T := TX8) (N := 2) hx hb hts mm_i8 tyX8 tyX8_ok hown (hts _ wq_cl_9_262) (hts _ wq_in_8) (hts _ wq_it_8) hK hP hD hS hAA rfl (fun j hj => by have := mm_lt_cases2 j hj; rcases this with rfl | rfl <;> rfl) (by show 0 + 1 ≤ σ.1.2.1; omega) (by show 0 + 2 ≤ σ.1.2.2.1; omega) dz_tracing_8 (fun q H hP hD hS => ?_)
    refine lv_dup hx hb dz_tracing_11 rfl ?_
    refine lv_aload_n hx hb dz_tracing_12 rfl (lv_at hl 0 rfl) ?_
    have hq0l := (List.getElem?_eq_some_iff.mp hw0).1
    have hw1 : ∀ v : va_W, (mm_W ad cA σ ++ v)[q0]? = some (ad 0, .inr (9, mm_fs ad σ 0 9 [1, 0, 6, 15, 70, 81, 96, 0, 0, 0])) := fun v => by rw [List.getElem?_append_left hq0l]; exact hw0
    refine va_get (D := (dC, dI)) hx hb hts mm_i9 hown hK hP q0 (hw1 _) rfl 2 (by decide) (hts _ (mm_pF_ws (e := (9, 19, 9, 2, 430)) (List.mem_of_getElem? (i := 53) rfl))) (fun _ h9 => h9) (v := .ref (ad 6)) hvb dz_tracing_13 ?_
    have hPc := hP.sub (ws' := [(q, .inr (8, [.null, .null]))]) [(mm_W ad cA σ).length] mm_lastF
    have hDc := hD.sub (ws' := [(q, .inr (8, [.null, .null]))]) [(mm_W ad cA σ).length] rfl mm_last
    have hFc := va_free (wc := [(q, .inr (8, [.null, .null]))]) hD hS hAA [(mm_W ad cA σ).length] mm_last
    refine va_callv (va_runI (As := [.ref (ad 6)]) (rest := [.ref q, .ref (ad 0)]) (Ts := mm_ws) ⟨hx, hb, hml, hown, hts⟩ (c_init_8 l dC dI cA q H.size (ad 6)) ⟨mm_cb2 hts wq_ic_8 wq_it_8 wq_mi_9_336 rfl rfl (by decide) (by show _ = some 1; decide +kernel) ⟨Nat.le_of_ble_eq_true rfl, Nat.le_of_ble_eq_true rfl⟩, rfl, hts _ wq_ii_8⟩ ⟨mm_pj_blind, fun U hU hW => ⟨rfl, by rw [hU], by rw [hU]; exact hPc, va_K.moved hW.alike hK, hDc.weaken (fun _ _ _ _ => trivial)⟩⟩ rfl rfl hl.1 rfl (lv_room (Nat.le_of_ble_eq_true rfl)) dz_tracing_16 ⟨by show 0 + 1 + 1 ≤ σ.1.2.1; omega, by show 0 + 2 + 320 ≤ σ.1.2.2.1; omega⟩) hS (fun q _ h => hFc q h) hFc (fun u t H1 locs ht hvm hw hB hz1 hk1 hS => ?_)
    obtain ⟨hP1, hK1, hD1⟩ := hB
    rw [ht] at hP1
    obtain ⟨hP, hD⟩ := va_join (wr := mm_W ad cA σ) (w1 := w_init_8 cA q (ad 6) u) hP hD [(mm_W ad cA σ).length] (List.range (mm_W ad cA σ).length) mm_last mm_rng mm_nd_rng (fun i hi => by have := List.mem_range.mp hi; simp; omega) hk1 hFc hP1 hD1
    generalize H1 = H at hP hS ⊢
    refine va_put (D := (dC, dI)) (ci := 9) (v := .ref q) (ty := .object "ThreeBreaths$Traces") (C := RX9) (T := TX9) (N := 10) hx hb hts mm_i9 tyX9 tyX9_ok nmX9 hown hK hP hD hS q0 (hw1 _) rfl 6 (by decide) (hts _ (mm_pF_ws (e := (9, 332, 9, 6, 434)) (List.mem_of_getElem? (i := 57) rfl))) (fun _ h9 => h9) rfl (by decide +kernel) rfl rfl (by rw [mm_fs_len]; decide) dz_tracing_19 (fun H locs hP hD hS => ?_)
    rw [List.set_append_left _ _ hq0l] at hP hD
    -- the new addresses, the new memory
    let u9 : Nat → Nat := fun r => [q, u 1].getD (r - 96) 0
    have hnew : w_init_8 cA q (ad 6) u = ([96, 97] : List Nat).map fun r => (mm_ad2 96 98 u9 ad r, mm_cell (mm_ad2 96 98 u9 ad) cA (((fun j => if j = 2 then true else σ.1.1 j), σ.1.2.1 - 2, σ.1.2.2.1 - 322, σ.1.2.2.2.1, σ.1.2.2.2.2.1, mm_ad2 96 98 u9 ad), mm_zr 96 98 σ.2.1, σ.2.2) r) := rfl
    have hflags : ∀ j, (((fun j => if j = 2 then true else σ.1.1 j), σ.1.2.1 - 2, σ.1.2.2.1 - 322, σ.1.2.2.2.1, σ.1.2.2.2.2.1, mm_ad2 96 98 u9 ad) : mmG).1 j = if j = 2 then true else σ.1.1 j := fun _ => rfl
    generalize hτ : (((fun j => if j = 2 then true else σ.1.1 j), σ.1.2.1 - 2, σ.1.2.2.1 - 322, σ.1.2.2.2.1, σ.1.2.2.2.2.1, mm_ad2 96 98 u9 ad), mm_zr 96 98 σ.2.1, σ.2.2) = τ at hnew
    have hold : (mm_W ad cA σ).set q0 (ad 0, .inr (9, (mm_fs ad σ 0 9 [1, 0, 6, 15, 70, 81, 96, 0, 0, 0]).set 6 (.ref q))) = (mm_ix σ.1).map fun r => (mm_ad2 96 98 u9 ad r, mm_cell (mm_ad2 96 98 u9 ad) cA τ r) := by
      have e0 : mm_cell (mm_ad2 96 98 u9 ad) cA τ 0 = .inr (9, (mm_fs ad σ 0 9 [1, 0, 6, 15, 70, 81, 96, 0, 0, 0]).set 6 (.ref q)) := by
        rw [mm_fs_set2 (ad' := mm_ad2 96 98 u9 ad) (τ := τ) (by subst hτ; rfl) ?_]
        · rfl
        · intro j hj hne
          have hj : j < 10 := hj
          subst hτ
          have := mm_lt_cases10 j hj
          rcases this with rfl | rfl | rfl | rfl | rfl | rfl | rfl | rfl | rfl | rfl <;> first | rfl | exact absurd rfl hne
      apply List.ext_getElem?
      intro i
      rw [List.getElem?_set, List.getElem?_map]
      by_cases hi : q0 = i
      · subst hi
        rw [if_pos rfl, if_pos hq0l, hq0]
        show _ = some (mm_ad2 96 98 u9 ad 0, mm_cell (mm_ad2 96 98 u9 ad) cA τ 0)
        rw [e0]; rfl
      · rw [if_neg hi]
        unfold mm_W
        rw [List.getElem?_map]
        cases hx9 : (mm_ix σ.1)[i]? with
        | none => rfl
        | some r =>
          have hrin := (List.mem_filter.mp (List.mem_of_getElem? hx9 : r ∈ mm_ix σ.1))
          have hr115 := List.mem_range.mp hrin.1
          have hne : r ≠ 0 := fun e9 => by
            subst e9
            exact hi ((List.getElem?_inj (List.getElem?_eq_some_iff.mp hq0).1 mm_ix_nd).mp (hq0.trans hx9.symm))
          have hchk : ∀ r, r < 115 → r ≠ 0 → (match mm_T[r]? with | some (reg, kd, _, rf) => Nat.ble 30 kd || ((Nat.beq reg 3 == (Nat.ble 96 r && Nat.blt r 98)) && (Nat.beq reg 3 || (rf.all (fun t => Nat.blt t 96 || Nat.ble 98 t) && (Nat.ble 20 kd || (mm_F.getD kd []).all fun c => Nat.ble c 4)))) | none => true) = true := by decide +kernel
          have hc9 := hchk r hr115 hne
          have hin9 := hrin.2
          unfold mm_in at hin9
          cases hT : mm_T[r]? with
          | none => rw [hT] at hin9; cases hin9
          | some zz =>
            obtain ⟨reg, kd, nn, rf⟩ := zz
            rw [hT] at hin9 hc9
            simp only [Bool.and_eq_true] at hin9
            have h30 : Nat.ble 30 kd = false := by
              cases hb9 : Nat.ble 30 kd with
              | false => rfl
              | true =>
                have a1 := Nat.le_of_ble_eq_true hb9
                have a2 : kd < 30 := Nat.le_of_ble_eq_true hin9.1
                omega
            have hreg : Nat.beq reg 3 = false := by
              cases hb9 : Nat.beq reg 3 with
              | false => rfl
              | true =>
                have a1 := Nat.eq_of_beq_eq_true hb9
                subst a1
                have a2 : σ.1.1 2 = true := hin9.2
                rw [hfl] at a2; cases a2
            dsimp only at hc9
            rw [h30, hreg, Bool.false_or, Bool.false_or, Bool.and_eq_true, Bool.and_eq_true] at hc9
            obtain ⟨c1, c2, c3⟩ := hc9
            have hout : r < 96 ∨ 98 ≤ r := by
              by_cases z1 : 96 ≤ r
              · by_cases z2 : r < 98
                · have b1 : Nat.ble 96 r = true := Nat.ble_eq_true_of_le z1
                  have b2 : Nat.blt r 98 = true := Nat.ble_eq_true_of_le z2
                  rw [b1, b2] at c1; cases c1
                · omega
              · omega
            show some (ad r, mm_cell ad cA σ r) = some (mm_ad2 96 98 u9 ad r, mm_cell (mm_ad2 96 98 u9 ad) cA τ r)
            rw [mm_ad2_out hout, mm_cell_old (σ := σ) (σ' := τ) (by omega) hT hout (fun t ht9 => ?_) (fun hk9 c hc => ?_) (by subst hτ; rfl) (by subst hτ; rfl) (by subst hτ; rfl) (by subst hτ; rfl)]
            · have := List.all_eq_true.mp c2 t ht9
              rw [Bool.or_eq_true] at this
              exact this.imp Nat.le_of_ble_eq_true Nat.le_of_ble_eq_true
            · have k20 : Nat.ble 20 kd = false := by
                cases hb9 : Nat.ble 20 kd with
                | false => rfl
                | true => have := Nat.le_of_ble_eq_true hb9; omega
              rw [k20, Bool.false_or] at c3
              exact Nat.le_of_ble_eq_true (List.all_eq_true.mp c3 c hc)
    rw [hold, hnew, ← List.map_append] at hP hD
    have hix := mm_ix_more (g := σ.1) (k := 2) (NL := [96, 97]) (by decide +kernel) τ.1 (by subst hτ; rfl)
    obtain ⟨hP, hD⟩ := mm_world (S := mm_ix τ.1) mm_ix_nd hix hP hD
    have hP : va_P (dC, dI) vwCl (mm_W (mm_ad2 96 98 u9 ad) cA τ) H := hP
    have hD : va_D A (mm_W (mm_ad2 96 98 u9 ad) cA τ) := hD
    have hadτ : τ.1.2.2.2.2.2 = mm_ad2 96 98 u9 ad := by subst hτ; rfl
    have hag : mm_ag ad (mm_ad2 96 98 u9 ad) := fun r hr9 => mm_ad2_out (by omega)
    have hcst2 : mm_cst L xs τ := by
      subst hτ
      exact hcst
    have hQ := h (mm_ad2 96 98 u9 ad) (fun r hr9 => (mm_ad2_out hr9).trans (by rw [had]))
    refine lv_aload_n hx hb dz_tracing_22 rfl (lv_at hl 0 rfl) ?_
    obtain ⟨q1, hq1, hw2⟩ := mm_W_get (ad := mm_ad2 96 98 u9 ad) (cA := cA) (σ := τ) (r := 0) rfl
    have hw2 : (mm_W (mm_ad2 96 98 u9 ad) cA τ)[q1]? = some (ad 0, .inr (9, mm_fs (mm_ad2 96 98 u9 ad) τ 0 9 [1, 0, 6, 15, 70, 81, 96, 0, 0, 0])) := hw2
    have hv2 : (mm_fs (mm_ad2 96 98 u9 ad) τ 0 9 [1, 0, 6, 15, 70, 81, 96, 0, 0, 0])[6]? = some (.ref q) := by subst hτ; rfl
    refine va_get (D := (dC, dI)) hx hb hts mm_i9 hown hK hP q1 hw2 rfl 6 (by decide) (hts _ (mm_pF_ws (e := (9, 332, 9, 6, 434)) (List.mem_of_getElem? (i := 57) rfl))) (fun _ h9 => h9) (v := .ref q) hv2 dz_tracing_23 ?_
    refine W.widen (k := σ.1.2.1) (n := σ.1.2.2.1) (by omega) (by omega) ?_
    exact W.aret hx hb hr (Or.inl ⟨_, rfl⟩) (Or.inr ⟨_, rfl⟩) (fun t ht hW => ⟨⟨τ, q, rfl, by show mm_ag ad τ.1.2.2.2.2.2; rw [hadτ]; exact hag, ⟨96, by rw [hadτ]; rfl, by rw [← hτ]; exact hQ⟩, by rw [hadτ, ht]; exact hP, va_K.moved hW.alike hK, by rw [hadτ]; exact hD, hcst2⟩, hS.F ht⟩) hS.2.2 dz_tracing_26
