theorem dz_reckoning_0 : decode cX9_reckoning 0 = .ok (.aload_n 0, 1) := by decide +kernel
theorem dz_reckoning_1 : decode cX9_reckoning 1 = .ok (.getfield 327, 3) := by decide +kernel
theorem dz_reckoning_4 : decode cX9_reckoning 4 = .ok (.ifnonnull 18, 3) := by decide +kernel
theorem dz_reckoning_7 : decode cX9_reckoning 7 = .ok (.aload_n 0, 1) := by decide +kernel
theorem dz_reckoning_8 : decode cX9_reckoning 8 = .ok (.new 237, 3) := by decide +kernel
theorem dz_reckoning_11 : decode cX9_reckoning 11 = .ok (.dup, 1) := by decide +kernel
theorem dz_reckoning_12 : decode cX9_reckoning 12 = .ok (.aload_n 0, 1) := by decide +kernel
theorem dz_reckoning_13 : decode cX9_reckoning 13 = .ok (.getfield 19, 3) := by decide +kernel
theorem dz_reckoning_16 : decode cX9_reckoning 16 = .ok (.invokespecial 331, 3) := by decide +kernel
theorem dz_reckoning_19 : decode cX9_reckoning 19 = .ok (.putfield 327, 3) := by decide +kernel
theorem dz_reckoning_22 : decode cX9_reckoning 22 = .ok (.aload_n 0, 1) := by decide +kernel
theorem dz_reckoning_23 : decode cX9_reckoning 23 = .ok (.getfield 327, 3) := by decide +kernel
theorem dz_reckoning_26 : decode cX9_reckoning 26 = .ok (.areturn, 1) := by decide +kernel
set_option maxHeartbeats 2000000 in
set_option maxRecDepth 100000 in
theorem c_lz_1 (l : Launch) (dC : Nat → ClassId) (dI : Nat → Nat → Nat) (cA : Nat → ClassId) (adV : Nat → Nat) (A : Nat → Prop) (L : Nat) (xs : Nat → Int32) (σ : mmS) (Q : mmQ) (h : mm_lz 1 81 15 35028 81 96 σ Q) : Met l yX9_reckoning (Cond.code yX9_reckoning cX9_reckoning 1 (some (.object "ThreeBreaths$Odds")) :: mm_ws) ({ frames := 6, cells := σ.1.2.1, slots := σ.1.2.2.1, locals := 300 }) (va_Pc [.ref (σ.1.2.2.2.2.2 0)] (mm_pre (dC, dI) cA σ.1.2.2.2.2.2 adV A L xs σ)) (mm_qc 3 Q σ.1.2.2.2.2.2 (dC, dI) cA A L xs) σ.1.2.1 σ.1.2.2.1 A := by
  refine Met.ofW (cc := cX9_reckoning) (maxL := 1) (ret := (some (.object "ThreeBreaths$Odds"))) (by decide) rfl ?_
  intro p e s m args below meth c s₁ B hml hv
  obtain ⟨rfl, hP, hK, hD, hE, hcst, hAA⟩ := hv
  have hx := B.exec
  have hb := B.bytes
  have hr := B.returns
  have hts0 := atoms_spec (ws := Cond.code yX9_reckoning cX9_reckoning 1 (some (.object "ThreeBreaths$Odds")) :: mm_ws) B.pre
  have hts : ∀ w ∈ mm_ws, w.before ([Value.ref (σ.1.2.2.2.2.2 0)].toArray) s = true := fun w hw => hts0 w (List.mem_cons_of_mem _ hw)
  have hown : s.vm.findClass RX9 = some m.cls := findClass_of_methodNamed B.named
  have hlocks := B.notSynchronized
  have hS : va_S A s.heap s.heap [] := va_S.rf
  have hl := lv_entry ([Value.ref (σ.1.2.2.2.2.2 0)]) (n := 1) (Nat.le_of_ble_eq_true rfl)
  rw [lg_entry_eq]
  generalize (lg_sl ([Value.ref (σ.1.2.2.2.2.2 0)]) ++ List.replicate (1 - (lg_sl ([Value.ref (σ.1.2.2.2.2.2 0)])).length) Slot.unset).toArray = ls at hl ⊢
  have hl : lv_has ls 1 [(0, .ref (σ.1.2.2.2.2.2 0))] := hl
  generalize had : σ.1.2.2.2.2.2 = ad at hP hD hE hl hts ⊢
  obtain ⟨q0, hq0, hw0⟩ := mm_W_get (ad := ad) (cA := cA) (σ := σ) (r := 0) rfl
  have hw0 : (mm_W ad cA σ)[q0]? = some (ad 0, .inr (9, mm_fs ad σ 0 9 [1, 0, 6, 15, 70, 81, 96, 0, 0, 0])) := hw0
  refine lv_aload_n hx hb dz_reckoning_0 rfl (lv_at hl 0 rfl) ?_
  unfold mm_lz at h
  cases hfl : σ.1.1 1 with
  | true =>
    rw [hfl] at h
    have hv : (mm_fs ad σ 0 9 [1, 0, 6, 15, 70, 81, 96, 0, 0, 0])[5]? = some (.ref (ad 81)) := by
      rw [mm_fs_get (show 5 < _ by decide)]
      show some (match σ.1.1 1 with | true => Value.ref (ad 81) | false => .null) = _
      rw [hfl]
    refine va_get (D := (dC, dI)) hx hb hts mm_i9 hown hK hP q0 hw0 rfl 5 (by decide) (hts _ (mm_pF_ws (e := (9, 327, 9, 5, 433)) (List.mem_of_getElem? (i := 56) rfl))) (fun _ h9 => h9) (v := .ref (ad 81)) hv dz_reckoning_1 ?_
    refine lv_ifnonnull (tgt := 22) hx hb dz_reckoning_4 rfl ?_
    refine lv_aload_n hx hb dz_reckoning_22 rfl (lv_at hl 0 rfl) ?_
    refine va_get (D := (dC, dI)) hx hb hts mm_i9 hown hK hP q0 hw0 rfl 5 (by decide) (hts _ (mm_pF_ws (e := (9, 327, 9, 5, 433)) (List.mem_of_getElem? (i := 56) rfl))) (fun _ h9 => h9) (v := .ref (ad 81)) hv dz_reckoning_23 ?_
    refine W.widen (k := σ.1.2.1) (n := σ.1.2.2.1) (by omega) (by omega) ?_
    exact W.aret hx hb hr (Or.inl ⟨_, rfl⟩) (Or.inr ⟨_, rfl⟩) (fun t ht hW => ⟨⟨σ, ad 81, rfl, by show mm_ag ad σ.1.2.2.2.2.2; rw [had]; exact mm_ag.refl, ⟨81, by rw [had], h⟩, by rw [had, ht]; exact hP, va_K.moved hW.alike hK, by rw [had]; exact hD, hcst⟩, hS.F ht⟩) hS.2.2 dz_reckoning_26
  | false =>
    rw [hfl] at h
    obtain ⟨hn, hz, h⟩ := h
    have hv : (mm_fs ad σ 0 9 [1, 0, 6, 15, 70, 81, 96, 0, 0, 0])[5]? = some .null := by
      rw [mm_fs_get (show 5 < _ by decide)]
      show some (match σ.1.1 1 with | true => Value.ref (ad 81) | false => .null) = _
      rw [hfl]
    have hvb : (mm_fs ad σ 0 9 [1, 0, 6, 15, 70, 81, 96, 0, 0, 0])[2]? = some (.ref (ad 6)) := mm_fs_get (show 2 < _ by decide)
    refine va_get (D := (dC, dI)) hx hb hts mm_i9 hown hK hP q0 hw0 rfl 5 (by decide) (hts _ (mm_pF_ws (e := (9, 327, 9, 5, 433)) (List.mem_of_getElem? (i := 56) rfl))) (fun _ h9 => h9) (v := .null) hv dz_reckoning_1 ?_
    refine lv_ifnonnullN hx hb dz_reckoning_4 ?_
    refine lv_aload_n hx hb dz_reckoning_7 rfl (lv_at hl 0 rfl) ?_
    refine va_new (ci := 3) (fs := [.null, .int 0, .null, .null, .null, .null, .null, .null, .null, .int 0, .int 0, .int 0, .int 0]) (C := RX3) (T := TX3) (N := 13) hx hb hts mm_i3 tyX3 tyX3_ok hown (hts _ wq_cl_9_237) (hts _ wq_in_3) (hts _ wq_it_3) hK hP hD hS hAA rfl (fun j hj => by have := mm_lt_cases13 j hj; rcases this with rfl | rfl | rfl | rfl | rfl | rfl | rfl | rfl | rfl | rfl | rfl | rfl | rfl <;> rfl) (by show 0 + 1 ≤ σ.1.2.1; omega) (by show 0 + 13 ≤ σ.1.2.2.1; omega) dz_reckoning_8 (fun q H hP hD hS => ?_)
    refine lv_dup hx hb dz_reckoning_11 rfl ?_
    refine lv_aload_n hx hb dz_reckoning_12 rfl (lv_at hl 0 rfl) ?_
    have hq0l := (List.getElem?_eq_some_iff.mp hw0).1
    have hw1 : ∀ v : va_W, (mm_W ad cA σ ++ v)[q0]? = some (ad 0, .inr (9, mm_fs ad σ 0 9 [1, 0, 6, 15, 70, 81, 96, 0, 0, 0])) := fun v => by rw [List.getElem?_append_left hq0l]; exact hw0
    refine va_get (D := (dC, dI)) hx hb hts mm_i9 hown hK hP q0 (hw1 _) rfl 2 (by decide) (hts _ (mm_pF_ws (e := (9, 19, 9, 2, 430)) (List.mem_of_getElem? (i := 53) rfl))) (fun _ h9 => h9) (v := .ref (ad 6)) hvb dz_reckoning_13 ?_
    have hPc := hP.sub (ws' := [(q, .inr (3, [.null, .int 0, .null, .null, .null, .null, .null, .null, .null, .int 0, .int 0, .int 0, .int 0]))]) [(mm_W ad cA σ).length] mm_lastF
    have hDc := hD.sub (ws' := [(q, .inr (3, [.null, .int 0, .null, .null, .null, .null, .null, .null, .null, .int 0, .int 0, .int 0, .int 0]))]) [(mm_W ad cA σ).length] rfl mm_last
    have hFc := va_free (wc := [(q, .inr (3, [.null, .int 0, .null, .null, .null, .null, .null, .null, .null, .int 0, .int 0, .int 0, .int 0]))]) hD hS hAA [(mm_W ad cA σ).length] mm_last
    refine va_callv (va_runI (As := [.ref (ad 6)]) (rest := [.ref q, .ref (ad 0)]) (Ts := mm_ws) ⟨hx, hb, hml, hown, hts⟩ (c_init_3 l dC dI cA q H.size (ad 6)) ⟨mm_cb2 hts wq_ic_3 wq_it_3 wq_mi_9_331 rfl rfl (by decide) (by show _ = some 1; decide +kernel) ⟨Nat.le_of_ble_eq_true rfl, Nat.le_of_ble_eq_true rfl⟩, rfl, hts _ wq_ii_3⟩ ⟨mm_pk_blind, fun U hU hW => ⟨rfl, by rw [hU], by rw [hU]; exact hPc, va_K.moved hW.alike hK, hDc.weaken (fun _ _ _ _ => trivial), hE.2.2.1.2.2.2.2.2.2.2.2.2.moved hW.alike⟩⟩ rfl rfl hl.1 rfl (lv_room (Nat.le_of_ble_eq_true rfl)) dz_reckoning_16 ⟨by show 0 + 1 + 14 ≤ σ.1.2.1; omega, by show 0 + 13 + 35015 ≤ σ.1.2.2.1; omega⟩) hS (fun q _ h => hFc q h) hFc (fun u t H1 locs ht hvm hw hB hz1 hk1 hS => ?_)
    obtain ⟨hP1, hK1, hD1⟩ := hB
    rw [ht] at hP1
    obtain ⟨hP, hD⟩ := va_join (wr := mm_W ad cA σ) (w1 := w_init_3 cA q (ad 6) u) hP hD [(mm_W ad cA σ).length] (List.range (mm_W ad cA σ).length) mm_last mm_rng mm_nd_rng (fun i hi => by have := List.mem_range.mp hi; simp; omega) hk1 hFc hP1 hD1
    generalize H1 = H at hP hS ⊢
    refine va_put (D := (dC, dI)) (ci := 9) (v := .ref q) (ty := .object "ThreeBreaths$Odds") (C := RX9) (T := TX9) (N := 10) hx hb hts mm_i9 tyX9 tyX9_ok nmX9 hown hK hP hD hS q0 (hw1 _) rfl 5 (by decide) (hts _ (mm_pF_ws (e := (9, 327, 9, 5, 433)) (List.mem_of_getElem? (i := 56) rfl))) (fun _ h9 => h9) rfl (by decide +kernel) rfl rfl (by rw [mm_fs_len]; decide) dz_reckoning_19 (fun H locs hP hD hS => ?_)
    rw [List.set_append_left _ _ hq0l] at hP hD
    -- the new addresses, the new memory
    let u9 : Nat → Nat := fun r => [q, u 1, u 2, u 3, u 4, u 5, u 6, u 7, u 8, u 9, u 10, u 11, u 12, u 13, u 14].getD (r - 81) 0
    have hnew : w_init_3 cA q (ad 6) u = ([81, 82, 83, 84, 85, 86, 87, 88, 89, 90, 91, 92, 93, 94, 95] : List Nat).map fun r => (mm_ad2 81 96 u9 ad r, mm_cell (mm_ad2 81 96 u9 ad) cA (((fun j => if j = 1 then true else σ.1.1 j), σ.1.2.1 - 15, σ.1.2.2.1 - 35028, σ.1.2.2.2.1, σ.1.2.2.2.2.1, mm_ad2 81 96 u9 ad), mm_zr 81 96 σ.2.1, σ.2.2) r) := mm_cc rfl (mm_cc (by show _ = (_, mm_cell (mm_ad2 81 96 u9 ad) cA _ 82); rw [mm_c24 (reg := 2) (n := 2) (rf := [83, 84]) rfl]; rfl) (mm_cc rfl (mm_cc rfl (mm_cc (by show _ = (_, mm_cell (mm_ad2 81 96 u9 ad) cA _ 85); rw [mm_c24 (reg := 2) (n := 2) (rf := [86, 87]) rfl]; rfl) (mm_cc rfl (mm_cc rfl (mm_cc (by show _ = (_, mm_cell (mm_ad2 81 96 u9 ad) cA _ 88); rw [mm_c24 (reg := 2) (n := 3) (rf := [89, 90, 91]) rfl]; rfl) (mm_cc rfl (mm_cc rfl (mm_cc rfl (mm_cc rfl (mm_cc rfl (mm_cc rfl (mm_cc rfl (rfl)))))))))))))))
    have hflags : ∀ j, (((fun j => if j = 1 then true else σ.1.1 j), σ.1.2.1 - 15, σ.1.2.2.1 - 35028, σ.1.2.2.2.1, σ.1.2.2.2.2.1, mm_ad2 81 96 u9 ad) : mmG).1 j = if j = 1 then true else σ.1.1 j := fun _ => rfl
    generalize hτ : (((fun j => if j = 1 then true else σ.1.1 j), σ.1.2.1 - 15, σ.1.2.2.1 - 35028, σ.1.2.2.2.1, σ.1.2.2.2.2.1, mm_ad2 81 96 u9 ad), mm_zr 81 96 σ.2.1, σ.2.2) = τ at hnew
    have hold : (mm_W ad cA σ).set q0 (ad 0, .inr (9, (mm_fs ad σ 0 9 [1, 0, 6, 15, 70, 81, 96, 0, 0, 0]).set 5 (.ref q))) = (mm_ix σ.1).map fun r => (mm_ad2 81 96 u9 ad r, mm_cell (mm_ad2 81 96 u9 ad) cA τ r) := by
      have e0 : mm_cell (mm_ad2 81 96 u9 ad) cA τ 0 = .inr (9, (mm_fs ad σ 0 9 [1, 0, 6, 15, 70, 81, 96, 0, 0, 0]).set 5 (.ref q)) := by
        rw [mm_fs_set2 (ad' := mm_ad2 81 96 u9 ad) (τ := τ) (by subst hτ; rfl) ?_]
        · rfl
        · intro j hj hne
          have hj : j < 10 := hj
          subst hτ
          have := mm_lt_cases10 j hj
          rcases this with rfl | rfl | rfl | rfl | rfl | rfl | rfl | rfl | rfl | rfl <;> first | rfl | exact absurd rfl hne
      apply List.ext_getElem?
      intro i
      rw [List.getElem?_set, List.getElem?_map]
      by_cases hi : q0 = i
      · subst hi
        rw [if_pos rfl, if_pos hq0l, hq0]
        show _ = some (mm_ad2 81 96 u9 ad 0, mm_cell (mm_ad2 81 96 u9 ad) cA τ 0)
        rw [e0]; rfl
      · rw [if_neg hi]
        unfold mm_W
        rw [List.getElem?_map]
        cases hx9 : (mm_ix σ.1)[i]? with
        | none => rfl
        | some r =>
          have hrin := (List.mem_filter.mp (List.mem_of_getElem? hx9 : r ∈ mm_ix σ.1))
          have hr115 := List.mem_range.mp hrin.1
          have hne : r ≠ 0 := fun e9 => by
            subst e9
            exact hi ((List.getElem?_inj (List.getElem?_eq_some_iff.mp hq0).1 mm_ix_nd).mp (hq0.trans hx9.symm))
          have hchk : ∀ r, r < 115 → r ≠ 0 → (match mm_T[r]? with | some (reg, kd, _, rf) => Nat.ble 30 kd || ((Nat.beq reg 2 == (Nat.ble 81 r && Nat.blt r 96)) && (Nat.beq reg 2 || (rf.all (fun t => Nat.blt t 81 || Nat.ble 96 t) && (Nat.ble 20 kd || (mm_F.getD kd []).all fun c => Nat.ble c 4)))) | none => true) = true := by decide +kernel
          have hc9 := hchk r hr115 hne
          have hin9 := hrin.2
          unfold mm_in at hin9
          cases hT : mm_T[r]? with
          | none => rw [hT] at hin9; cases hin9
          | some zz =>
            obtain ⟨reg, kd, nn, rf⟩ := zz
            rw [hT] at hin9 hc9
            simp only [Bool.and_eq_true] at hin9
            have h30 : Nat.ble 30 kd = false := by
              cases hb9 : Nat.ble 30 kd with
              | false => rfl
              | true =>
                have a1 := Nat.le_of_ble_eq_true hb9
                have a2 : kd < 30 := Nat.le_of_ble_eq_true hin9.1
                omega
            have hreg : Nat.beq reg 2 = false := by
              cases hb9 : Nat.beq reg 2 with
              | false => rfl
              | true =>
                have a1 := Nat.eq_of_beq_eq_true hb9
                subst a1
                have a2 : σ.1.1 1 = true := hin9.2
                rw [hfl] at a2; cases a2
            dsimp only at hc9
            rw [h30, hreg, Bool.false_or, Bool.false_or, Bool.and_eq_true, Bool.and_eq_true] at hc9
            obtain ⟨c1, c2, c3⟩ := hc9
            have hout : r < 81 ∨ 96 ≤ r := by
              by_cases z1 : 81 ≤ r
              · by_cases z2 : r < 96
                · have b1 : Nat.ble 81 r = true := Nat.ble_eq_true_of_le z1
                  have b2 : Nat.blt r 96 = true := Nat.ble_eq_true_of_le z2
                  rw [b1, b2] at c1; cases c1
                · omega
              · omega
            show some (ad r, mm_cell ad cA σ r) = some (mm_ad2 81 96 u9 ad r, mm_cell (mm_ad2 81 96 u9 ad) cA τ r)
            rw [mm_ad2_out hout, mm_cell_old (σ := σ) (σ' := τ) (by omega) hT hout (fun t ht9 => ?_) (fun hk9 c hc => ?_) (by subst hτ; rfl) (by subst hτ; rfl) (by subst hτ; rfl) (by subst hτ; rfl)]
            · have := List.all_eq_true.mp c2 t ht9
              rw [Bool.or_eq_true] at this
              exact this.imp Nat.le_of_ble_eq_true Nat.le_of_ble_eq_true
            · have k20 : Nat.ble 20 kd = false := by
                cases hb9 : Nat.ble 20 kd with
                | false => rfl
                | true => have := Nat.le_of_ble_eq_true hb9; omega
              rw [k20, Bool.false_or] at c3
              exact Nat.le_of_ble_eq_true (List.all_eq_true.mp c3 c hc)
    rw [hold, hnew, ← List.map_append] at hP hD
    have hix := mm_ix_more (g := σ.1) (k := 1) (NL := [81, 82, 83, 84, 85, 86, 87, 88, 89, 90, 91, 92, 93, 94, 95]) (by decide +kernel) τ.1 (by subst hτ; rfl)
    obtain ⟨hP, hD⟩ := mm_world (S := mm_ix τ.1) mm_ix_nd hix hP hD
    have hP : va_P (dC, dI) vwCl (mm_W (mm_ad2 81 96 u9 ad) cA τ) H := hP
    have hD : va_D A (mm_W (mm_ad2 81 96 u9 ad) cA τ) := hD
    have hadτ : τ.1.2.2.2.2.2 = mm_ad2 81 96 u9 ad := by subst hτ; rfl
    have hag : mm_ag ad (mm_ad2 81 96 u9 ad) := fun r hr9 => mm_ad2_out (by omega)
    have hcst2 : mm_cst L xs τ := by
      subst hτ
      exact hcst
    have hQ := h (mm_ad2 81 96 u9 ad) (fun r hr9 => (mm_ad2_out hr9).trans (by rw [had]))
    refine lv_aload_n hx hb dz_reckoning_22 rfl (lv_at hl 0 rfl) ?_
    obtain ⟨q1, hq1, hw2⟩ := mm_W_get (ad := mm_ad2 81 96 u9 ad) (cA := cA) (σ := τ) (r := 0) rfl
    have hw2 : (mm_W (mm_ad2 81 96 u9 ad) cA τ)[q1]? = some (ad 0, .inr (9, mm_fs (mm_ad2 81 96 u9 ad) τ 0 9 [1, 0, 6, 15, 70, 81, 96, 0, 0, 0])) := hw2
    have hv2 : (mm_fs (mm_ad2 81 96 u9 ad) τ 0 9 [1, 0, 6, 15, 70, 81, 96, 0, 0, 0])[5]? = some (.ref q) := by subst hτ; rfl
    refine va_get (D := (dC, dI)) hx hb hts mm_i9 hown hK hP q1 hw2 rfl 5 (by decide) (hts _ (mm_pF_ws (e := (9, 327, 9, 5, 433)) (List.mem_of_getElem? (i := 56) rfl))) (fun _ h9 => h9) (v := .ref q) hv2 dz_reckoning_23 ?_
    refine W.widen (k := σ.1.2.1) (n := σ.1.2.2.1) (by omega) (by omega) ?_
    exact W.aret hx hb hr (Or.inl ⟨_, rfl⟩) (Or.inr ⟨_, rfl⟩) (fun t ht hW => ⟨⟨τ, q, rfl, by show mm_ag ad τ.1.2.2.2.2.2; rw [hadτ]; exact hag, ⟨81, by rw [hadτ]; rfl, by rw [← hτ]; exact hQ⟩, by rw [hadτ, ht]; exact hP, va_K.moved hW.alike hK, by rw [hadτ]; exact hD, hcst2⟩, hS.F ht⟩) hS.2.2 dz_reckoning_26
