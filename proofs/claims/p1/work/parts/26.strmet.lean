/-! String.length, String.charAt: contracts; calls outside the program, but those that make something -/
theorem st_shift : ∀ i, i < 17 → Int32.ofNat (mm_sl.getD i 0) >>> ((0 : Int32) &&& 31) = nI (mm_sl.getD i 0) := by decide +kernel
theorem st_le (l : Launch) (D : va_G) (cA : Nat → ClassId) (adV : Nat → Nat) (A : Nat → Prop) (L : Nat) (xs : Nat → Int32) (σ : mmS) (Qm : mmQ) (i : Nat) (hi : i < 17) (hQ : Qm (some (.int (nI (mm_sl.getD i 0)))) σ) : Met l yJ0_length_8abf5 (Cond.code yJ0_length_8abf5 cJ0_length_8abf5 1 (some .int) :: mm_ws) ({ frames := 3, cells := σ.1.2.1, slots := σ.1.2.2.1, locals := 200 } : Room) (va_Pc [.ref (σ.1.2.2.2.2.2 (98 + i))] (mm_pre D cA σ.1.2.2.2.2.2 adV A L xs σ)) (mm_qc 1 Qm σ.1.2.2.2.2.2 D cA A L xs) σ.1.2.1 σ.1.2.2.1 A := by
  refine Met.ofW (cc := cJ0_length_8abf5) (maxL := 1) (ret := (some .int)) (by decide) rfl ?_
  intro p e s m args below meth cd s₁ B hml hv
  have hx := B.exec
  have hb := B.bytes
  have hr := B.returns
  have hlocks := B.notSynchronized
  have hts0 := atoms_spec (ws := Cond.code yJ0_length_8abf5 cJ0_length_8abf5 1 (some .int) :: mm_ws) B.pre
  have hown := findClass_of_methodNamed B.named
  obtain ⟨rfl, hP, hK, hD, hE, hcst, hAA⟩ := hv
  have hss : mm_ss (fun i => σ.1.2.2.2.2.2 (98 + i)) adV A s := ⟨hE.2.2.1.1, hE.2.2.1.2.1, hE.2.2.1.2.2.1⟩
  have hts : ∀ w ∈ mm_ws, w.before ([.ref (σ.1.2.2.2.2.2 (98 + i))].toArray) s = true := fun w hw => hts0 w (List.mem_cons_of_mem _ hw)
  have hl := lv_entry ([.ref (σ.1.2.2.2.2.2 (98 + i))]) (n := 1) (Nat.le_of_ble_eq_true rfl)
  rw [lg_entry_eq]
  generalize (lg_sl ([.ref (σ.1.2.2.2.2.2 (98 + i))]) ++ List.replicate (1 - (lg_sl ([.ref (σ.1.2.2.2.2.2 (98 + i))])).length) Slot.unset).toArray = ls at hl ⊢
  have hl : lv_has ls 1 [(0, .ref (σ.1.2.2.2.2.2 (98 + i)))] := hl
  have hS : va_S A s.heap s.heap [] := va_S.rf
  refine lv_aload_n hx hb dz_le_0 rfl (lv_at hl 0 rfl) ?_
  refine vk_getf hx hb (hss.1.1 i hi).2.2.1 hS hown (hts _ wf_9) (fun _ h => h) dz_le_1 ?_
  refine va_tlen hx hb (hss.1.1 i hi).2.2.2 hS rfl dz_le_4 ?_
  refine lv_aload_n hx hb dz_le_5 rfl (lv_at hl 0 rfl) ?_
  refine W.callR (r := 0) (a := ([.ref (σ.1.2.2.2.2.2 (98 + i))] : List Value).toArray) (W.runV (As := []) (rest := [.int (Int32.ofNat (mm_sl.getD i 0))]) (b := σ.1.2.2.2.2.2 (98 + i)) (C := "java/lang/String") (n := 0) (nL := 1) (Ts := mm_ws) (own := "java/lang/String") ⟨hx, hb, hml, hown, hts⟩ (st_co l (fun i => σ.1.2.2.2.2.2 (98 + i)) adV A i hi) ⟨mm_cb2 hts wz_co wn_S wk_335 rfl rfl (by decide) (by decide +kernel) ⟨Nat.le_of_ble_eq_true rfl, Nat.le_of_ble_eq_true rfl⟩, hts _ wi_co, hts _ wl_co⟩ ⟨mm_ss_blind, vk_recv (adK := fun i => σ.1.2.2.2.2.2 (98 + i)) hss.1 hi hS, fun U hU hW => ⟨rfl, mm_ss_kept hss hU hW⟩⟩ rfl rfl hl.1 rfl (lv_room (Nat.le_of_ble_eq_true rfl)) dz_le_6 ⟨Nat.zero_le _, Nat.zero_le _⟩) ?_
  refine lv_ishr hx hb dz_le_9 ?_
  rw [st_shift i hi]
  refine W.widen (k := σ.1.2.1) (n := σ.1.2.2.1) (Nat.zero_le _) (Nat.zero_le _) ?_
  exact W.iret hx hb hr (fun t ht hW => ⟨⟨_, σ, rfl, ⟨hQ, mm_ag.refl⟩, by rw [ht]; exact hP, va_K.moved hW.alike hK, hD, hcst⟩, va_S.rf.F ht⟩) (fun q hq => by cases hq) dz_le_10
theorem st_char : ∀ i, i < 17 → ∀ j, j < mm_sl.getD i 0 → narrow .char (.int ((mm_sb.getD i []).getD j 0)) = .int ((mm_sb.getD i []).getD j 0) := by
  intro i hi j hj
  rw [← st_bytes i hi j hj]
  exact pk_nc _
theorem st_ch (l : Launch) (D : va_G) (cA : Nat → ClassId) (adV : Nat → Nat) (A : Nat → Prop) (L : Nat) (xs : Nat → Int32) (σ : mmS) (Qm : mmQ) (i : Nat) (hi : i < 17) (j : Int32) (hin : vp_in j (mm_sl.getD i 0)) (hQ : Qm (some (.int ((mm_sb.getD i []).getD j.toNatClampNeg 0))) σ) : Met l yJ0_charAt_5068e (Cond.code yJ0_charAt_5068e cJ0_charAt_5068e 2 (some .char) :: mm_ws) ({ frames := 3, cells := σ.1.2.1, slots := σ.1.2.2.1, locals := 200 } : Room) (va_Pc [.ref (σ.1.2.2.2.2.2 (98 + i)), .int j] (mm_pre D cA σ.1.2.2.2.2.2 adV A L xs σ)) (mm_qc 1 Qm σ.1.2.2.2.2.2 D cA A L xs) σ.1.2.1 σ.1.2.2.1 A := by
  refine Met.ofW (cc := cJ0_charAt_5068e) (maxL := 2) (ret := (some .char)) (by decide) rfl ?_
  intro p e s m args below meth cd s₁ B hml hv
  have hx := B.exec
  have hb := B.bytes
  have hr := B.returns
  have hlocks := B.notSynchronized
  have hts0 := atoms_spec (ws := Cond.code yJ0_charAt_5068e cJ0_charAt_5068e 2 (some .char) :: mm_ws) B.pre
  have hown := findClass_of_methodNamed B.named
  obtain ⟨rfl, hP, hK, hD, hE, hcst, hAA⟩ := hv
  have hss : mm_ss (fun i => σ.1.2.2.2.2.2 (98 + i)) adV A s := ⟨hE.2.2.1.1, hE.2.2.1.2.1, hE.2.2.1.2.2.1⟩
  have hts : ∀ w ∈ mm_ws, w.before ([.ref (σ.1.2.2.2.2.2 (98 + i)), .int j].toArray) s = true := fun w hw => hts0 w (List.mem_cons_of_mem _ hw)
  have hl := lv_entry ([.ref (σ.1.2.2.2.2.2 (98 + i)), .int j]) (n := 2) (Nat.le_of_ble_eq_true rfl)
  rw [lg_entry_eq]
  generalize (lg_sl ([.ref (σ.1.2.2.2.2.2 (98 + i)), .int j]) ++ List.replicate (2 - (lg_sl ([.ref (σ.1.2.2.2.2.2 (98 + i)), .int j])).length) Slot.unset).toArray = ls at hl ⊢
  have hl : lv_has ls 2 [(0, .ref (σ.1.2.2.2.2.2 (98 + i))), (1, .int j)] := hl
  have hS : va_S A s.heap s.heap [] := va_S.rf
  refine lv_aload_n hx hb dz_ch_0 rfl (lv_at hl 0 rfl) ?_
  refine W.callR (r := 1) (a := ([.ref (σ.1.2.2.2.2.2 (98 + i))] : List Value).toArray) (W.runV (As := []) (rest := []) (b := σ.1.2.2.2.2.2 (98 + i)) (C := "java/lang/String") (n := 0) (nL := 2) (Ts := mm_ws) (own := "java/lang/String") ⟨hx, hb, hml, hown, hts⟩ (st_la l (fun i => σ.1.2.2.2.2.2 (98 + i)) adV A i hi) ⟨mm_cb2 hts wz_la wn_S wk_492 rfl rfl (by decide) (by decide +kernel) ⟨Nat.le_of_ble_eq_true rfl, Nat.le_of_ble_eq_true rfl⟩, hts _ wi_la, hts _ wl_la⟩ ⟨mm_ss_blind, vk_recv (adK := fun i => σ.1.2.2.2.2.2 (98 + i)) hss.1 hi hS, fun U hU hW => ⟨rfl, mm_ss_kept hss hU hW⟩⟩ rfl rfl hl.1 rfl (lv_room (Nat.le_of_ble_eq_true rfl)) dz_ch_1 ⟨Nat.zero_le _, Nat.zero_le _⟩) ?_
  refine lv_if_eq (tgt := 16) hx hb dz_ch_4 rfl (fun h => absurd h (by decide)) (fun _ => ?_)
  refine lv_aload_n hx hb dz_ch_7 rfl (lv_at hl 0 rfl) ?_
  refine vk_getf hx hb (hss.1.1 i hi).2.2.1 hS hown (hts _ wf_9) (fun _ h => h) dz_ch_8 ?_
  refine lv_iload_n hx hb dz_ch_11 rfl (lv_at hl 1 rfl) ?_
  refine W.callR (r := (mm_sb.getD i []).getD j.toNatClampNeg 0) (a := ([.ref (adV i), .int j] : List Value).toArray) (W.runS (As := [.ref (adV i), .int j]) (rest := []) (n := 2) (nL := 2) (Ts := mm_ws) (own := "java/lang/String") ⟨hx, hb, hml, hown, hts⟩ (st_lc l (fun i => σ.1.2.2.2.2.2 (98 + i)) adV A i hi j hin) ⟨mm_cb2 hts wz_lc wn_L wk_495 rfl rfl (by decide) (by decide +kernel) ⟨Nat.le_of_ble_eq_true rfl, Nat.le_of_ble_eq_true rfl⟩, hts _ ws_lc⟩ ⟨mm_ss_blind, fun U hU hW => ⟨rfl, mm_ss_kept hss hU hW⟩⟩ rfl rfl hl.1 rfl (lv_room (Nat.le_of_ble_eq_true rfl)) dz_ch_12 ⟨Nat.zero_le _, Nat.zero_le _⟩) ?_
  refine W.widen (k := σ.1.2.1) (n := σ.1.2.2.1) (Nat.zero_le _) (Nat.zero_le _) ?_
  exact W.zret hx hb hr (st_char i hi j.toNatClampNeg (Nat.not_le.mp fun q => hin (Or.inr q))) (fun t ht hW => ⟨⟨_, σ, rfl, ⟨hQ, mm_ag.refl⟩, by rw [ht]; exact hP, va_K.moved hW.alike hK, hD, hcst⟩, va_S.rf.F ht⟩) (fun q hq => by cases hq) dz_ch_15
