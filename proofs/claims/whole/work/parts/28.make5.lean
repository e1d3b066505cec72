theorem dq_2_0 : decode cX2_init 0 = .ok (.aload_n 0, 1) := by decide +kernel
theorem dq_2_1 : decode cX2_init 1 = .ok (.invokespecial 3, 3) := by decide +kernel
theorem dq_2_4 : decode cX2_init 4 = .ok (.aload_n 0, 1) := by decide +kernel
theorem dq_2_5 : decode cX2_init 5 = .ok (.sipush 320, 3) := by decide +kernel
theorem dq_2_8 : decode cX2_init 8 = .ok (.newarray .int, 2) := by decide +kernel
theorem dq_2_10 : decode cX2_init 10 = .ok (.putfield 9, 3) := by decide +kernel
theorem dq_2_13 : decode cX2_init 13 = .ok (.aload_n 0, 1) := by decide +kernel
theorem dq_2_14 : decode cX2_init 14 = .ok (.sipush 320, 3) := by decide +kernel
theorem dq_2_17 : decode cX2_init 17 = .ok (.newarray .int, 2) := by decide +kernel
theorem dq_2_19 : decode cX2_init 19 = .ok (.putfield 15, 3) := by decide +kernel
theorem dq_2_22 : decode cX2_init 22 = .ok (.aload_n 0, 1) := by decide +kernel
theorem dq_2_23 : decode cX2_init 23 = .ok (.sipush 2048, 3) := by decide +kernel
theorem dq_2_26 : decode cX2_init 26 = .ok (.newarray .int, 2) := by decide +kernel
theorem dq_2_28 : decode cX2_init 28 = .ok (.putfield 20, 3) := by decide +kernel
theorem dq_2_31 : decode cX2_init 31 = .ok (.aload_n 0, 1) := by decide +kernel
theorem dq_2_32 : decode cX2_init 32 = .ok (.aload_n 1, 1) := by decide +kernel
theorem dq_2_33 : decode cX2_init 33 = .ok (.putfield 23, 3) := by decide +kernel
theorem dq_2_36 : decode cX2_init 36 = .ok (.return_, 1) := by decide +kernel
abbrev w_init_2 (cA : Nat → ClassId) (h0 : Nat) (y0 : Nat) (u : Nat → Nat) : va_W := [(h0, .inr (2, [.ref y0, .ref (u 1), .ref (u 2), .int 0, .ref (u 3), .int 0])), ((u 1), .inl (cA 0, 320, .inl (fun _ => 0))), ((u 2), .inl (cA 0, 320, .inl (fun _ => 0))), ((u 3), .inl (cA 0, 2048, .inl (fun _ => 0)))]
set_option maxHeartbeats 4000000 in
set_option maxRecDepth 100000 in
theorem c_init_2 (l : Launch) (dC : Nat → ClassId) (dI : Nat → Nat → Nat) (cA : Nat → ClassId) (h0 : Nat) (sz : Nat) (y0 : Nat) : Met l yX2_init (Cond.code yX2_init cX2_init 2 none :: mm_ws) ({ frames := 1, cells := 3, slots := 2688, locals := 60 }) (va_Pc [.ref h0, .ref y0] (mm_pj dC dI cA sz [(h0, .inr (2, [.null, .null, .null, .int 0, .null, .int 0]))])) (va_Qv (fun _ : Nat → Nat => True) (fun u t => va_P (dC, dI) vwCl (w_init_2 cA h0 y0 u) t.heap ∧ va_K (dC, dI) vwCl (mm_tys cA) t ∧ va_D (va_A [(h0, .inr (2, [.null, .null, .null, .int 0, .null, .int 0]))] sz) (w_init_2 cA h0 y0 u)) (va_A [(h0, .inr (2, [.null, .null, .null, .int 0, .null, .int 0]))] sz)) 3 2688 (va_A [(h0, .inr (2, [.null, .null, .null, .int 0, .null, .int 0]))] sz) := by
  refine Met.ofW (cc := cX2_init) (maxL := 2) (ret := none) (by decide) rfl ?_
  intro p e s m args below meth c s₁ B hml hv
  obtain ⟨rfl, hsz, hP, hK, hD0⟩ := hv
  have hx := B.exec
  have hb := B.bytes
  have hr := B.returns
  have hts0 := atoms_spec (ws := Cond.code yX2_init cX2_init 2 none :: mm_ws) B.pre
  have hts : ∀ w ∈ mm_ws, w.before ([.ref h0, .ref y0].toArray) s = true := fun w hw => hts0 w (List.mem_cons_of_mem _ hw)
  have hown : s.vm.findClass RX2 = some m.cls := findClass_of_methodNamed B.named
  have hlocks := B.notSynchronized
  have hin : meth.name = "<init>" := (name_of_methodNamed B.named B.method).1
  subst hsz
  have hD := hD0.self (sz := s.heap.size)
  generalize hAe : va_A [(h0, .inr (2, [.null, .null, .null, .int 0, .null, .int 0]))] s.heap.size = A at hD ⊢
  have hA : ∀ q : Nat, s.heap.size ≤ q → A q := fun q h => by rw [← hAe]; exact Or.inr h
  have hS : va_S A s.heap s.heap [] := va_S.rf
  have hP : va_P (dC, dI) vwCl [(h0, .inr (2, [.null, .null, .null, .int 0, .null, .int 0]))] s.heap := hP
  have hl := lv_entry ([.ref h0, .ref y0]) (n := 2) (Nat.le_of_ble_eq_true rfl)
  rw [lg_entry_eq]
  generalize (lg_sl ([.ref h0, .ref y0]) ++ List.replicate (2 - (lg_sl ([.ref h0, .ref y0])).length) Slot.unset).toArray = ls at hl ⊢
  have hl : lv_has ls 2 [(0, .ref h0), (1, .ref y0)] := hl
  refine lv_aload_n hx hb dq_2_0 rfl (lv_at hl 0 rfl) ?_
  refine W.objInit hx hb hown (hts _ wq_ob_2) (hts _ wq_obi) (hts _ wq_obc) rfl (by rw [hml]; exact hl.1) rfl dq_2_1 (Nat.le_of_ble_eq_true rfl) (Nat.le_of_ble_eq_true rfl) ?_
  refine W.eq (g2 := F0 m 4 ls []) rfl ?_
  refine lv_aload_n hx hb dq_2_4 rfl (lv_at hl 0 rfl) ?_
  refine lv_sipush (v := 320) hx hb dq_2_5 (by decide) ?_
  refine mm_newa (N' := 320) 0 hx hb (hts _ wq_ac_int) rfl hK rfl (fun _ h => h) hP hD hS hA (a0 := (320, .inl (fun _ => 0))) (fun cA => rfl) (by decide) (by decide) (by decide) (Nat.le_of_ble_eq_true rfl) (Nat.le_of_ble_eq_true rfl) dq_2_8 (fun q8 H hP hD hS => ?_)
  have hP : va_P (dC, dI) vwCl [(h0, .inr (2, [.null, .null, .null, .int 0, .null, .int 0])), (q8, .inl (cA 0, 320, .inl (fun _ => 0)))] H := hP
  have hD : va_D A [(h0, .inr (2, [.null, .null, .null, .int 0, .null, .int 0])), (q8, .inl (cA 0, 320, .inl (fun _ => 0)))] := hD
  refine W.widen (k := 1) (n := 320) (by omega) (by omega) ?_
  refine va_putF (D := (dC, dI)) (ci := 2) (v := .ref q8) (ty := .array .int) (C := RX2) (T := TX2) (N := 6) hx hb hts mm_i2 tyX2 tyX2_ok nmX2 hown hK hP hD hS 0 rfl rfl 1 (by decide) (hts _ (mm_pF_ws (e := (2, 9, 2, 1, 923)) (List.mem_of_getElem? (i := 62) rfl))) (fun _ h9 => h9) rfl hin rfl (by decide +kernel) rfl rfl (Nat.le_of_ble_eq_true rfl) dq_2_10 (fun H locs hP hD hS => ?_)
  have hP : va_P (dC, dI) vwCl [(h0, .inr (2, [.null, .ref q8, .null, .int 0, .null, .int 0])), (q8, .inl (cA 0, 320, .inl (fun _ => 0)))] H := hP
  have hD : va_D A [(h0, .inr (2, [.null, .ref q8, .null, .int 0, .null, .int 0])), (q8, .inl (cA 0, 320, .inl (fun _ => 0)))] := hD
  refine lv_aload_n hx hb dq_2_13 rfl (lv_at hl 0 rfl) ?_
  refine lv_sipush (v := 320) hx hb dq_2_14 (by decide) ?_
  refine mm_newa (N' := 320) 0 hx hb (hts _ wq_ac_int) rfl hK rfl (fun _ h => h) hP hD hS hA (a0 := (320, .inl (fun _ => 0))) (fun cA => rfl) (by decide) (by decide) (by decide) (Nat.le_of_ble_eq_true rfl) (Nat.le_of_ble_eq_true rfl) dq_2_17 (fun q17 H hP hD hS => ?_)
  have hP : va_P (dC, dI) vwCl [(h0, .inr (2, [.null, .ref q8, .null, .int 0, .null, .int 0])), (q8, .inl (cA 0, 320, .inl (fun _ => 0))), (q17, .inl (cA 0, 320, .inl (fun _ => 0)))] H := hP
  have hD : va_D A [(h0, .inr (2, [.null, .ref q8, .null, .int 0, .null, .int 0])), (q8, .inl (cA 0, 320, .inl (fun _ => 0))), (q17, .inl (cA 0, 320, .inl (fun _ => 0)))] := hD
  refine W.widen (k := 2) (n := 640) (by omega) (by omega) ?_
  refine va_putF (D := (dC, dI)) (ci := 2) (v := .ref q17) (ty := .array .int) (C := RX2) (T := TX2) (N := 6) hx hb hts mm_i2 tyX2 tyX2_ok nmX2 hown hK hP hD hS 0 rfl rfl 2 (by decide) (hts _ (mm_pF_ws (e := (2, 15, 2, 2, 925)) (List.mem_of_getElem? (i := 63) rfl))) (fun _ h9 => h9) rfl hin rfl (by decide +kernel) rfl rfl (Nat.le_of_ble_eq_true rfl) dq_2_19 (fun H locs hP hD hS => ?_)
  have hP : va_P (dC, dI) vwCl [(h0, .inr (2, [.null, .ref q8, .ref q17, .int 0, .null, .int 0])), (q8, .inl (cA 0, 320, .inl (fun _ => 0))), (q17, .inl (cA 0, 320, .inl (fun _ => 0)))] H := hP
  have hD : va_D A [(h0, .inr (2, [.null, .ref q8, .ref q17, .int 0, .null, .int 0])), (q8, .inl (cA 0, 320, .inl (fun _ => 0))), (q17, .inl (cA 0, 320, .inl (fun _ => 0)))] := hD
  refine lv_aload_n hx hb dq_2_22 rfl (lv_at hl 0 rfl) ?_
  refine lv_sipush (v := 2048) hx hb dq_2_23 (by decide) ?_
  refine mm_newa (N' := 2048) 0 hx hb (hts _ wq_ac_int) rfl hK rfl (fun _ h => h) hP hD hS hA (a0 := (2048, .inl (fun _ => 0))) (fun cA => rfl) (by decide) (by decide) (by decide) (Nat.le_of_ble_eq_true rfl) (Nat.le_of_ble_eq_true rfl) dq_2_26 (fun q26 H hP hD hS => ?_)
  have hP : va_P (dC, dI) vwCl [(h0, .inr (2, [.null, .ref q8, .ref q17, .int 0, .null, .int 0])), (q8, .inl (cA 0, 320, .inl (fun _ => 0))), (q17, .inl (cA 0, 320, .inl (fun _ => 0))), (q26, .inl (cA 0, 2048, .inl (fun _ => 0)))] H := hP
  have hD : va_D A [(h0, .inr (2, [.null, .ref q8, .ref q17, .int 0, .null, .int 0])), (q8, .inl (cA 0, 320, .inl (fun _ => 0))), (q17, .inl (cA 0, 320, .inl (fun _ => 0))), (q26, .inl (cA 0, 2048, .inl (fun _ => 0)))] := hD
  refine W.widen (k := 3) (n := 2688) (by omega) (by omega) ?_
  refine va_putF (D := (dC, dI)) (ci := 2) (v := .ref q26) (ty := .array .int) (C := RX2) (T := TX2) (N := 6) hx hb hts mm_i2 tyX2 tyX2_ok nmX2 hown hK hP hD hS 0 rfl rfl 4 (by decide) (hts _ (mm_pF_ws (e := (2, 20, 2, 4, 929)) (List.mem_of_getElem? (i := 65) rfl))) (fun _ h9 => h9) rfl hin rfl (by decide +kernel) rfl rfl (Nat.le_of_ble_eq_true rfl) dq_2_28 (fun H locs hP hD hS => ?_)
  have hP : va_P (dC, dI) vwCl [(h0, .inr (2, [.null, .ref q8, .ref q17, .int 0, .ref q26, .int 0])), (q8, .inl (cA 0, 320, .inl (fun _ => 0))), (q17, .inl (cA 0, 320, .inl (fun _ => 0))), (q26, .inl (cA 0, 2048, .inl (fun _ => 0)))] H := hP
  have hD : va_D A [(h0, .inr (2, [.null, .ref q8, .ref q17, .int 0, .ref q26, .int 0])), (q8, .inl (cA 0, 320, .inl (fun _ => 0))), (q17, .inl (cA 0, 320, .inl (fun _ => 0))), (q26, .inl (cA 0, 2048, .inl (fun _ => 0)))] := hD
  refine lv_aload_n hx hb dq_2_31 rfl (lv_at hl 0 rfl) ?_
  refine lv_aload_n hx hb dq_2_32 rfl (lv_at hl 1 rfl) ?_
  refine va_putF (D := (dC, dI)) (ci := 2) (v := .ref y0) (ty := .object "ThreeBreaths$Board") (C := RX2) (T := TX2) (N := 6) hx hb hts mm_i2 tyX2 tyX2_ok nmX2 hown hK hP hD hS 0 rfl rfl 0 (by decide) (hts _ (mm_pF_ws (e := (2, 23, 2, 0, 922)) (List.mem_of_getElem? (i := 61) rfl))) (fun _ h9 => h9) rfl hin rfl (by decide +kernel) rfl rfl (Nat.le_of_ble_eq_true rfl) dq_2_33 (fun H locs hP hD hS => ?_)
  have hP : va_P (dC, dI) vwCl [(h0, .inr (2, [.ref y0, .ref q8, .ref q17, .int 0, .ref q26, .int 0])), (q8, .inl (cA 0, 320, .inl (fun _ => 0))), (q17, .inl (cA 0, 320, .inl (fun _ => 0))), (q26, .inl (cA 0, 2048, .inl (fun _ => 0)))] H := hP
  have hD : va_D A [(h0, .inr (2, [.ref y0, .ref q8, .ref q17, .int 0, .ref q26, .int 0])), (q8, .inl (cA 0, 320, .inl (fun _ => 0))), (q17, .inl (cA 0, 320, .inl (fun _ => 0))), (q26, .inl (cA 0, 2048, .inl (fun _ => 0)))] := hD
  have hP9 := hP.sub (ws' := w_init_2 cA h0 y0 (fun j => [h0, q8, q17, q26].getD j 0)) [0, 1, 2, 3] rfl
  have hD9 := hD.sub (ws' := w_init_2 cA h0 y0 (fun j => [h0, q8, q17, q26].getD j 0)) [0, 1, 2, 3] (by decide) rfl
  refine W.widen (k := 3) (n := 2688) (by omega) (by omega) ?_
  exact W.vret hx hb hr (fun t ht hW => ⟨⟨(fun j => [h0, q8, q17, q26].getD j 0), rfl, trivial, by rw [ht]; exact hP9, va_K.moved hW.alike hK, hD9⟩, hS.F ht⟩) hS.2.2 dq_2_36
theorem dq_7_0 : decode cX7_init 0 = .ok (.aload_n 0, 1) := by decide +kernel
theorem dq_7_1 : decode cX7_init 1 = .ok (.invokespecial 7, 3) := by decide +kernel
theorem dq_7_4 : decode cX7_init 4 = .ok (.aload_n 0, 1) := by decide +kernel
theorem dq_7_5 : decode cX7_init 5 = .ok (.sipush 16384, 3) := by decide +kernel
theorem dq_7_8 : decode cX7_init 8 = .ok (.newarray .int, 2) := by decide +kernel
theorem dq_7_10 : decode cX7_init 10 = .ok (.putfield 13, 3) := by decide +kernel
theorem dq_7_13 : decode cX7_init 13 = .ok (.aload_n 0, 1) := by decide +kernel
theorem dq_7_14 : decode cX7_init 14 = .ok (.sipush 6912, 3) := by decide +kernel
theorem dq_7_17 : decode cX7_init 17 = .ok (.newarray .int, 2) := by decide +kernel
theorem dq_7_19 : decode cX7_init 19 = .ok (.putfield 17, 3) := by decide +kernel
theorem dq_7_22 : decode cX7_init 22 = .ok (.aload_n 0, 1) := by decide +kernel
theorem dq_7_23 : decode cX7_init 23 = .ok (.sipush 6912, 3) := by decide +kernel
theorem dq_7_26 : decode cX7_init 26 = .ok (.newarray .int, 2) := by decide +kernel
theorem dq_7_28 : decode cX7_init 28 = .ok (.putfield 20, 3) := by decide +kernel
theorem dq_7_31 : decode cX7_init 31 = .ok (.aload_n 0, 1) := by decide +kernel
theorem dq_7_32 : decode cX7_init 32 = .ok (.sipush 17280, 3) := by decide +kernel
theorem dq_7_35 : decode cX7_init 35 = .ok (.newarray .int, 2) := by decide +kernel
theorem dq_7_37 : decode cX7_init 37 = .ok (.putfield 23, 3) := by decide +kernel
theorem dq_7_40 : decode cX7_init 40 = .ok (.aload_n 0, 1) := by decide +kernel
theorem dq_7_41 : decode cX7_init 41 = .ok (.iconst 5, 1) := by decide +kernel
theorem dq_7_42 : decode cX7_init 42 = .ok (.newarray .int, 2) := by decide +kernel
theorem dq_7_44 : decode cX7_init 44 = .ok (.putfield 26, 3) := by decide +kernel
theorem dq_7_47 : decode cX7_init 47 = .ok (.aload_n 0, 1) := by decide +kernel
theorem dq_7_48 : decode cX7_init 48 = .ok (.sipush 3456, 3) := by decide +kernel
theorem dq_7_51 : decode cX7_init 51 = .ok (.newarray .int, 2) := by decide +kernel
theorem dq_7_53 : decode cX7_init 53 = .ok (.putfield 29, 3) := by decide +kernel
theorem dq_7_56 : decode cX7_init 56 = .ok (.aload_n 0, 1) := by decide +kernel
theorem dq_7_57 : decode cX7_init 57 = .ok (.aload_n 1, 1) := by decide +kernel
theorem dq_7_58 : decode cX7_init 58 = .ok (.putfield 32, 3) := by decide +kernel
theorem dq_7_61 : decode cX7_init 61 = .ok (.aload_n 0, 1) := by decide +kernel
theorem dq_7_62 : decode cX7_init 62 = .ok (.new 36, 3) := by decide +kernel
theorem dq_7_65 : decode cX7_init 65 = .ok (.dup, 1) := by decide +kernel
theorem dq_7_66 : decode cX7_init 66 = .ok (.aload_n 1, 1) := by decide +kernel
theorem dq_7_67 : decode cX7_init 67 = .ok (.invokespecial 38, 3) := by decide +kernel
theorem dq_7_70 : decode cX7_init 70 = .ok (.putfield 41, 3) := by decide +kernel
theorem dq_7_73 : decode cX7_init 73 = .ok (.return_, 1) := by decide +kernel
abbrev w_init_7 (cA : Nat → ClassId) (h0 : Nat) (y0 : Nat) (u : Nat → Nat) : va_W := [(h0, .inr (7, [.ref y0, .ref (u 1), .ref (u 5), .ref (u 6), .ref (u 7), .int 0, .ref (u 8), .ref (u 9), .ref (u 10), .int 0, .int 0, .int 0, .int 0, .int 0])), ((u 1), .inr (2, [.ref y0, .ref (u 2), .ref (u 3), .int 0, .ref (u 4), .int 0])), ((u 2), .inl (cA 0, 320, .inl (fun _ => 0))), ((u 3), .inl (cA 0, 320, .inl (fun _ => 0))), ((u 4), .inl (cA 0, 2048, .inl (fun _ => 0))), ((u 5), .inl (cA 0, 16384, .inl (fun _ => 0))), ((u 6), .inl (cA 0, 6912, .inl (fun _ => 0))), ((u 7), .inl (cA 0, 6912, .inl (fun _ => 0))), ((u 8), .inl (cA 0, 17280, .inl (fun _ => 0))), ((u 9), .inl (cA 0, 5, .inl (fun _ => 0))), ((u 10), .inl (cA 0, 3456, .inl (fun _ => 0)))]
set_option maxHeartbeats 4000000 in
set_option maxRecDepth 100000 in
theorem c_init_7 (l : Launch) (dC : Nat → ClassId) (dI : Nat → Nat → Nat) (cA : Nat → ClassId) (h0 : Nat) (sz : Nat) (y0 : Nat) : Met l yX7_init (Cond.code yX7_init cX7_init 2 none :: mm_ws) ({ frames := 3, cells := 10, slots := 53643, locals := 180 }) (va_Pc [.ref h0, .ref y0] (mm_pj dC dI cA sz [(h0, .inr (7, [.null, .null, .null, .null, .null, .int 0, .null, .null, .null, .int 0, .int 0, .int 0, .int 0, .int 0]))])) (va_Qv (fun _ : Nat → Nat => True) (fun u t => va_P (dC, dI) vwCl (w_init_7 cA h0 y0 u) t.heap ∧ va_K (dC, dI) vwCl (mm_tys cA) t ∧ va_D (va_A [(h0, .inr (7, [.null, .null, .null, .null, .null, .int 0, .null, .null, .null, .int 0, .int 0, .int 0, .int 0, .int 0]))] sz) (w_init_7 cA h0 y0 u)) (va_A [(h0, .inr (7, [.null, .null, .null, .null, .null, .int 0, .null, .null, .null, .int 0, .int 0, .int 0, .int 0, .int 0]))] sz)) 10 53643 (va_A [(h0, .inr (7, [.null, .null, .null, .null, .null, .int 0, .null, .null, .null, .int 0, .int 0, .int 0, .int 0, .int 0]))] sz) := by
  refine Met.ofW (cc := cX7_init) (maxL := 2) (ret := none) (by decide) rfl ?_
  intro p e s m args below meth c s₁ B hml hv
  obtain ⟨rfl, hsz, hP, hK, hD0⟩ := hv
  have hx := B.exec
  have hb := B.bytes
  have hr := B.returns
  have hts0 := atoms_spec (ws := Cond.code yX7_init cX7_init 2 none :: mm_ws) B.pre
  have hts : ∀ w ∈ mm_ws, w.before ([.ref h0, .ref y0].toArray) s = true := fun w hw => hts0 w (List.mem_cons_of_mem _ hw)
  have hown : s.vm.findClass RX7 = some m.cls := findClass_of_methodNamed B.named
  have hlocks := B.notSynchronized
  have hin : meth.name = "<init>" := (name_of_methodNamed B.named B.method).1
  subst hsz
  have hD := hD0.self (sz := s.heap.size)
  generalize hAe : va_A [(h0, .inr (7, [.null, .null, .null, .null, .null, .int 0, .null, .null, .null, .int 0, .int 0, .int 0, .int 0, .int 0]))] s.heap.size = A at hD ⊢
  have hA : ∀ q : Nat, s.heap.size ≤ q → A q := fun q h => by rw [← hAe]; exact Or.inr h
  have hS : va_S A s.heap s.heap [] := va_S.rf
  have hP : va_P (dC, dI) vwCl [(h0, .inr (7, [.null, .null, .null, .null, .null, .int 0, .null, .null, .null, .int 0, .int 0, .int 0, .int 0, .int 0]))] s.heap := hP
  have hl := lv_entry ([.ref h0, .ref y0]) (n := 2) (Nat.le_of_ble_eq_true rfl)
  rw [lg_entry_eq]
  generalize (lg_sl ([.ref h0, .ref y0]) ++ List.replicate (2 - (lg_sl ([.ref h0, .ref y0])).length) Slot.unset).toArray = ls at hl ⊢
  have hl : lv_has ls 2 [(0, .ref h0), (1, .ref y0)] := hl
  refine lv_aload_n hx hb dq_7_0 rfl (lv_at hl 0 rfl) ?_
  refine W.objInit hx hb hown (hts _ wq_ob_7) (hts _ wq_obi) (hts _ wq_obc) rfl (by rw [hml]; exact hl.1) rfl dq_7_1 (Nat.le_of_ble_eq_true rfl) (Nat.le_of_ble_eq_true rfl) ?_
  refine W.eq (g2 := F0 m 4 ls []) rfl ?_
  refine lv_aload_n hx hb dq_7_4 rfl (lv_at hl 0 rfl) ?_
  refine lv_sipush (v := 16384) hx hb dq_7_5 (by decide) ?_
  refine mm_newa (N' := 16384) 0 hx hb (hts _ wq_ac_int) rfl hK rfl (fun _ h => h) hP hD hS hA (a0 := (16384, .inl (fun _ => 0))) (fun cA => rfl) (by decide) (by decide) (by decide) (Nat.le_of_ble_eq_true rfl) (Nat.le_of_ble_eq_true rfl) dq_7_8 (fun q8 H hP hD hS => ?_)
  have hP : va_P (dC, dI) vwCl [(h0, .inr (7, [.null, .null, .null, .null, .null, .int 0, .null, .null, .null, .int 0, .int 0, .int 0, .int 0, .int 0])), (q8, .inl (cA 0, 16384, .inl (fun _ => 0)))] H := hP
  have hD : va_D A [(h0, .inr (7, [.null, .null, .null, .null, .null, .int 0, .null, .null, .null, .int 0, .int 0, .int 0, .int 0, .int 0])), (q8, .inl (cA 0, 16384, .inl (fun _ => 0)))] := hD
  refine W.widen (k := 1) (n := 16384) (by omega) (by omega) ?_
  refine va_putF (D := (dC, dI)) (ci := 7) (v := .ref q8) (ty := .array .int) (C := RX7) (T := TX7) (N := 14) hx hb hts mm_i7 tyX7 tyX7_ok nmX7 hown hK hP hD hS 0 rfl rfl 2 (by decide) (hts _ (mm_pF_ws (e := (7, 13, 7, 2, 946)) (List.mem_of_getElem? (i := 69) rfl))) (fun _ h9 => h9) rfl hin rfl (by decide +kernel) rfl rfl (Nat.le_of_ble_eq_true rfl) dq_7_10 (fun H locs hP hD hS => ?_)
  have hP : va_P (dC, dI) vwCl [(h0, .inr (7, [.null, .null, .ref q8, .null, .null, .int 0, .null, .null, .null, .int 0, .int 0, .int 0, .int 0, .int 0])), (q8, .inl (cA 0, 16384, .inl (fun _ => 0)))] H := hP
  have hD : va_D A [(h0, .inr (7, [.null, .null, .ref q8, .null, .null, .int 0, .null, .null, .null, .int 0, .int 0, .int 0, .int 0, .int 0])), (q8, .inl (cA 0, 16384, .inl (fun _ => 0)))] := hD
  refine lv_aload_n hx hb dq_7_13 rfl (lv_at hl 0 rfl) ?_
  refine lv_sipush (v := 6912) hx hb dq_7_14 (by decide) ?_
  refine mm_newa (N' := 6912) 0 hx hb (hts _ wq_ac_int) rfl hK rfl (fun _ h => h) hP hD hS hA (a0 := (6912, .inl (fun _ => 0))) (fun cA => rfl) (by decide) (by decide) (by decide) (Nat.le_of_ble_eq_true rfl) (Nat.le_of_ble_eq_true rfl) dq_7_17 (fun q17 H hP hD hS => ?_)
  have hP : va_P (dC, dI) vwCl [(h0, .inr (7, [.null, .null, .ref q8, .null, .null, .int 0, .null, .null, .null, .int 0, .int 0, .int 0, .int 0, .int 0])), (q8, .inl (cA 0, 16384, .inl (fun _ => 0))), (q17, .inl (cA 0, 6912, .inl (fun _ => 0)))] H := hP
  have hD : va_D A [(h0, .inr (7, [.null, .null, .ref q8, .null, .null, .int 0, .null, .null, .null, .int 0, .int 0, .int 0, .int 0, .int 0])), (q8, .inl (cA 0, 16384, .inl (fun _ => 0))), (q17, .inl (cA 0, 6912, .inl (fun _ => 0)))] := hD
  refine W.widen (k := 2) (n := 23296) (by omega) (by omega) ?_
  refine va_putF (D := (dC, dI)) (ci := 7) (v := .ref q17) (ty := .array .int) (C := RX7) (T := TX7) (N := 14) hx hb hts mm_i7 tyX7 tyX7_ok nmX7 hown hK hP hD hS 0 rfl rfl 3 (by decide) (hts _ (mm_pF_ws (e := (7, 17, 7, 3, 947)) (List.mem_of_getElem? (i := 70) rfl))) (fun _ h9 => h9) rfl hin rfl (by decide +kernel) rfl rfl (Nat.le_of_ble_eq_true rfl) dq_7_19 (fun H locs hP hD hS => ?_)
  have hP : va_P (dC, dI) vwCl [(h0, .inr (7, [.null, .null, .ref q8, .ref q17, .null, .int 0, .null, .null, .null, .int 0, .int 0, .int 0, .int 0, .int 0])), (q8, .inl (cA 0, 16384, .inl (fun _ => 0))), (q17, .inl (cA 0, 6912, .inl (fun _ => 0)))] H := hP
  have hD : va_D A [(h0, .inr (7, [.null, .null, .ref q8, .ref q17, .null, .int 0, .null, .null, .null, .int 0, .int 0, .int 0, .int 0, .int 0])), (q8, .inl (cA 0, 16384, .inl (fun _ => 0))), (q17, .inl (cA 0, 6912, .inl (fun _ => 0)))] := hD
  refine lv_aload_n hx hb dq_7_22 rfl (lv_at hl 0 rfl) ?_
  refine lv_sipush (v := 6912) hx hb dq_7_23 (by decide) ?_
  refine mm_newa (N' := 6912) 0 hx hb (hts _ wq_ac_int) rfl hK rfl (fun _ h => h) hP hD hS hA (a0 := (6912, .inl (fun _ => 0))) (fun cA => rfl) (by decide) (by decide) (by decide) (Nat.le_of_ble_eq_true rfl) (Nat.le_of_ble_eq_true rfl) dq_7_26 (fun q26 H hP hD hS => ?_)
  have hP : va_P (dC, dI) vwCl [(h0, .inr (7, [.null, .null, .ref q8, .ref q17, .null, .int 0, .null, .null, .null, .int 0, .int 0, .int 0, .int 0, .int 0])), (q8, .inl (cA 0, 16384, .inl (fun _ => 0))), (q17, .inl (cA 0, 6912, .inl (fun _ => 0))), (q26, .inl (cA 0, 6912, .inl (fun _ => 0)))] H := hP
  have hD : va_D A [(h0, .inr (7, [.null, .null, .ref q8, .ref q17, .null, .int 0, .null, .null, .null, .int 0, .int 0, .int 0, .int 0, .int 0])), (q8, .inl (cA 0, 16384, .inl (fun _ => 0))), (q17, .inl (cA 0, 6912, .inl (fun _ => 0))), (q26, .inl (cA 0, 6912, .inl (fun _ => 0)))] := hD
  refine W.widen (k := 3) (n := 30208) (by omega) (by omega) ?_
  refine va_putF (D := (dC, dI)) (ci := 7) (v := .ref q26) (ty := .array .int) (C := RX7) (T := TX7) (N := 14) hx hb hts mm_i7 tyX7 tyX7_ok nmX7 hown hK hP hD hS 0 rfl rfl 4 (by decide) (hts _ (mm_pF_ws (e := (7, 20, 7, 4, 948)) (List.mem_of_getElem? (i := 71) rfl))) (fun _ h9 => h9) rfl hin rfl (by decide +kernel) rfl rfl (Nat.le_of_ble_eq_true rfl) dq_7_28 (fun H locs hP hD hS => ?_)
  have hP : va_P (dC, dI) vwCl [(h0, .inr (7, [.null, .null, .ref q8, .ref q17, .ref q26, .int 0, .null, .null, .null, .int 0, .int 0, .int 0, .int 0, .int 0])), (q8, .inl (cA 0, 16384, .inl (fun _ => 0))), (q17, .inl (cA 0, 6912, .inl (fun _ => 0))), (q26, .inl (cA 0, 6912, .inl (fun _ => 0)))] H := hP
  have hD : va_D A [(h0, .inr (7, [.null, .null, .ref q8, .ref q17, .ref q26, .int 0, .null, .null, .null, .int 0, .int 0, .int 0, .int 0, .int 0])), (q8, .inl (cA 0, 16384, .inl (fun _ => 0))), (q17, .inl (cA 0, 6912, .inl (fun _ => 0))), (q26, .inl (cA 0, 6912, .inl (fun _ => 0)))] := hD
  refine lv_aload_n hx hb dq_7_31 rfl (lv_at hl 0 rfl) ?_
  refine lv_sipush (v := 17280) hx hb dq_7_32 (by decide) ?_
  refine mm_newa (N' := 17280) 0 hx hb (hts _ wq_ac_int) rfl hK rfl (fun _ h => h) hP hD hS hA (a0 := (17280, .inl (fun _ => 0))) (fun cA => rfl) (by decide) (by decide) (by decide) (Nat.le_of_ble_eq_true rfl) (Nat.le_of_ble_eq_true rfl) dq_7_35 (fun q35 H hP hD hS => ?_)
  have hP : va_P (dC, dI) vwCl [(h0, .inr (7, [.null, .null, .ref q8, .ref q17, .ref q26, .int 0, .null, .null, .null, .int 0, .int 0, .int 0, .int 0, .int 0])), (q8, .inl (cA 0, 16384, .inl (fun _ => 0))), (q17, .inl (cA 0, 6912, .inl (fun _ => 0))), (q26, .inl (cA 0, 6912, .inl (fun _ => 0))), (q35, .inl (cA 0, 17280, .inl (fun _ => 0)))] H := hP
  have hD : va_D A [(h0, .inr (7, [.null, .null, .ref q8, .ref q17, .ref q26, .int 0, .null, .null, .null, .int 0, .int 0, .int 0, .int 0, .int 0])), (q8, .inl (cA 0, 16384, .inl (fun _ => 0))), (q17, .inl (cA 0, 6912, .inl (fun _ => 0))), (q26, .inl (cA 0, 6912, .inl (fun _ => 0))), (q35, .inl (cA 0, 17280, .inl (fun _ => 0)))] := hD
  refine W.widen (k := 4) (n := 47488) (by omega) (by omega) ?_
  refine va_putF (D := (dC, dI)) (ci := 7) (v := .ref q35) (ty := .array .int) (C := RX7) (T := TX7) (N := 14) hx hb hts mm_i7 tyX7 tyX7_ok nmX7 hown hK hP hD hS 0 rfl rfl 6 (by decide) (hts _ (mm_pF_ws (e := (7, 23, 7, 6, 950)) (List.mem_of_getElem? (i := 73) rfl))) (fun _ h9 => h9) rfl hin rfl (by decide +kernel) rfl rfl (Nat.le_of_ble_eq_true rfl) dq_7_37 (fun H locs hP hD hS => ?_)
  have hP : va_P (dC, dI) vwCl [(h0, .inr (7, [.null, .null, .ref q8, .ref q17, .ref q26, .int 0, .ref q35, .null, .null, .int 0, .int 0, .int 0, .int 0, .int 0])), (q8, .inl (cA 0, 16384, .inl (fun _ => 0))), (q17, .inl (cA 0, 6912, .inl (fun _ => 0))), (q26, .inl (cA 0, 6912, .inl (fun _ => 0))), (q35, .inl (cA 0, 17280, .inl (fun _ => 0)))] H := hP
  have hD : va_D A [(h0, .inr (7, [.null, .null, .ref q8, .ref q17, .ref q26, .int 0, .ref q35, .null, .null, .int 0, .int 0, .int 0, .int 0, .int 0])), (q8, .inl (cA 0, 16384, .inl (fun _ => 0))), (q17, .inl (cA 0, 6912, .inl (fun _ => 0))), (q26, .inl (cA 0, 6912, .inl (fun _ => 0))), (q35, .inl (cA 0, 17280, .inl (fun _ => 0)))] := hD
  refine lv_aload_n hx hb dq_7_40 rfl (lv_at hl 0 rfl) ?_
  refine lv_iconst (v := 5) hx hb dq_7_41 (by decide) ?_
  refine mm_newa (N' := 5) 0 hx hb (hts _ wq_ac_int) rfl hK rfl (fun _ h => h) hP hD hS hA (a0 := (5, .inl (fun _ => 0))) (fun cA => rfl) (by decide) (by decide) (by decide) (Nat.le_of_ble_eq_true rfl) (Nat.le_of_ble_eq_true rfl) dq_7_42 (fun q42 H hP hD hS => ?_)
  have hP : va_P (dC, dI) vwCl [(h0, .inr (7, [.null, .null, .ref q8, .ref q17, .ref q26, .int 0, .ref q35, .null, .null, .int 0, .int 0, .int 0, .int 0, .int 0])), (q8, .inl (cA 0, 16384, .inl (fun _ => 0))), (q17, .inl (cA 0, 6912, .inl (fun _ => 0))), (q26, .inl (cA 0, 6912, .inl (fun _ => 0))), (q35, .inl (cA 0, 17280, .inl (fun _ => 0))), (q42, .inl (cA 0, 5, .inl (fun _ => 0)))] H := hP
  have hD : va_D A [(h0, .inr (7, [.null, .null, .ref q8, .ref q17, .ref q26, .int 0, .ref q35, .null, .null, .int 0, .int 0, .int 0, .int 0, .int 0])), (q8, .inl (cA 0, 16384, .inl (fun _ => 0))), (q17, .inl (cA 0, 6912, .inl (fun _ => 0))), (q26, .inl (cA 0, 6912, .inl (fun _ => 0))), (q35, .inl (cA 0, 17280, .inl (fun _ => 0))), (q42, .inl (cA 0, 5, .inl (fun _ => 0)))] := hD
  refine W.widen (k := 5) (n := 47493) (by omega) (by omega) ?_
  refine va_putF (D := (dC, dI)) (ci := 7) (v := .ref q42) (ty := .array .int) (C := RX7) (T := TX7) (N := 14) hx hb hts mm_i7 tyX7 tyX7_ok nmX7 hown hK hP hD hS 0 rfl rfl 7 (by decide) (hts _ (mm_pF_ws (e := (7, 26, 7, 7, 951)) (List.mem_of_getElem? (i := 74) rfl))) (fun _ h9 => h9) rfl hin rfl (by decide +kernel) rfl rfl (Nat.le_of_ble_eq_true rfl) dq_7_44 (fun H locs hP hD hS => ?_)
  have hP : va_P (dC, dI) vwCl [(h0, .inr (7, [.null, .null, .ref q8, .ref q17, .ref q26, .int 0, .ref q35, .ref q42, .null, .int 0, .int 0, .int 0, .int 0, .int 0])), (q8, .inl (cA 0, 16384, .inl (fun _ => 0))), (q17, .inl (cA 0, 6912, .inl (fun _ => 0))), (q26, .inl (cA 0, 6912, .inl (fun _ => 0))), (q35, .inl (cA 0, 17280, .inl (fun _ => 0))), (q42, .inl (cA 0, 5, .inl (fun _ => 0)))] H := hP
  have hD : va_D A [(h0, .inr (7, [.null, .null, .ref q8, .ref q17, .ref q26, .int 0, .ref q35, .ref q42, .null, .int 0, .int 0, .int 0, .int 0, .int 0])), (q8, .inl (cA 0, 16384, .inl (fun _ => 0))), (q17, .inl (cA 0, 6912, .inl (fun _ => 0))), (q26, .inl (cA 0, 6912, .inl (fun _ => 0))), (q35, .inl (cA 0, 17280, .inl (fun _ => 0))), (q42, .inl (cA 0, 5, .inl (fun _ => 0)))] := hD
  refine lv_aload_n hx hb dq_7_47 rfl (lv_at hl 0 rfl) ?_
  refine lv_sipush (v := 3456) hx hb dq_7_48 (by decide) ?_
  refine mm_newa (N' := 3456) 0 hx hb (hts _ wq_ac_int) rfl hK rfl (fun _ h => h) hP hD hS hA (a0 := (3456, .inl (fun _ => 0))) (fun cA => rfl) (by decide) (by decide) (by decide) (Nat.le_of_ble_eq_true rfl) (Nat.le_of_ble_eq_true rfl) dq_7_51 (fun q51 H hP hD hS => ?_)
  have hP : va_P (dC, dI) vwCl [(h0, .inr (7, [.null, .null, .ref q8, .ref q17, .ref q26, .int 0, .ref q35, .ref q42, .null, .int 0, .int 0, .int 0, .int 0, .int 0])), (q8, .inl (cA 0, 16384, .inl (fun _ => 0))), (q17, .inl (cA 0, 6912, .inl (fun _ => 0))), (q26, .inl (cA 0, 6912, .inl (fun _ => 0))), (q35, .inl (cA 0, 17280, .inl (fun _ => 0))), (q42, .inl (cA 0, 5, .inl (fun _ => 0))), (q51, .inl (cA 0, 3456, .inl (fun _ => 0)))] H := hP
  have hD : va_D A [(h0, .inr (7, [.null, .null, .ref q8, .ref q17, .ref q26, .int 0, .ref q35, .ref q42, .null, .int 0, .int 0, .int 0, .int 0, .int 0])), (q8, .inl (cA 0, 16384, .inl (fun _ => 0))), (q17, .inl (cA 0, 6912, .inl (fun _ => 0))), (q26, .inl (cA 0, 6912, .inl (fun _ => 0))), (q35, .inl (cA 0, 17280, .inl (fun _ => 0))), (q42, .inl (cA 0, 5, .inl (fun _ => 0))), (q51, .inl (cA 0, 3456, .inl (fun _ => 0)))] := hD
  refine W.widen (k := 6) (n := 50949) (by omega) (by omega) ?_
  refine va_putF (D := (dC, dI)) (ci := 7) (v := .ref q51) (ty := .array .int) (C := RX7) (T := TX7) (N := 14) hx hb hts mm_i7 tyX7 tyX7_ok nmX7 hown hK hP hD hS 0 rfl rfl 8 (by decide) (hts _ (mm_pF_ws (e := (7, 29, 7, 8, 952)) (List.mem_of_getElem? (i := 75) rfl))) (fun _ h9 => h9) rfl hin rfl (by decide +kernel) rfl rfl (Nat.le_of_ble_eq_true rfl) dq_7_53 (fun H locs hP hD hS => ?_)
  have hP : va_P (dC, dI) vwCl [(h0, .inr (7, [.null, .null, .ref q8, .ref q17, .ref q26, .int 0, .ref q35, .ref q42, .ref q51, .int 0, .int 0, .int 0, .int 0, .int 0])), (q8, .inl (cA 0, 16384, .inl (fun _ => 0))), (q17, .inl (cA 0, 6912, .inl (fun _ => 0))), (q26, .inl (cA 0, 6912, .inl (fun _ => 0))), (q35, .inl (cA 0, 17280, .inl (fun _ => 0))), (q42, .inl (cA 0, 5, .inl (fun _ => 0))), (q51, .inl (cA 0, 3456, .inl (fun _ => 0)))] H := hP
  have hD : va_D A [(h0, .inr (7, [.null, .null, .ref q8, .ref q17, .ref q26, .int 0, .ref q35, .ref q42, .ref q51, .int 0, .int 0, .int 0, .int 0, .int 0])), (q8, .inl (cA 0, 16384, .inl (fun _ => 0))), (q17, .inl (cA 0, 6912, .inl (fun _ => 0))), (q26, .inl (cA 0, 6912, .inl (fun _ => 0))), (q35, .inl (cA 0, 17280, .inl (fun _ => 0))), (q42, .inl (cA 0, 5, .inl (fun _ => 0))), (q51, .inl (cA 0, 3456, .inl (fun _ => 0)))] := hD
  refine lv_aload_n hx hb dq_7_56 rfl (lv_at hl 0 rfl) ?_
  refine lv_aload_n hx hb dq_7_57 rfl (lv_at hl 1 rfl) ?_
  refine va_putF (D := (dC, dI)) (ci := 7) (v := .ref y0) (ty := .object "ThreeBreaths$Board") (C := RX7) (T := TX7) (N := 14) hx hb hts mm_i7 tyX7 tyX7_ok nmX7 hown hK hP hD hS 0 rfl rfl 0 (by decide) (hts _ (mm_pF_ws (e := (7, 32, 7, 0, 944)) (List.mem_of_getElem? (i := 67) rfl))) (fun _ h9 => h9) rfl hin rfl (by decide +kernel) rfl rfl (Nat.le_of_ble_eq_true rfl) dq_7_58 (fun H locs hP hD hS => ?_)
  have hP : va_P (dC, dI) vwCl [(h0, .inr (7, [.ref y0, .null, .ref q8, .ref q17, .ref q26, .int 0, .ref q35, .ref q42, .ref q51, .int 0, .int 0, .int 0, .int 0, .int 0])), (q8, .inl (cA 0, 16384, .inl (fun _ => 0))), (q17, .inl (cA 0, 6912, .inl (fun _ => 0))), (q26, .inl (cA 0, 6912, .inl (fun _ => 0))), (q35, .inl (cA 0, 17280, .inl (fun _ => 0))), (q42, .inl (cA 0, 5, .inl (fun _ => 0))), (q51, .inl (cA 0, 3456, .inl (fun _ => 0)))] H := hP
  have hD : va_D A [(h0, .inr (7, [.ref y0, .null, .ref q8, .ref q17, .ref q26, .int 0, .ref q35, .ref q42, .ref q51, .int 0, .int 0, .int 0, .int 0, .int 0])), (q8, .inl (cA 0, 16384, .inl (fun _ => 0))), (q17, .inl (cA 0, 6912, .inl (fun _ => 0))), (q26, .inl (cA 0, 6912, .inl (fun _ => 0))), (q35, .inl (cA 0, 17280, .inl (fun _ => 0))), (q42, .inl (cA 0, 5, .inl (fun _ => 0))), (q51, .inl (cA 0, 3456, .inl (fun _ => 0)))] := hD
  refine lv_aload_n hx hb dq_7_61 rfl (lv_at hl 0 rfl) ?_
  refine va_new (ci := 2) (fs := [.null, .null, .null, .int 0, .null, .int 0]) (C := RX2) (T := TX2) (N := 6) hx hb hts mm_i2 tyX2 tyX2_ok hown (hts _ wq_cl_7_36) (hts _ wq_in_2) (hts _ wq_it_2) hK hP hD hS hA rfl (fun j hj => by have := mm_lt_cases6 j hj; rcases this with rfl | rfl | rfl | rfl | rfl | rfl <;> rfl) (Nat.le_of_ble_eq_true rfl) (Nat.le_of_ble_eq_true rfl) dq_7_62 (fun q62 H hP hD hS => ?_)
  have hP : va_P (dC, dI) vwCl [(h0, .inr (7, [.ref y0, .null, .ref q8, .ref q17, .ref q26, .int 0, .ref q35, .ref q42, .ref q51, .int 0, .int 0, .int 0, .int 0, .int 0])), (q8, .inl (cA 0, 16384, .inl (fun _ => 0))), (q17, .inl (cA 0, 6912, .inl (fun _ => 0))), (q26, .inl (cA 0, 6912, .inl (fun _ => 0))), (q35, .inl (cA 0, 17280, .inl (fun _ => 0))), (q42, .inl (cA 0, 5, .inl (fun _ => 0))), (q51, .inl (cA 0, 3456, .inl (fun _ => 0))), (q62, .inr (2, [.null, .null, .null, .int 0, .null, .int 0]))] H := hP
  have hD : va_D A [(h0, .inr (7, [.ref y0, .null, .ref q8, .ref q17, .ref q26, .int 0, .ref q35, .ref q42, .ref q51, .int 0, .int 0, .int 0, .int 0, .int 0])), (q8, .inl (cA 0, 16384, .inl (fun _ => 0))), (q17, .inl (cA 0, 6912, .inl (fun _ => 0))), (q26, .inl (cA 0, 6912, .inl (fun _ => 0))), (q35, .inl (cA 0, 17280, .inl (fun _ => 0))), (q42, .inl (cA 0, 5, .inl (fun _ => 0))), (q51, .inl (cA 0, 3456, .inl (fun _ => 0))), (q62, .inr (2, [.null, .null, .null, .int 0, .null, .int 0]))] := hD
  refine W.widen (k := 7) (n := 50955) (by omega) (by omega) ?_
  refine lv_dup hx hb dq_7_65 rfl ?_
  refine lv_aload_n hx hb dq_7_66 rfl (lv_at hl 1 rfl) ?_
  have hPc := hP.sub (ws' := [(q62, .inr (2, [.null, .null, .null, .int 0, .null, .int 0]))]) [7] rfl
  have hDc := hD.sub (ws' := [(q62, .inr (2, [.null, .null, .null, .int 0, .null, .int 0]))]) [7] (by decide) rfl
  have hFc := va_free (wc := [(q62, .inr (2, [.null, .null, .null, .int 0, .null, .int 0]))]) hD hS hA [7] rfl
  refine va_callv (va_runI (As := [.ref y0]) (rest := [.ref q62, .ref h0]) (Ts := mm_ws) ⟨hx, hb, hml, hown, hts⟩ (c_init_2 l dC dI cA q62 H.size y0) ⟨mm_cb2 hts wq_ic_2 wq_it_2 wq_mi_7_38 rfl rfl (by decide) (by show _ = some 1; decide +kernel) ⟨Nat.le_of_ble_eq_true rfl, Nat.le_of_ble_eq_true rfl⟩, rfl, hts _ wq_ii_2⟩ ⟨mm_pj_blind, fun U hU hW => ⟨rfl, by rw [hU], by rw [hU]; exact hPc, va_K.moved hW.alike hK, hDc.weaken (fun _ _ _ _ => trivial)⟩⟩ rfl rfl hl.1 rfl (lv_room (Nat.le_of_ble_eq_true rfl)) dq_7_67 ⟨Nat.le_of_ble_eq_true rfl, Nat.le_of_ble_eq_true rfl⟩) hS (fun q _ h => hFc q h) hFc (fun u67 t H1 locs ht hvm hw hB hz1 hk1 hS => ?_)
  obtain ⟨hP1, hK1, hD1⟩ := hB
  rw [ht] at hP1
  obtain ⟨hP, hD⟩ := va_join (wr := [(h0, .inr (7, [.ref y0, .null, .ref q8, .ref q17, .ref q26, .int 0, .ref q35, .ref q42, .ref q51, .int 0, .int 0, .int 0, .int 0, .int 0])), (q8, .inl (cA 0, 16384, .inl (fun _ => 0))), (q17, .inl (cA 0, 6912, .inl (fun _ => 0))), (q26, .inl (cA 0, 6912, .inl (fun _ => 0))), (q35, .inl (cA 0, 17280, .inl (fun _ => 0))), (q42, .inl (cA 0, 5, .inl (fun _ => 0))), (q51, .inl (cA 0, 3456, .inl (fun _ => 0)))]) (w1 := [(q62, .inr (2, [.ref y0, .ref (u67 1), .ref (u67 2), .int 0, .ref (u67 3), .int 0])), ((u67 1), .inl (cA 0, 320, .inl (fun _ => 0))), ((u67 2), .inl (cA 0, 320, .inl (fun _ => 0))), ((u67 3), .inl (cA 0, 2048, .inl (fun _ => 0)))]) hP hD [7] [0, 1, 2, 3, 4, 5, 6] rfl rfl (by decide) (by decide) hk1 hFc hP1 hD1
  generalize H1 = H at hP hS ⊢
  have hP : va_P (dC, dI) vwCl [(h0, .inr (7, [.ref y0, .null, .ref q8, .ref q17, .ref q26, .int 0, .ref q35, .ref q42, .ref q51, .int 0, .int 0, .int 0, .int 0, .int 0])), (q8, .inl (cA 0, 16384, .inl (fun _ => 0))), (q17, .inl (cA 0, 6912, .inl (fun _ => 0))), (q26, .inl (cA 0, 6912, .inl (fun _ => 0))), (q35, .inl (cA 0, 17280, .inl (fun _ => 0))), (q42, .inl (cA 0, 5, .inl (fun _ => 0))), (q51, .inl (cA 0, 3456, .inl (fun _ => 0))), (q62, .inr (2, [.ref y0, .ref (u67 1), .ref (u67 2), .int 0, .ref (u67 3), .int 0])), ((u67 1), .inl (cA 0, 320, .inl (fun _ => 0))), ((u67 2), .inl (cA 0, 320, .inl (fun _ => 0))), ((u67 3), .inl (cA 0, 2048, .inl (fun _ => 0)))] H := hP
  have hD : va_D A [(h0, .inr (7, [.ref y0, .null, .ref q8, .ref q17, .ref q26, .int 0, .ref q35, .ref q42, .ref q51, .int 0, .int 0, .int 0, .int 0, .int 0])), (q8, .inl (cA 0, 16384, .inl (fun _ => 0))), (q17, .inl (cA 0, 6912, .inl (fun _ => 0))), (q26, .inl (cA 0, 6912, .inl (fun _ => 0))), (q35, .inl (cA 0, 17280, .inl (fun _ => 0))), (q42, .inl (cA 0, 5, .inl (fun _ => 0))), (q51, .inl (cA 0, 3456, .inl (fun _ => 0))), (q62, .inr (2, [.ref y0, .ref (u67 1), .ref (u67 2), .int 0, .ref (u67 3), .int 0])), ((u67 1), .inl (cA 0, 320, .inl (fun _ => 0))), ((u67 2), .inl (cA 0, 320, .inl (fun _ => 0))), ((u67 3), .inl (cA 0, 2048, .inl (fun _ => 0)))] := hD
  refine W.widen (k := 10) (n := 53643) (by omega) (by omega) ?_
  refine va_putF (D := (dC, dI)) (ci := 7) (v := .ref q62) (ty := .object "ThreeBreaths$FanList") (C := RX7) (T := TX7) (N := 14) hx hb hts mm_i7 tyX7 tyX7_ok nmX7 hown hK hP hD hS 0 rfl rfl 1 (by decide) (hts _ (mm_pF_ws (e := (7, 41, 7, 1, 945)) (List.mem_of_getElem? (i := 68) rfl))) (fun _ h9 => h9) rfl hin rfl (by decide +kernel) rfl rfl (Nat.le_of_ble_eq_true rfl) dq_7_70 (fun H locs hP hD hS => ?_)
  have hP : va_P (dC, dI) vwCl [(h0, .inr (7, [.ref y0, .ref q62, .ref q8, .ref q17, .ref q26, .int 0, .ref q35, .ref q42, .ref q51, .int 0, .int 0, .int 0, .int 0, .int 0])), (q8, .inl (cA 0, 16384, .inl (fun _ => 0))), (q17, .inl (cA 0, 6912, .inl (fun _ => 0))), (q26, .inl (cA 0, 6912, .inl (fun _ => 0))), (q35, .inl (cA 0, 17280, .inl (fun _ => 0))), (q42, .inl (cA 0, 5, .inl (fun _ => 0))), (q51, .inl (cA 0, 3456, .inl (fun _ => 0))), (q62, .inr (2, [.ref y0, .ref (u67 1), .ref (u67 2), .int 0, .ref (u67 3), .int 0])), ((u67 1), .inl (cA 0, 320, .inl (fun _ => 0))), ((u67 2), .inl (cA 0, 320, .inl (fun _ => 0))), ((u67 3), .inl (cA 0, 2048, .inl (fun _ => 0)))] H := hP
  have hD : va_D A [(h0, .inr (7, [.ref y0, .ref q62, .ref q8, .ref q17, .ref q26, .int 0, .ref q35, .ref q42, .ref q51, .int 0, .int 0, .int 0, .int 0, .int 0])), (q8, .inl (cA 0, 16384, .inl (fun _ => 0))), (q17, .inl (cA 0, 6912, .inl (fun _ => 0))), (q26, .inl (cA 0, 6912, .inl (fun _ => 0))), (q35, .inl (cA 0, 17280, .inl (fun _ => 0))), (q42, .inl (cA 0, 5, .inl (fun _ => 0))), (q51, .inl (cA 0, 3456, .inl (fun _ => 0))), (q62, .inr (2, [.ref y0, .ref (u67 1), .ref (u67 2), .int 0, .ref (u67 3), .int 0])), ((u67 1), .inl (cA 0, 320, .inl (fun _ => 0))), ((u67 2), .inl (cA 0, 320, .inl (fun _ => 0))), ((u67 3), .inl (cA 0, 2048, .inl (fun _ => 0)))] := hD
  have hP9 := hP.sub (ws' := w_init_7 cA h0 y0 (fun j => [h0, q62, (u67 1), (u67 2), (u67 3), q8, q17, q26, q35, q42, q51].getD j 0)) [0, 7, 8, 9, 10, 1, 2, 3, 4, 5, 6] rfl
  have hD9 := hD.sub (ws' := w_init_7 cA h0 y0 (fun j => [h0, q62, (u67 1), (u67 2), (u67 3), q8, q17, q26, q35, q42, q51].getD j 0)) [0, 7, 8, 9, 10, 1, 2, 3, 4, 5, 6] (by decide) rfl
  refine W.widen (k := 10) (n := 53643) (by omega) (by omega) ?_
  exact W.vret hx hb hr (fun t ht hW => ⟨⟨(fun j => [h0, q62, (u67 1), (u67 2), (u67 3), q8, q17, q26, q35, q42, q51].getD j 0), rfl, trivial, by rw [ht]; exact hP9, va_K.moved hW.alike hK, hD9⟩, hS.F ht⟩) hS.2.2 dq_7_73
theorem dq_8_0 : decode cX8_init 0 = .ok (.aload_n 0, 1) := by decide +kernel
theorem dq_8_1 : decode cX8_init 1 = .ok (.invokespecial 3, 3) := by decide +kernel
theorem dq_8_4 : decode cX8_init 4 = .ok (.aload_n 0, 1) := by decide +kernel
theorem dq_8_5 : decode cX8_init 5 = .ok (.sipush 320, 3) := by decide +kernel
theorem dq_8_8 : decode cX8_init 8 = .ok (.newarray .int, 2) := by decide +kernel
theorem dq_8_10 : decode cX8_init 10 = .ok (.putfield 9, 3) := by decide +kernel
theorem dq_8_13 : decode cX8_init 13 = .ok (.aload_n 0, 1) := by decide +kernel
theorem dq_8_14 : decode cX8_init 14 = .ok (.aload_n 1, 1) := by decide +kernel
theorem dq_8_15 : decode cX8_init 15 = .ok (.putfield 15, 3) := by decide +kernel
theorem dq_8_18 : decode cX8_init 18 = .ok (.return_, 1) := by decide +kernel
abbrev w_init_8 (cA : Nat → ClassId) (h0 : Nat) (y0 : Nat) (u : Nat → Nat) : va_W := [(h0, .inr (8, [.ref y0, .ref (u 1)])), ((u 1), .inl (cA 0, 320, .inl (fun _ => 0)))]
set_option maxHeartbeats 4000000 in
set_option maxRecDepth 100000 in
theorem c_init_8 (l : Launch) (dC : Nat → ClassId) (dI : Nat → Nat → Nat) (cA : Nat → ClassId) (h0 : Nat) (sz : Nat) (y0 : Nat) : Met l yX8_init (Cond.code yX8_init cX8_init 2 none :: mm_ws) ({ frames := 1, cells := 1, slots := 320, locals := 60 }) (va_Pc [.ref h0, .ref y0] (mm_pj dC dI cA sz [(h0, .inr (8, [.null, .null]))])) (va_Qv (fun _ : Nat → Nat => True) (fun u t => va_P (dC, dI) vwCl (w_init_8 cA h0 y0 u) t.heap ∧ va_K (dC, dI) vwCl (mm_tys cA) t ∧ va_D (va_A [(h0, .inr (8, [.null, .null]))] sz) (w_init_8 cA h0 y0 u)) (va_A [(h0, .inr (8, [.null, .null]))] sz)) 1 320 (va_A [(h0, .inr (8, [.null, .null]))] sz) := by
  refine Met.ofW (cc := cX8_init) (maxL := 2) (ret := none) (by decide) rfl ?_
  intro p e s m args below meth c s₁ B hml hv
  obtain ⟨rfl, hsz, hP, hK, hD0⟩ := hv
  have hx := B.exec
  have hb := B.bytes
  have hr := B.returns
  have hts0 := atoms_spec (ws := Cond.code yX8_init cX8_init 2 none :: mm_ws) B.pre
  have hts : ∀ w ∈ mm_ws, w.before ([.ref h0, .ref y0].toArray) s = true := fun w hw => hts0 w (List.mem_cons_of_mem _ hw)
  have hown : s.vm.findClass RX8 = some m.cls := findClass_of_methodNamed B.named
  have hlocks := B.notSynchronized
  have hin : meth.name = "<init>" := (name_of_methodNamed B.named B.method).1
  subst hsz
  have hD := hD0.self (sz := s.heap.size)
  generalize hAe : va_A [(h0, .inr (8, [.null, .null]))] s.heap.size = A at hD ⊢
  have hA : ∀ q : Nat, s.heap.size ≤ q → A q := fun q h => by rw [← hAe]; exact Or.inr h
  have hS : va_S A s.heap s.heap [] := va_S.rf
  have hP : va_P (dC, dI) vwCl [(h0, .inr (8, [.null, .null]))] s.heap := hP
  have hl := lv_entry ([.ref h0, .ref y0]) (n := 2) (Nat.le_of_ble_eq_true rfl)
  rw [lg_entry_eq]
  generalize (lg_sl ([.ref h0, .ref y0]) ++ List.replicate (2 - (lg_sl ([.ref h0, .ref y0])).length) Slot.unset).toArray = ls at hl ⊢
  have hl : lv_has ls 2 [(0, .ref h0), (1, .ref y0)] := hl
  refine lv_aload_n hx hb dq_8_0 rfl (lv_at hl 0 rfl) ?_
  refine W.objInit hx hb hown (hts _ wq_ob_8) (hts _ wq_obi) (hts _ wq_obc) rfl (by rw [hml]; exact hl.1) rfl dq_8_1 (Nat.le_of_ble_eq_true rfl) (Nat.le_of_ble_eq_true rfl) ?_
  refine W.eq (g2 := F0 m 4 ls []) rfl ?_
  refine lv_aload_n hx hb dq_8_4 rfl (lv_at hl 0 rfl) ?_
  refine lv_sipush (v := 320) hx hb dq_8_5 (by decide) ?_
  refine mm_newa (N' := 320) 0 hx hb (hts _ wq_ac_int) rfl hK rfl (fun _ h => h) hP hD hS hA (a0 := (320, .inl (fun _ => 0))) (fun cA => rfl) (by decide) (by decide) (by decide) (Nat.le_of_ble_eq_true rfl) (Nat.le_of_ble_eq_true rfl) dq_8_8 (fun q8 H hP hD hS => ?_)
  have hP : va_P (dC, dI) vwCl [(h0, .inr (8, [.null, .null])), (q8, .inl (cA 0, 320, .inl (fun _ => 0)))] H := hP
  have hD : va_D A [(h0, .inr (8, [.null, .null])), (q8, .inl (cA 0, 320, .inl (fun _ => 0)))] := hD
  refine W.widen (k := 1) (n := 320) (by omega) (by omega) ?_
  refine va_putF (D := (dC, dI)) (ci := 8) (v := .ref q8) (ty := .array .int) (C := RX8) (T := TX8) (N := 2) hx hb hts mm_i8 tyX8 tyX8_ok nmX8 hown hK hP hD hS 0 rfl rfl 1 (by decide) (hts _ (mm_pF_ws (e := (8, 9, 8, 1, 1300)) (List.mem_of_getElem? (i := 95) rfl))) (fun _ h9 => h9) rfl hin rfl (by decide +kernel) rfl rfl (Nat.le_of_ble_eq_true rfl) dq_8_10 (fun H locs hP hD hS => ?_)
  have hP : va_P (dC, dI) vwCl [(h0, .inr (8, [.null, .ref q8])), (q8, .inl (cA 0, 320, .inl (fun _ => 0)))] H := hP
  have hD : va_D A [(h0, .inr (8, [.null, .ref q8])), (q8, .inl (cA 0, 320, .inl (fun _ => 0)))] := hD
  refine lv_aload_n hx hb dq_8_13 rfl (lv_at hl 0 rfl) ?_
  refine lv_aload_n hx hb dq_8_14 rfl (lv_at hl 1 rfl) ?_
  refine va_putF (D := (dC, dI)) (ci := 8) (v := .ref y0) (ty := .object "ThreeBreaths$Board") (C := RX8) (T := TX8) (N := 2) hx hb hts mm_i8 tyX8 tyX8_ok nmX8 hown hK hP hD hS 0 rfl rfl 0 (by decide) (hts _ (mm_pF_ws (e := (8, 15, 8, 0, 1299)) (List.mem_of_getElem? (i := 94) rfl))) (fun _ h9 => h9) rfl hin rfl (by decide +kernel) rfl rfl (Nat.le_of_ble_eq_true rfl) dq_8_15 (fun H locs hP hD hS => ?_)
  have hP : va_P (dC, dI) vwCl [(h0, .inr (8, [.ref y0, .ref q8])), (q8, .inl (cA 0, 320, .inl (fun _ => 0)))] H := hP
  have hD : va_D A [(h0, .inr (8, [.ref y0, .ref q8])), (q8, .inl (cA 0, 320, .inl (fun _ => 0)))] := hD
  have hP9 := hP.sub (ws' := w_init_8 cA h0 y0 (fun j => [h0, q8].getD j 0)) [0, 1] rfl
  have hD9 := hD.sub (ws' := w_init_8 cA h0 y0 (fun j => [h0, q8].getD j 0)) [0, 1] (by decide) rfl
  refine W.widen (k := 1) (n := 320) (by omega) (by omega) ?_
  exact W.vret hx hb hr (fun t ht hW => ⟨⟨(fun j => [h0, q8].getD j 0), rfl, trivial, by rw [ht]; exact hP9, va_K.moved hW.alike hK, hD9⟩, hS.F ht⟩) hS.2.2 dq_8_18
