/-! the makers: words, rows for a new array of a known class -/
theorem wq_it_9 : Cond.initialized RX9 ∈ mm_ws := mm_tw (mm_t1 (List.mem_of_getElem? (i := 1) rfl)) rfl
theorem wq_it_6 : Cond.initialized RX6 ∈ mm_ws := mm_tw (mm_t1 (List.mem_of_getElem? (i := 2) rfl)) rfl
theorem wq_it_1 : Cond.initialized RX1 ∈ mm_ws := mm_tw (mm_t1 (List.mem_of_getElem? (i := 3) rfl)) rfl
theorem wq_it_5 : Cond.initialized RX5 ∈ mm_ws := mm_tw (mm_t1 (List.mem_of_getElem? (i := 4) rfl)) rfl
theorem wq_it_0 : Cond.initialized RX0 ∈ mm_ws := mm_tw (mm_t1 (List.mem_of_getElem? (i := 5) rfl)) rfl
theorem wq_it_4 : Cond.initialized RX4 ∈ mm_ws := mm_tw (mm_t1 (List.mem_of_getElem? (i := 6) rfl)) rfl
theorem wq_it_10 : Cond.initialized RX10 ∈ mm_ws := mm_tw (mm_t1 (List.mem_of_getElem? (i := 7) rfl)) rfl
theorem wq_it_7 : Cond.initialized RX7 ∈ mm_ws := mm_tw (mm_t1 (List.mem_of_getElem? (i := 16) rfl)) rfl
theorem wq_it_2 : Cond.initialized RX2 ∈ mm_ws := mm_tw (mm_t1 (List.mem_of_getElem? (i := 17) rfl)) rfl
theorem wq_it_3 : Cond.initialized RX3 ∈ mm_ws := mm_tw (mm_t1 (List.mem_of_getElem? (i := 18) rfl)) rfl
theorem wq_it_8 : Cond.initialized RX8 ∈ mm_ws := mm_tw (mm_t1 (List.mem_of_getElem? (i := 19) rfl)) rfl
theorem wq_cl_11_8 : Cond.classLink RL 8 RX9 ∈ mm_ws := mm_tw (mm_t1 (List.mem_of_getElem? (i := 24) rfl)) rfl
theorem wq_in_9 : Cond.instantiable RX9 10 ∈ mm_ws := mm_tw (mm_t1 (List.mem_of_getElem? (i := 25) rfl)) rfl
theorem wq_mi_11_15 : Cond.methodLink RL 15 yX9_init ∈ mm_ws := mm_tw (mm_t1 (List.mem_of_getElem? (i := 26) rfl)) rfl
theorem wq_ii_9 : Cond.instanceMethod yX9_init ∈ mm_ws := mm_tw (mm_t1 (List.mem_of_getElem? (i := 27) rfl)) rfl
theorem wq_ic_9 : Cond.code yX9_init cX9_init 1 none ∈ mm_ws := mm_tw (mm_t1 (List.mem_of_getElem? (i := 28) rfl)) rfl
theorem wq_ob_9 : Cond.methodLink RX9 3 objectInit ∈ mm_ws := mm_tw (mm_t1 (List.mem_of_getElem? (i := 29) rfl)) rfl
theorem wq_obi : Cond.instanceMethod objectInit ∈ mm_ws := mm_tw (mm_t1 (List.mem_of_getElem? (i := 30) rfl)) rfl
theorem wq_obc : Cond.code objectInit ⟨#[0xb1]⟩ 1 none ∈ mm_ws := mm_tw (mm_t1 (List.mem_of_getElem? (i := 31) rfl)) rfl
theorem wq_cl_9_9 : Cond.classLink RX9 9 RX6 ∈ mm_ws := mm_tw (mm_t1 (List.mem_of_getElem? (i := 32) rfl)) rfl
theorem wq_in_6 : Cond.instantiable RX6 15 ∈ mm_ws := mm_tw (mm_t1 (List.mem_of_getElem? (i := 33) rfl)) rfl
theorem wq_ii_6 : Cond.instanceMethod yX6_init ∈ mm_ws := mm_tw (mm_t1 (List.mem_of_getElem? (i := 35) rfl)) rfl
theorem wq_ic_6 : Cond.code yX6_init cX6_init 1 none ∈ mm_ws := mm_tw (mm_t1 (List.mem_of_getElem? (i := 36) rfl)) rfl
theorem wq_ob_6 : Cond.methodLink RX6 3 objectInit ∈ mm_ws := mm_tw (mm_t1 (List.mem_of_getElem? (i := 37) rfl)) rfl
theorem wq_cl_6_26 : Cond.classLink RX6 26 RX1 ∈ mm_ws := mm_tw (mm_t1 (List.mem_of_getElem? (i := 38) rfl)) rfl
theorem wq_in_1 : Cond.instantiable RX1 12 ∈ mm_ws := mm_tw (mm_t1 (List.mem_of_getElem? (i := 39) rfl)) rfl
theorem wq_ii_1 : Cond.instanceMethod yX1_init ∈ mm_ws := mm_tw (mm_t1 (List.mem_of_getElem? (i := 41) rfl)) rfl
theorem wq_ic_1 : Cond.code yX1_init cX1_init 1 none ∈ mm_ws := mm_tw (mm_t1 (List.mem_of_getElem? (i := 42) rfl)) rfl
theorem wq_ob_1 : Cond.methodLink RX1 3 objectInit ∈ mm_ws := mm_tw (mm_t1 (List.mem_of_getElem? (i := 43) rfl)) rfl
theorem wq_cl_1_9 : Cond.classLink RX1 9 RX5 ∈ mm_ws := mm_tw (mm_t1 (List.mem_of_getElem? (i := 44) rfl)) rfl
theorem wq_in_5 : Cond.instantiable RX5 4 ∈ mm_ws := mm_tw (mm_t1 (List.mem_of_getElem? (i := 45) rfl)) rfl
theorem wq_mi_1_11 : Cond.methodLink RX1 11 yX5_init ∈ mm_ws := mm_tw (mm_t1 (List.mem_of_getElem? (i := 46) rfl)) rfl
theorem wq_ii_5 : Cond.instanceMethod yX5_init ∈ mm_ws := mm_tw (mm_t1 (List.mem_of_getElem? (i := 47) rfl)) rfl
theorem wq_ic_5 : Cond.code yX5_init cX5_init 2 none ∈ mm_ws := mm_tw (mm_t1 (List.mem_of_getElem? (i := 48) rfl)) rfl
theorem wq_ob_5 : Cond.methodLink RX5 3 objectInit ∈ mm_ws := mm_tw (mm_t1 (List.mem_of_getElem? (i := 49) rfl)) rfl
theorem wq_ac_byte : Cond.arrayClass .byte ∈ mm_ws := mm_tw (mm_t1 (List.mem_of_getElem? (i := 72) rfl)) rfl
theorem wq_ac_long : Cond.arrayClass .long ∈ mm_ws := mm_tw (mm_t1 (List.mem_of_getElem? (i := 73) rfl)) rfl
theorem wq_ac_int : Cond.arrayClass .int ∈ mm_ws := mm_tw (mm_t1 (List.mem_of_getElem? (i := 74) rfl)) rfl
theorem wq_cl_9_16 : Cond.classLink RX9 16 RX0 ∈ mm_ws := mm_tw (mm_t1 (List.mem_of_getElem? (i := 194) rfl)) rfl
theorem wq_in_0 : Cond.instantiable RX0 15 ∈ mm_ws := mm_tw (mm_t1 (List.mem_of_getElem? (i := 195) rfl)) rfl
theorem wq_ii_0 : Cond.instanceMethod yX0_init ∈ mm_ws := mm_tw (mm_t1 (List.mem_of_getElem? (i := 197) rfl)) rfl
theorem wq_ic_0 : Cond.code yX0_init cX0_init 1 none ∈ mm_ws := mm_tw (mm_t1 (List.mem_of_getElem? (i := 198) rfl)) rfl
theorem wq_ob_0 : Cond.methodLink RX0 5 objectInit ∈ mm_ws := mm_tw (mm_t1 (List.mem_of_getElem? (i := 199) rfl)) rfl
theorem wq_cl_0_11 : Cond.classLink RX0 11 RX1 ∈ mm_ws := mm_tw (mm_t1 (List.mem_of_getElem? (i := 200) rfl)) rfl
theorem wq_cl_9_23 : Cond.classLink RX9 23 RX4 ∈ mm_ws := mm_tw (mm_t2 (List.mem_of_getElem? (i := 30) rfl)) rfl
theorem wq_in_4 : Cond.instantiable RX4 5 ∈ mm_ws := mm_tw (mm_t2 (List.mem_of_getElem? (i := 31) rfl)) rfl
theorem wq_ii_4 : Cond.instanceMethod yX4_init ∈ mm_ws := mm_tw (mm_t2 (List.mem_of_getElem? (i := 33) rfl)) rfl
theorem wq_ic_4 : Cond.code yX4_init cX4_init 1 none ∈ mm_ws := mm_tw (mm_t2 (List.mem_of_getElem? (i := 34) rfl)) rfl
theorem wq_ob_4 : Cond.methodLink RX4 3 objectInit ∈ mm_ws := mm_tw (mm_t2 (List.mem_of_getElem? (i := 35) rfl)) rfl
theorem wq_cl_9_194 : Cond.classLink RX9 194 RX7 ∈ mm_ws := mm_tw (mm_t4 (List.mem_of_getElem? (i := 57) rfl)) rfl
theorem wq_in_7 : Cond.instantiable RX7 14 ∈ mm_ws := mm_tw (mm_t4 (List.mem_of_getElem? (i := 58) rfl)) rfl
theorem wq_mi_9_324 : Cond.methodLink RX9 324 yX7_init ∈ mm_ws := mm_tw (mm_t4 (List.mem_of_getElem? (i := 59) rfl)) rfl
theorem wq_ii_7 : Cond.instanceMethod yX7_init ∈ mm_ws := mm_tw (mm_t4 (List.mem_of_getElem? (i := 60) rfl)) rfl
theorem wq_ic_7 : Cond.code yX7_init cX7_init 2 none ∈ mm_ws := mm_tw (mm_t4 (List.mem_of_getElem? (i := 61) rfl)) rfl
theorem wq_ob_7 : Cond.methodLink RX7 7 objectInit ∈ mm_ws := mm_tw (mm_t4 (List.mem_of_getElem? (i := 62) rfl)) rfl
theorem wq_cl_7_36 : Cond.classLink RX7 36 RX2 ∈ mm_ws := mm_tw (mm_t4 (List.mem_of_getElem? (i := 63) rfl)) rfl
theorem wq_in_2 : Cond.instantiable RX2 6 ∈ mm_ws := mm_tw (mm_t4 (List.mem_of_getElem? (i := 64) rfl)) rfl
theorem wq_mi_7_38 : Cond.methodLink RX7 38 yX2_init ∈ mm_ws := mm_tw (mm_t4 (List.mem_of_getElem? (i := 65) rfl)) rfl
theorem wq_ii_2 : Cond.instanceMethod yX2_init ∈ mm_ws := mm_tw (mm_t4 (List.mem_of_getElem? (i := 66) rfl)) rfl
theorem wq_ic_2 : Cond.code yX2_init cX2_init 2 none ∈ mm_ws := mm_tw (mm_t4 (List.mem_of_getElem? (i := 67) rfl)) rfl
theorem wq_ob_2 : Cond.methodLink RX2 3 objectInit ∈ mm_ws := mm_tw (mm_t4 (List.mem_of_getElem? (i := 68) rfl)) rfl
theorem wq_cl_9_237 : Cond.classLink RX9 237 RX3 ∈ mm_ws := mm_tw (mm_t5 (List.mem_of_getElem? (i := 64) rfl)) rfl
theorem wq_in_3 : Cond.instantiable RX3 13 ∈ mm_ws := mm_tw (mm_t5 (List.mem_of_getElem? (i := 65) rfl)) rfl
theorem wq_mi_9_331 : Cond.methodLink RX9 331 yX3_init ∈ mm_ws := mm_tw (mm_t5 (List.mem_of_getElem? (i := 66) rfl)) rfl
theorem wq_ii_3 : Cond.instanceMethod yX3_init ∈ mm_ws := mm_tw (mm_t5 (List.mem_of_getElem? (i := 67) rfl)) rfl
theorem wq_ic_3 : Cond.code yX3_init cX3_init 2 none ∈ mm_ws := mm_tw (mm_t5 (List.mem_of_getElem? (i := 68) rfl)) rfl
theorem wq_ob_3 : Cond.methodLink RX3 3 objectInit ∈ mm_ws := mm_tw (mm_t5 (List.mem_of_getElem? (i := 69) rfl)) rfl
theorem wq_cl_9_262 : Cond.classLink RX9 262 RX8 ∈ mm_ws := mm_tw (mm_t5 (List.mem_of_getElem? (i := 200) rfl)) rfl
theorem wq_in_8 : Cond.instantiable RX8 2 ∈ mm_ws := mm_tw (mm_t5 (List.mem_of_getElem? (i := 201) rfl)) rfl
theorem wq_mi_9_336 : Cond.methodLink RX9 336 yX8_init ∈ mm_ws := mm_tw (mm_t5 (List.mem_of_getElem? (i := 202) rfl)) rfl
theorem wq_ii_8 : Cond.instanceMethod yX8_init ∈ mm_ws := mm_tw (mm_t5 (List.mem_of_getElem? (i := 203) rfl)) rfl
theorem wq_ic_8 : Cond.code yX8_init cX8_init 2 none ∈ mm_ws := mm_tw (mm_t5 (List.mem_of_getElem? (i := 204) rfl)) rfl
theorem wq_ob_8 : Cond.methodLink RX8 3 objectInit ∈ mm_ws := mm_tw (mm_t5 (List.mem_of_getElem? (i := 205) rfl)) rfl
theorem wq_cl_11_16 : Cond.classLink RL 16 RX10 ∈ mm_ws := mm_tw (mm_t6 (List.mem_of_getElem? (i := 133) rfl)) rfl
theorem wq_in_10 : Cond.instantiable RX10 40 ∈ mm_ws := mm_tw (mm_t6 (List.mem_of_getElem? (i := 134) rfl)) rfl
theorem wq_mi_11_18 : Cond.methodLink RL 18 yX10_init ∈ mm_ws := mm_tw (mm_t6 (List.mem_of_getElem? (i := 135) rfl)) rfl
theorem wq_ii_10 : Cond.instanceMethod yX10_init ∈ mm_ws := mm_tw (mm_t6 (List.mem_of_getElem? (i := 136) rfl)) rfl
theorem wq_ic_10 : Cond.code yX10_init cX10_init 1 none ∈ mm_ws := mm_tw (mm_t6 (List.mem_of_getElem? (i := 137) rfl)) rfl
theorem wq_ob_10 : Cond.methodLink RX10 1 objectInit ∈ mm_ws := mm_tw (mm_t6 (List.mem_of_getElem? (i := 138) rfl)) rfl
theorem wq_ac_boolean : Cond.arrayClass .boolean ∈ mm_ws := mm_tw (mm_t7 (List.mem_of_getElem? (i := 22) rfl)) rfl
/-- the links to makers of nest mates -/
def mm_nx (U : State) : Prop := va_Nw (.methodLinkNest RX0 13 yX1_init RX9) U ∧ va_Nw (.methodLinkNest RX6 28 yX1_init RX9) U ∧ va_Nw (.methodLinkNest RX9 11 yX6_init RX9) U ∧ va_Nw (.methodLinkNest RX9 18 yX0_init RX9) U ∧ va_Nw (.methodLinkNest RX9 25 yX4_init RX9) U
theorem mm_nx_same {u U : State} (h : mm_nx u) (hv : U.vm = u.vm) : mm_nx U := ⟨va_Nw.same rfl hv.symm h.1, va_Nw.same rfl hv.symm h.2.1, va_Nw.same rfl hv.symm h.2.2.1, va_Nw.same rfl hv.symm h.2.2.2.1, va_Nw.same rfl hv.symm h.2.2.2.2⟩
theorem mm_nx_warm {s U : State} (h : mm_nx s) (hW : s.WarmedH U.vm) : mm_nx U := ⟨va_Nw.warmM hW h.1, va_Nw.warmM hW h.2.1, va_Nw.warmM hW h.2.2.1, va_Nw.warmM hW h.2.2.2.1, va_Nw.warmM hW h.2.2.2.2⟩
theorem mm_newa {p : Program} {l : Launch} {e : Env} {R : Room} {s : State} {m : MethodId} {args : Array Value} {below : List Frame} {meth : Method} {c : Code} {H : Heap} {locs : List Loc} {cells slots : Nat} {Q : State → Prop} {cc : ByteArray} {pc : Nat} {ls : Array Slot} {rest : List Value} {D : va_G} {A : Nat → Prop} {cA : Nat → ClassId} {ws : va_W} {H0 : Heap} {n : Int32} {N' : Nat} (k : Nat) (hexec : p.tables.exec = Jvm.exec) (hb : c.code = cc) {atype : ArrayType} {ty : FieldType} (harr : (Cond.arrayClass ty).before args s = true) (hty : newarray.typeOf atype = ty) (hK : va_K D vwCl (mm_tys cA) s) (hk : (mm_tys cA)[k]? = some (cA k, ty)) (hra : ∀ q, va_RA s q ty → s.vm.findClass ("[" ++ ty.toString) = some q) (hP : va_P D vwCl ws H) (hD : va_D A ws) (hS : va_S A H0 H locs) (hA : ∀ q, H0.size ≤ q → A q)
    {a0 : vp_A} (ha : ∀ cA : ClassId, vp_cell cA a0 = arrV cA N' (fun _ => defaultValue ty)) (hn : ¬ n < 0) (hN : n.toNatClampNeg = N') (hbytes : N' * componentBytes ty ≤ 536870912) (hcells : cells + 1 ≤ R.cells) (hslots : slots + N' ≤ R.slots) (hdg : decode cc pc = .ok (.newarray atype, 2))
    (kk : ∀ (q : Nat) (H1 : Heap), va_P D vwCl (ws ++ [(q, .inl (cA k, a0))]) H1 → va_D A (ws ++ [(q, .inl (cA k, a0))]) → va_S A H0 H1 locs → W p l e R s m args below meth c H1 locs (cells + 1) (slots + N') Q (F0 m (pc + 2) ls (.ref q :: rest))) : W p l e R s m args below meth c H locs cells slots Q (F0 m pc ls (.int n :: rest)) := by
  refine va_newa hexec hb (by rw [hty]; exact harr) hty hK hP hD hS hA ha hn hN hbytes hcells hslots hdg fun q cA' H1 hK' hP' hD' hS' => ?_
  have e1 := hra _ (hK.2 k _ hk).2
  have e2 := hra _ (hK'.2 5 (cA', ty) rfl).2
  have e : cA' = cA k := Option.some.inj (e2.symm.trans e1)
  rw [e] at hP' hD'
  exact kk q H1 hP' hD' hS'
def mm_pi (dC : Nat → ClassId) (dI : Nat → Nat → Nat) (cA : Nat → ClassId) (sz : Nat) (ws : va_W) (U : State) : Prop := U.heap.size = sz ∧ va_P (dC, dI) vwCl ws U.heap ∧ va_K (dC, dI) vwCl (mm_tys cA) U ∧ va_D (fun _ => True) ws ∧ mm_nx U
theorem mm_pi_blind {dC : Nat → ClassId} {dI : Nat → Nat → Nat} {cA : Nat → ClassId} {sz : Nat} {ws : va_W} {av : List Value} : FrameBlind (va_Pc av (mm_pi dC dI cA sz ws)) := by
  rintro a U g mk ⟨h0, h1, h2, h3, h4, h5⟩
  exact ⟨h0, h1, h2, va_K.moved (u := U) (U := U.calling g mk a) (Vm.Alike.refl U.vm) h3, h4, mm_nx_same h5 rfl⟩
def mm_pj (dC : Nat → ClassId) (dI : Nat → Nat → Nat) (cA : Nat → ClassId) (sz : Nat) (ws : va_W) (U : State) : Prop := U.heap.size = sz ∧ va_P (dC, dI) vwCl ws U.heap ∧ va_K (dC, dI) vwCl (mm_tys cA) U ∧ va_D (fun _ => True) ws
theorem mm_pj_blind {dC : Nat → ClassId} {dI : Nat → Nat → Nat} {cA : Nat → ClassId} {sz : Nat} {ws : va_W} {av : List Value} : FrameBlind (va_Pc av (mm_pj dC dI cA sz ws)) := by
  rintro a U g mk ⟨h0, h1, h2, h3, h4⟩
  exact ⟨h0, h1, h2, va_K.moved (u := U) (U := U.calling g mk a) (Vm.Alike.refl U.vm) h3, h4⟩
theorem mm_cn2 {R : Room} {s : State} {args : Array Value} {own host : String} {index maxL mc ms n : Nat} {y : MethodName} {bytes : ByteArray} {ret : Option FieldType} {rm : Room} (hts : ∀ w ∈ mm_ws, w.before args s = true) (hcode : Cond.code y bytes maxL ret ∈ mm_ws) (hini : Cond.initialized y.cls ∈ mm_ws) (hl : va_Nw (.methodLinkNest own index y host) s) (hrc : rm.cells = mc) (hrs : rm.slots = ms)
    (hd : y.cls ≠ "java/lang/invoke/MethodHandle" ∧ y.cls ≠ "java/lang/invoke/VarHandle") (hp : (parseMethodDescriptor y.desc).map (fun d => d.parameters.length) = some n) (hR : rm.frames + 1 ≤ R.frames ∧ 8 + (maxL + 11) + rm.locals ≤ R.locals) : va_CN R s args own index y host bytes maxL ret (Cond.code y bytes maxL ret :: mm_ws) rm mc ms n :=
  ⟨⟨hrc, hrs, hR.1, hR.2, pay_in hts (mm_ws_good (fun _ h => h) hcode), List.mem_cons_self⟩, hts _ hcode, hts _ hini, hd, fun sig h => by rw [h] at hp; exact (Option.some.inj hp).symm, va_Nw.use rfl hl⟩
theorem mm_lt_cases2 : ∀ j, j < 2 → j = 0 ∨ j = 1 := by omega
theorem mm_lt_cases4 : ∀ j, j < 4 → j = 0 ∨ j = 1 ∨ j = 2 ∨ j = 3 := by omega
theorem mm_lt_cases5 : ∀ j, j < 5 → j = 0 ∨ j = 1 ∨ j = 2 ∨ j = 3 ∨ j = 4 := by omega
theorem mm_lt_cases6 : ∀ j, j < 6 → j = 0 ∨ j = 1 ∨ j = 2 ∨ j = 3 ∨ j = 4 ∨ j = 5 := by omega
theorem mm_lt_cases10 : ∀ j, j < 10 → j = 0 ∨ j = 1 ∨ j = 2 ∨ j = 3 ∨ j = 4 ∨ j = 5 ∨ j = 6 ∨ j = 7 ∨ j = 8 ∨ j = 9 := by omega
theorem mm_lt_cases12 : ∀ j, j < 12 → j = 0 ∨ j = 1 ∨ j = 2 ∨ j = 3 ∨ j = 4 ∨ j = 5 ∨ j = 6 ∨ j = 7 ∨ j = 8 ∨ j = 9 ∨ j = 10 ∨ j = 11 := by omega
theorem mm_lt_cases13 : ∀ j, j < 13 → j = 0 ∨ j = 1 ∨ j = 2 ∨ j = 3 ∨ j = 4 ∨ j = 5 ∨ j = 6 ∨ j = 7 ∨ j = 8 ∨ j = 9 ∨ j = 10 ∨ j = 11 ∨ j = 12 := by omega
theorem mm_lt_cases14 : ∀ j, j < 14 → j = 0 ∨ j = 1 ∨ j = 2 ∨ j = 3 ∨ j = 4 ∨ j = 5 ∨ j = 6 ∨ j = 7 ∨ j = 8 ∨ j = 9 ∨ j = 10 ∨ j = 11 ∨ j = 12 ∨ j = 13 := by omega
theorem mm_lt_cases15 : ∀ j, j < 15 → j = 0 ∨ j = 1 ∨ j = 2 ∨ j = 3 ∨ j = 4 ∨ j = 5 ∨ j = 6 ∨ j = 7 ∨ j = 8 ∨ j = 9 ∨ j = 10 ∨ j = 11 ∨ j = 12 ∨ j = 13 ∨ j = 14 := by omega
theorem mm_lt_cases40 : ∀ j, j < 40 → j = 0 ∨ j = 1 ∨ j = 2 ∨ j = 3 ∨ j = 4 ∨ j = 5 ∨ j = 6 ∨ j = 7 ∨ j = 8 ∨ j = 9 ∨ j = 10 ∨ j = 11 ∨ j = 12 ∨ j = 13 ∨ j = 14 ∨ j = 15 ∨ j = 16 ∨ j = 17 ∨ j = 18 ∨ j = 19 ∨ j = 20 ∨ j = 21 ∨ j = 22 ∨ j = 23 ∨ j = 24 ∨ j = 25 ∨ j = 26 ∨ j = 27 ∨ j = 28 ∨ j = 29 ∨ j = 30 ∨ j = 31 ∨ j = 32 ∨ j = 33 ∨ j = 34 ∨ j = 35 ∨ j = 36 ∨ j = 37 ∨ j = 38 ∨ j = 39 := by omega
theorem dq_5_0 : decode cX5_init 0 = .ok (.aload_n 0, 1) := by decide +kernel
theorem dq_5_1 : decode cX5_init 1 = .ok (.invokespecial 3, 3) := by decide +kernel
theorem dq_5_4 : decode cX5_init 4 = .ok (.aload_n 0, 1) := by decide +kernel
theorem dq_5_5 : decode cX5_init 5 = .ok (.bipush 10, 2) := by decide +kernel
theorem dq_5_7 : decode cX5_init 7 = .ok (.newarray .int, 2) := by decide +kernel
theorem dq_5_9 : decode cX5_init 9 = .ok (.putfield 9, 3) := by decide +kernel
theorem dq_5_12 : decode cX5_init 12 = .ok (.aload_n 0, 1) := by decide +kernel
theorem dq_5_13 : decode cX5_init 13 = .ok (.bipush 10, 2) := by decide +kernel
theorem dq_5_15 : decode cX5_init 15 = .ok (.newarray .int, 2) := by decide +kernel
theorem dq_5_17 : decode cX5_init 17 = .ok (.putfield 15, 3) := by decide +kernel
theorem dq_5_20 : decode cX5_init 20 = .ok (.aload_n 0, 1) := by decide +kernel
theorem dq_5_21 : decode cX5_init 21 = .ok (.iload_n 1, 1) := by decide +kernel
theorem dq_5_22 : decode cX5_init 22 = .ok (.putfield 18, 3) := by decide +kernel
theorem dq_5_25 : decode cX5_init 25 = .ok (.return_, 1) := by decide +kernel
abbrev w_init_5 (cA : Nat → ClassId) (h0 : Nat) (x0 : Int32) (u : Nat → Nat) : va_W := [(h0, .inr (5, [.int x0, .ref (u 1), .ref (u 2), .int 0])), ((u 1), .inl (cA 0, 10, .inl (fun _ => 0))), ((u 2), .inl (cA 0, 10, .inl (fun _ => 0)))]
set_option maxHeartbeats 4000000 in
set_option maxRecDepth 100000 in
theorem c_init_5 (l : Launch) (dC : Nat → ClassId) (dI : Nat → Nat → Nat) (cA : Nat → ClassId) (h0 : Nat) (sz : Nat) (x0 : Int32) : Met l yX5_init (Cond.code yX5_init cX5_init 2 none :: mm_ws) ({ frames := 1, cells := 2, slots := 20, locals := 60 }) (va_Pc [.ref h0, .int x0] (mm_pi dC dI cA sz [(h0, .inr (5, [.int 0, .null, .null, .int 0]))])) (va_Qv (fun _ : Nat → Nat => True) (fun u t => va_P (dC, dI) vwCl (w_init_5 cA h0 x0 u) t.heap ∧ va_K (dC, dI) vwCl (mm_tys cA) t ∧ va_D (va_A [(h0, .inr (5, [.int 0, .null, .null, .int 0]))] sz) (w_init_5 cA h0 x0 u)) (va_A [(h0, .inr (5, [.int 0, .null, .null, .int 0]))] sz)) 2 20 (va_A [(h0, .inr (5, [.int 0, .null, .null, .int 0]))] sz) := by
  refine Met.ofW (cc := cX5_init) (maxL := 2) (ret := none) (by decide) rfl ?_
  intro p e s m args below meth c s₁ B hml hv
  obtain ⟨rfl, hsz, hP, hK, hD0, hN⟩ := hv
  have hx := B.exec
  have hb := B.bytes
  have hr := B.returns
  have hts0 := atoms_spec (ws := Cond.code yX5_init cX5_init 2 none :: mm_ws) B.pre
  have hts : ∀ w ∈ mm_ws, w.before ([.ref h0, .int x0].toArray) s = true := fun w hw => hts0 w (List.mem_cons_of_mem _ hw)
  have hown : s.vm.findClass RX5 = some m.cls := findClass_of_methodNamed B.named
  have hlocks := B.notSynchronized
  have hin : meth.name = "<init>" := (name_of_methodNamed B.named B.method).1
  subst hsz
  have hD := hD0.self (sz := s.heap.size)
  generalize hAe : va_A [(h0, .inr (5, [.int 0, .null, .null, .int 0]))] s.heap.size = A at hD ⊢
  have hA : ∀ q : Nat, s.heap.size ≤ q → A q := fun q h => by rw [← hAe]; exact Or.inr h
  have hS : va_S A s.heap s.heap [] := va_S.rf
  have hP : va_P (dC, dI) vwCl [(h0, .inr (5, [.int 0, .null, .null, .int 0]))] s.heap := hP
  have hl := lv_entry ([.ref h0, .int x0]) (n := 2) (Nat.le_of_ble_eq_true rfl)
  rw [lg_entry_eq]
  generalize (lg_sl ([.ref h0, .int x0]) ++ List.replicate (2 - (lg_sl ([.ref h0, .int x0])).length) Slot.unset).toArray = ls at hl ⊢
  have hl : lv_has ls 2 [(0, .ref h0), (1, .int x0)] := hl
  refine lv_aload_n hx hb dq_5_0 rfl (lv_at hl 0 rfl) ?_
  refine W.objInit hx hb hown (hts _ wq_ob_5) (hts _ wq_obi) (hts _ wq_obc) rfl (by rw [hml]; exact hl.1) rfl dq_5_1 (Nat.le_of_ble_eq_true rfl) (Nat.le_of_ble_eq_true rfl) ?_
  refine W.eq (g2 := F0 m 4 ls []) rfl ?_
  refine lv_aload_n hx hb dq_5_4 rfl (lv_at hl 0 rfl) ?_
  refine lv_bipush (v := 10) hx hb dq_5_5 (by decide) ?_
  refine mm_newa (N' := 10) 0 hx hb (hts _ wq_ac_int) rfl hK rfl (fun _ h => h) hP hD hS hA (a0 := (10, .inl (fun _ => 0))) (fun cA => rfl) (by decide) (by decide) (by decide) (Nat.le_of_ble_eq_true rfl) (Nat.le_of_ble_eq_true rfl) dq_5_7 (fun q7 H hP hD hS => ?_)
  have hP : va_P (dC, dI) vwCl [(h0, .inr (5, [.int 0, .null, .null, .int 0])), (q7, .inl (cA 0, 10, .inl (fun _ => 0)))] H := hP
  have hD : va_D A [(h0, .inr (5, [.int 0, .null, .null, .int 0])), (q7, .inl (cA 0, 10, .inl (fun _ => 0)))] := hD
  refine W.widen (k := 1) (n := 10) (by omega) (by omega) ?_
  refine va_putF (D := (dC, dI)) (ci := 5) (v := .ref q7) (ty := .array .int) (C := RX5) (T := TX5) (N := 4) hx hb hts mm_i5 tyX5 tyX5_ok nmX5 hown hK hP hD hS 0 rfl rfl 1 (by decide) (hts _ (mm_pF_ws (e := (5, 9, 5, 1, 184)) (List.mem_of_getElem? (i := 1) rfl))) (fun _ h9 => h9) rfl hin rfl (by decide +kernel) rfl rfl (Nat.le_of_ble_eq_true rfl) dq_5_9 (fun H locs hP hD hS => ?_)
  have hP : va_P (dC, dI) vwCl [(h0, .inr (5, [.int 0, .ref q7, .null, .int 0])), (q7, .inl (cA 0, 10, .inl (fun _ => 0)))] H := hP
  have hD : va_D A [(h0, .inr (5, [.int 0, .ref q7, .null, .int 0])), (q7, .inl (cA 0, 10, .inl (fun _ => 0)))] := hD
  refine lv_aload_n hx hb dq_5_12 rfl (lv_at hl 0 rfl) ?_
  refine lv_bipush (v := 10) hx hb dq_5_13 (by decide) ?_
  refine mm_newa (N' := 10) 0 hx hb (hts _ wq_ac_int) rfl hK rfl (fun _ h => h) hP hD hS hA (a0 := (10, .inl (fun _ => 0))) (fun cA => rfl) (by decide) (by decide) (by decide) (Nat.le_of_ble_eq_true rfl) (Nat.le_of_ble_eq_true rfl) dq_5_15 (fun q15 H hP hD hS => ?_)
  have hP : va_P (dC, dI) vwCl [(h0, .inr (5, [.int 0, .ref q7, .null, .int 0])), (q7, .inl (cA 0, 10, .inl (fun _ => 0))), (q15, .inl (cA 0, 10, .inl (fun _ => 0)))] H := hP
  have hD : va_D A [(h0, .inr (5, [.int 0, .ref q7, .null, .int 0])), (q7, .inl (cA 0, 10, .inl (fun _ => 0))), (q15, .inl (cA 0, 10, .inl (fun _ => 0)))] := hD
  refine W.widen (k := 2) (n := 20) (by omega) (by omega) ?_
  refine va_putF (D := (dC, dI)) (ci := 5) (v := .ref q15) (ty := .array .int) (C := RX5) (T := TX5) (N := 4) hx hb hts mm_i5 tyX5 tyX5_ok nmX5 hown hK hP hD hS 0 rfl rfl 2 (by decide) (hts _ (mm_pF_ws (e := (5, 15, 5, 2, 187)) (List.mem_of_getElem? (i := 2) rfl))) (fun _ h9 => h9) rfl hin rfl (by decide +kernel) rfl rfl (Nat.le_of_ble_eq_true rfl) dq_5_17 (fun H locs hP hD hS => ?_)
  have hP : va_P (dC, dI) vwCl [(h0, .inr (5, [.int 0, .ref q7, .ref q15, .int 0])), (q7, .inl (cA 0, 10, .inl (fun _ => 0))), (q15, .inl (cA 0, 10, .inl (fun _ => 0)))] H := hP
  have hD : va_D A [(h0, .inr (5, [.int 0, .ref q7, .ref q15, .int 0])), (q7, .inl (cA 0, 10, .inl (fun _ => 0))), (q15, .inl (cA 0, 10, .inl (fun _ => 0)))] := hD
  refine lv_aload_n hx hb dq_5_20 rfl (lv_at hl 0 rfl) ?_
  refine lv_iload_n hx hb dq_5_21 rfl (lv_at hl 1 rfl) ?_
  refine va_putF (D := (dC, dI)) (ci := 5) (v := .int x0) (ty := .int) (C := RX5) (T := TX5) (N := 4) hx hb hts mm_i5 tyX5 tyX5_ok nmX5 hown hK hP hD hS 0 rfl rfl 0 (by decide) (hts _ (mm_pF_ws (e := (5, 18, 5, 0, 183)) (List.mem_of_getElem? (i := 0) rfl))) (fun _ h9 => h9) rfl hin rfl (by decide +kernel) rfl rfl (Nat.le_of_ble_eq_true rfl) dq_5_22 (fun H locs hP hD hS => ?_)
  have hP : va_P (dC, dI) vwCl [(h0, .inr (5, [.int x0, .ref q7, .ref q15, .int 0])), (q7, .inl (cA 0, 10, .inl (fun _ => 0))), (q15, .inl (cA 0, 10, .inl (fun _ => 0)))] H := hP
  have hD : va_D A [(h0, .inr (5, [.int x0, .ref q7, .ref q15, .int 0])), (q7, .inl (cA 0, 10, .inl (fun _ => 0))), (q15, .inl (cA 0, 10, .inl (fun _ => 0)))] := hD
  have hP9 := hP.sub (ws' := w_init_5 cA h0 x0 (fun j => [h0, q7, q15].getD j 0)) [0, 1, 2] rfl
  have hD9 := hD.sub (ws' := w_init_5 cA h0 x0 (fun j => [h0, q7, q15].getD j 0)) [0, 1, 2] (by decide) rfl
  refine W.widen (k := 2) (n := 20) (by omega) (by omega) ?_
  exact W.vret hx hb hr (fun t ht hW => ⟨⟨(fun j => [h0, q7, q15].getD j 0), rfl, trivial, by rw [ht]; exact hP9, va_K.moved hW.alike hK, hD9⟩, hS.F ht⟩) hS.2.2 dq_5_25
theorem dq_4_0 : decode cX4_init 0 = .ok (.aload_n 0, 1) := by decide +kernel
theorem dq_4_1 : decode cX4_init 1 = .ok (.invokespecial 3, 3) := by decide +kernel
theorem dq_4_4 : decode cX4_init 4 = .ok (.aload_n 0, 1) := by decide +kernel
theorem dq_4_5 : decode cX4_init 5 = .ok (.bipush 20, 2) := by decide +kernel
theorem dq_4_7 : decode cX4_init 7 = .ok (.newarray .int, 2) := by decide +kernel
theorem dq_4_9 : decode cX4_init 9 = .ok (.putfield 11, 3) := by decide +kernel
theorem dq_4_12 : decode cX4_init 12 = .ok (.aload_n 0, 1) := by decide +kernel
theorem dq_4_13 : decode cX4_init 13 = .ok (.iconst 3, 1) := by decide +kernel
theorem dq_4_14 : decode cX4_init 14 = .ok (.newarray .int, 2) := by decide +kernel
theorem dq_4_16 : decode cX4_init 16 = .ok (.putfield 15, 3) := by decide +kernel
theorem dq_4_19 : decode cX4_init 19 = .ok (.return_, 1) := by decide +kernel
abbrev w_init_4 (cA : Nat → ClassId) (h0 : Nat) (u : Nat → Nat) : va_W := [(h0, .inr (4, [.int 0, .ref (u 1), .int 0, .ref (u 2), .int 0])), ((u 1), .inl (cA 0, 20, .inl (fun _ => 0))), ((u 2), .inl (cA 0, 3, .inl (fun _ => 0)))]
set_option maxHeartbeats 4000000 in
set_option maxRecDepth 100000 in
theorem c_init_4 (l : Launch) (dC : Nat → ClassId) (dI : Nat → Nat → Nat) (cA : Nat → ClassId) (h0 : Nat) (sz : Nat) : Met l yX4_init (Cond.code yX4_init cX4_init 1 none :: mm_ws) ({ frames := 1, cells := 2, slots := 23, locals := 60 }) (va_Pc [.ref h0] (mm_pi dC dI cA sz [(h0, .inr (4, [.int 0, .null, .int 0, .null, .int 0]))])) (va_Qv (fun _ : Nat → Nat => True) (fun u t => va_P (dC, dI) vwCl (w_init_4 cA h0 u) t.heap ∧ va_K (dC, dI) vwCl (mm_tys cA) t ∧ va_D (va_A [(h0, .inr (4, [.int 0, .null, .int 0, .null, .int 0]))] sz) (w_init_4 cA h0 u)) (va_A [(h0, .inr (4, [.int 0, .null, .int 0, .null, .int 0]))] sz)) 2 23 (va_A [(h0, .inr (4, [.int 0, .null, .int 0, .null, .int 0]))] sz) := by
  refine Met.ofW (cc := cX4_init) (maxL := 1) (ret := none) (by decide) rfl ?_
  intro p e s m args below meth c s₁ B hml hv
  obtain ⟨rfl, hsz, hP, hK, hD0, hN⟩ := hv
  have hx := B.exec
  have hb := B.bytes
  have hr := B.returns
  have hts0 := atoms_spec (ws := Cond.code yX4_init cX4_init 1 none :: mm_ws) B.pre
  have hts : ∀ w ∈ mm_ws, w.before ([.ref h0].toArray) s = true := fun w hw => hts0 w (List.mem_cons_of_mem _ hw)
  have hown : s.vm.findClass RX4 = some m.cls := findClass_of_methodNamed B.named
  have hlocks := B.notSynchronized
  have hin : meth.name = "<init>" := (name_of_methodNamed B.named B.method).1
  subst hsz
  have hD := hD0.self (sz := s.heap.size)
  generalize hAe : va_A [(h0, .inr (4, [.int 0, .null, .int 0, .null, .int 0]))] s.heap.size = A at hD ⊢
  have hA : ∀ q : Nat, s.heap.size ≤ q → A q := fun q h => by rw [← hAe]; exact Or.inr h
  have hS : va_S A s.heap s.heap [] := va_S.rf
  have hP : va_P (dC, dI) vwCl [(h0, .inr (4, [.int 0, .null, .int 0, .null, .int 0]))] s.heap := hP
  have hl := lv_entry ([.ref h0]) (n := 1) (Nat.le_of_ble_eq_true rfl)
  rw [lg_entry_eq]
  generalize (lg_sl ([.ref h0]) ++ List.replicate (1 - (lg_sl ([.ref h0])).length) Slot.unset).toArray = ls at hl ⊢
  have hl : lv_has ls 1 [(0, .ref h0)] := hl
  refine lv_aload_n hx hb dq_4_0 rfl (lv_at hl 0 rfl) ?_
  refine W.objInit hx hb hown (hts _ wq_ob_4) (hts _ wq_obi) (hts _ wq_obc) rfl (by rw [hml]; exact hl.1) rfl dq_4_1 (Nat.le_of_ble_eq_true rfl) (Nat.le_of_ble_eq_true rfl) ?_
  refine W.eq (g2 := F0 m 4 ls []) rfl ?_
  refine lv_aload_n hx hb dq_4_4 rfl (lv_at hl 0 rfl) ?_
  refine lv_bipush (v := 20) hx hb dq_4_5 (by decide) ?_
  refine mm_newa (N' := 20) 0 hx hb (hts _ wq_ac_int) rfl hK rfl (fun _ h => h) hP hD hS hA (a0 := (20, .inl (fun _ => 0))) (fun cA => rfl) (by decide) (by decide) (by decide) (Nat.le_of_ble_eq_true rfl) (Nat.le_of_ble_eq_true rfl) dq_4_7 (fun q7 H hP hD hS => ?_)
  have hP : va_P (dC, dI) vwCl [(h0, .inr (4, [.int 0, .null, .int 0, .null, .int 0])), (q7, .inl (cA 0, 20, .inl (fun _ => 0)))] H := hP
  have hD : va_D A [(h0, .inr (4, [.int 0, .null, .int 0, .null, .int 0])), (q7, .inl (cA 0, 20, .inl (fun _ => 0)))] := hD
  refine W.widen (k := 1) (n := 20) (by omega) (by omega) ?_
  refine va_putF (D := (dC, dI)) (ci := 4) (v := .ref q7) (ty := .array .int) (C := RX4) (T := TX4) (N := 5) hx hb hts mm_i4 tyX4 tyX4_ok nmX4 hown hK hP hD hS 0 rfl rfl 1 (by decide) (hts _ (mm_pF_ws (e := (4, 11, 4, 1, 411)) (List.mem_of_getElem? (i := 47) rfl))) (fun _ h9 => h9) rfl hin rfl (by decide +kernel) rfl rfl (Nat.le_of_ble_eq_true rfl) dq_4_9 (fun H locs hP hD hS => ?_)
  have hP : va_P (dC, dI) vwCl [(h0, .inr (4, [.int 0, .ref q7, .int 0, .null, .int 0])), (q7, .inl (cA 0, 20, .inl (fun _ => 0)))] H := hP
  have hD : va_D A [(h0, .inr (4, [.int 0, .ref q7, .int 0, .null, .int 0])), (q7, .inl (cA 0, 20, .inl (fun _ => 0)))] := hD
  refine lv_aload_n hx hb dq_4_12 rfl (lv_at hl 0 rfl) ?_
  refine lv_iconst (v := 3) hx hb dq_4_13 (by decide) ?_
  refine mm_newa (N' := 3) 0 hx hb (hts _ wq_ac_int) rfl hK rfl (fun _ h => h) hP hD hS hA (a0 := (3, .inl (fun _ => 0))) (fun cA => rfl) (by decide) (by decide) (by decide) (Nat.le_of_ble_eq_true rfl) (Nat.le_of_ble_eq_true rfl) dq_4_14 (fun q14 H hP hD hS => ?_)
  have hP : va_P (dC, dI) vwCl [(h0, .inr (4, [.int 0, .ref q7, .int 0, .null, .int 0])), (q7, .inl (cA 0, 20, .inl (fun _ => 0))), (q14, .inl (cA 0, 3, .inl (fun _ => 0)))] H := hP
  have hD : va_D A [(h0, .inr (4, [.int 0, .ref q7, .int 0, .null, .int 0])), (q7, .inl (cA 0, 20, .inl (fun _ => 0))), (q14, .inl (cA 0, 3, .inl (fun _ => 0)))] := hD
  refine W.widen (k := 2) (n := 23) (by omega) (by omega) ?_
  refine va_putF (D := (dC, dI)) (ci := 4) (v := .ref q14) (ty := .array .int) (C := RX4) (T := TX4) (N := 5) hx hb hts mm_i4 tyX4 tyX4_ok nmX4 hown hK hP hD hS 0 rfl rfl 3 (by decide) (hts _ (mm_pF_ws (e := (4, 15, 4, 3, 414)) (List.mem_of_getElem? (i := 49) rfl))) (fun _ h9 => h9) rfl hin rfl (by decide +kernel) rfl rfl (Nat.le_of_ble_eq_true rfl) dq_4_16 (fun H locs hP hD hS => ?_)
  have hP : va_P (dC, dI) vwCl [(h0, .inr (4, [.int 0, .ref q7, .int 0, .ref q14, .int 0])), (q7, .inl (cA 0, 20, .inl (fun _ => 0))), (q14, .inl (cA 0, 3, .inl (fun _ => 0)))] H := hP
  have hD : va_D A [(h0, .inr (4, [.int 0, .ref q7, .int 0, .ref q14, .int 0])), (q7, .inl (cA 0, 20, .inl (fun _ => 0))), (q14, .inl (cA 0, 3, .inl (fun _ => 0)))] := hD
  have hP9 := hP.sub (ws' := w_init_4 cA h0 (fun j => [h0, q7, q14].getD j 0)) [0, 1, 2] rfl
  have hD9 := hD.sub (ws' := w_init_4 cA h0 (fun j => [h0, q7, q14].getD j 0)) [0, 1, 2] (by decide) rfl
  refine W.widen (k := 2) (n := 23) (by omega) (by omega) ?_
  exact W.vret hx hb hr (fun t ht hW => ⟨⟨(fun j => [h0, q7, q14].getD j 0), rfl, trivial, by rw [ht]; exact hP9, va_K.moved hW.alike hK, hD9⟩, hS.F ht⟩) hS.2.2 dq_4_19
