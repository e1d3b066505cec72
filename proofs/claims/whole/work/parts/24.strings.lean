/-! String.length and String.charAt of a String constant -/
theorem dz_co_0 : decode cJ0_coder_7d493 0 = .ok (.getstatic 38, 3) := by decide +kernel
theorem dz_co_3 : decode cJ0_coder_7d493 3 = .ok (.ifCond .eq 10, 3) := by decide +kernel
theorem dz_co_6 : decode cJ0_coder_7d493 6 = .ok (.aload_n 0, 1) := by decide +kernel
theorem dz_co_7 : decode cJ0_coder_7d493 7 = .ok (.getfield 15, 3) := by decide +kernel
theorem dz_co_10 : decode cJ0_coder_7d493 10 = .ok (.goto 4, 3) := by decide +kernel
theorem dz_co_13 : decode cJ0_coder_7d493 13 = .ok (.iconst 1, 1) := by decide +kernel
theorem dz_co_14 : decode cJ0_coder_7d493 14 = .ok (.ireturn, 1) := by decide +kernel
theorem dz_la_0 : decode cJ0_isLatin1_aae02 0 = .ok (.getstatic 38, 3) := by decide +kernel
theorem dz_la_3 : decode cJ0_isLatin1_aae02 3 = .ok (.ifCond .eq 14, 3) := by decide +kernel
theorem dz_la_6 : decode cJ0_isLatin1_aae02 6 = .ok (.aload_n 0, 1) := by decide +kernel
theorem dz_la_7 : decode cJ0_isLatin1_aae02 7 = .ok (.getfield 15, 3) := by decide +kernel
theorem dz_la_10 : decode cJ0_isLatin1_aae02 10 = .ok (.ifCond .ne 7, 3) := by decide +kernel
theorem dz_la_13 : decode cJ0_isLatin1_aae02 13 = .ok (.iconst 1, 1) := by decide +kernel
theorem dz_la_14 : decode cJ0_isLatin1_aae02 14 = .ok (.goto 4, 3) := by decide +kernel
theorem dz_la_17 : decode cJ0_isLatin1_aae02 17 = .ok (.iconst 0, 1) := by decide +kernel
theorem dz_la_18 : decode cJ0_isLatin1_aae02 18 = .ok (.ireturn, 1) := by decide +kernel
theorem dz_pc_0 : decode cJ3_checkIndex_8e157 0 = .ok (.iload_n 0, 1) := by decide +kernel
theorem dz_pc_1 : decode cJ3_checkIndex_8e157 1 = .ok (.ifCond .lt 8, 3) := by decide +kernel
theorem dz_pc_4 : decode cJ3_checkIndex_8e157 4 = .ok (.iload_n 0, 1) := by decide +kernel
theorem dz_pc_5 : decode cJ3_checkIndex_8e157 5 = .ok (.iload_n 1, 1) := by decide +kernel
theorem dz_pc_6 : decode cJ3_checkIndex_8e157 6 = .ok (.if_icmp .lt 10, 3) := by decide +kernel
theorem dz_pc_9 : decode cJ3_checkIndex_8e157 9 = .ok (.aload_n 2, 1) := by decide +kernel
theorem dz_pc_10 : decode cJ3_checkIndex_8e157 10 = .ok (.iload_n 0, 1) := by decide +kernel
theorem dz_pc_11 : decode cJ3_checkIndex_8e157 11 = .ok (.iload_n 1, 1) := by decide +kernel
theorem dz_pc_12 : decode cJ3_checkIndex_8e157 12 = .ok (.invokestatic 95, 3) := by decide +kernel
theorem dz_pc_15 : decode cJ3_checkIndex_8e157 15 = .ok (.athrow, 1) := by decide +kernel
theorem dz_pc_16 : decode cJ3_checkIndex_8e157 16 = .ok (.iload_n 0, 1) := by decide +kernel
theorem dz_pc_17 : decode cJ3_checkIndex_8e157 17 = .ok (.ireturn, 1) := by decide +kernel
theorem dz_ci_0 : decode cJ0_checkIndex_df160 0 = .ok (.iload_n 0, 1) := by decide +kernel
theorem dz_ci_1 : decode cJ0_checkIndex_df160 1 = .ok (.iload_n 1, 1) := by decide +kernel
theorem dz_ci_2 : decode cJ0_checkIndex_df160 2 = .ok (.getstatic 1053, 3) := by decide +kernel
theorem dz_ci_5 : decode cJ0_checkIndex_df160 5 = .ok (.invokestatic 1059, 3) := by decide +kernel
theorem dz_ci_8 : decode cJ0_checkIndex_df160 8 = .ok (.pop, 1) := by decide +kernel
theorem dz_ci_9 : decode cJ0_checkIndex_df160 9 = .ok (.return_, 1) := by decide +kernel
theorem dz_lc_0 : decode cJ1_charAt_3b067 0 = .ok (.iload_n 1, 1) := by decide +kernel
theorem dz_lc_1 : decode cJ1_charAt_3b067 1 = .ok (.aload_n 0, 1) := by decide +kernel
theorem dz_lc_2 : decode cJ1_charAt_3b067 2 = .ok (.arraylength, 1) := by decide +kernel
theorem dz_lc_3 : decode cJ1_charAt_3b067 3 = .ok (.invokestatic 9, 3) := by decide +kernel
theorem dz_lc_6 : decode cJ1_charAt_3b067 6 = .ok (.aload_n 0, 1) := by decide +kernel
theorem dz_lc_7 : decode cJ1_charAt_3b067 7 = .ok (.iload_n 1, 1) := by decide +kernel
theorem dz_lc_8 : decode cJ1_charAt_3b067 8 = .ok (.baload, 1) := by decide +kernel
theorem dz_lc_9 : decode cJ1_charAt_3b067 9 = .ok (.sipush 255, 3) := by decide +kernel
theorem dz_lc_12 : decode cJ1_charAt_3b067 12 = .ok (.iand, 1) := by decide +kernel
theorem dz_lc_13 : decode cJ1_charAt_3b067 13 = .ok (.i2c, 1) := by decide +kernel
theorem dz_lc_14 : decode cJ1_charAt_3b067 14 = .ok (.ireturn, 1) := by decide +kernel
theorem dz_le_0 : decode cJ0_length_8abf5 0 = .ok (.aload_n 0, 1) := by decide +kernel
theorem dz_le_1 : decode cJ0_length_8abf5 1 = .ok (.getfield 9, 3) := by decide +kernel
theorem dz_le_4 : decode cJ0_length_8abf5 4 = .ok (.arraylength, 1) := by decide +kernel
theorem dz_le_5 : decode cJ0_length_8abf5 5 = .ok (.aload_n 0, 1) := by decide +kernel
theorem dz_le_6 : decode cJ0_length_8abf5 6 = .ok (.invokevirtual 335, 3) := by decide +kernel
theorem dz_le_9 : decode cJ0_length_8abf5 9 = .ok (.ishr, 1) := by decide +kernel
theorem dz_le_10 : decode cJ0_length_8abf5 10 = .ok (.ireturn, 1) := by decide +kernel
theorem dz_ch_0 : decode cJ0_charAt_5068e 0 = .ok (.aload_n 0, 1) := by decide +kernel
theorem dz_ch_1 : decode cJ0_charAt_5068e 1 = .ok (.invokevirtual 492, 3) := by decide +kernel
theorem dz_ch_4 : decode cJ0_charAt_5068e 4 = .ok (.ifCond .eq 12, 3) := by decide +kernel
theorem dz_ch_7 : decode cJ0_charAt_5068e 7 = .ok (.aload_n 0, 1) := by decide +kernel
theorem dz_ch_8 : decode cJ0_charAt_5068e 8 = .ok (.getfield 9, 3) := by decide +kernel
theorem dz_ch_11 : decode cJ0_charAt_5068e 11 = .ok (.iload_n 1, 1) := by decide +kernel
theorem dz_ch_12 : decode cJ0_charAt_5068e 12 = .ok (.invokestatic 495, 3) := by decide +kernel
theorem dz_ch_15 : decode cJ0_charAt_5068e 15 = .ok (.ireturn, 1) := by decide +kernel
theorem dz_ch_16 : decode cJ0_charAt_5068e 16 = .ok (.aload_n 0, 1) := by decide +kernel
theorem dz_ch_17 : decode cJ0_charAt_5068e 17 = .ok (.getfield 9, 3) := by decide +kernel
theorem dz_ch_20 : decode cJ0_charAt_5068e 20 = .ok (.iload_n 1, 1) := by decide +kernel
theorem dz_ch_21 : decode cJ0_charAt_5068e 21 = .ok (.invokestatic 498, 3) := by decide +kernel
theorem dz_ch_24 : decode cJ0_charAt_5068e 24 = .ok (.ireturn, 1) := by decide +kernel
theorem wz_co : Cond.code yJ0_coder_7d493 cJ0_coder_7d493 1 (some .byte) ∈ mm_ws := mm_tw (mm_t2 (List.mem_of_getElem? (i := 152) rfl)) rfl
theorem wi_co : Cond.instanceMethod yJ0_coder_7d493 ∈ mm_ws := mm_tw (mm_t2 (List.mem_of_getElem? (i := 150) rfl)) rfl
theorem wl_co : Cond.selects "java/lang/String" yJ0_coder_7d493 yJ0_coder_7d493 ∈ mm_ws := mm_tw (mm_t2 (List.mem_of_getElem? (i := 151) rfl)) rfl
theorem wz_la : Cond.code yJ0_isLatin1_aae02 cJ0_isLatin1_aae02 1 (some .boolean) ∈ mm_ws := mm_tw (mm_t2 (List.mem_of_getElem? (i := 162) rfl)) rfl
theorem wi_la : Cond.instanceMethod yJ0_isLatin1_aae02 ∈ mm_ws := mm_tw (mm_t2 (List.mem_of_getElem? (i := 160) rfl)) rfl
theorem wl_la : Cond.selects "java/lang/String" yJ0_isLatin1_aae02 yJ0_isLatin1_aae02 ∈ mm_ws := mm_tw (mm_t2 (List.mem_of_getElem? (i := 161) rfl)) rfl
theorem wz_pc : Cond.code yJ3_checkIndex_8e157 cJ3_checkIndex_8e157 3 (some .int) ∈ mm_ws := mm_tw (mm_t2 (List.mem_of_getElem? (i := 173) rfl)) rfl
theorem ws_pc : Cond.static yJ3_checkIndex_8e157 ∈ mm_ws := mm_tw (mm_t2 (List.mem_of_getElem? (i := 172) rfl)) rfl
theorem wz_ci : Cond.code yJ0_checkIndex_df160 cJ0_checkIndex_df160 2 none ∈ mm_ws := mm_tw (mm_t2 (List.mem_of_getElem? (i := 168) rfl)) rfl
theorem ws_ci : Cond.static yJ0_checkIndex_df160 ∈ mm_ws := mm_tw (mm_t2 (List.mem_of_getElem? (i := 167) rfl)) rfl
theorem wz_lc : Cond.code yJ1_charAt_3b067 cJ1_charAt_3b067 2 (some .char) ∈ mm_ws := mm_tw (mm_t2 (List.mem_of_getElem? (i := 165) rfl)) rfl
theorem ws_lc : Cond.static yJ1_charAt_3b067 ∈ mm_ws := mm_tw (mm_t2 (List.mem_of_getElem? (i := 164) rfl)) rfl
theorem wz_le : Cond.code yJ0_length_8abf5 cJ0_length_8abf5 1 (some .int) ∈ mm_ws := mm_tw (mm_t2 (List.mem_of_getElem? (i := 148) rfl)) rfl
theorem wi_le : Cond.instanceMethod yJ0_length_8abf5 ∈ mm_ws := mm_tw (mm_t2 (List.mem_of_getElem? (i := 146) rfl)) rfl
theorem wl_le : Cond.selects "java/lang/String" yJ0_length_8abf5 yJ0_length_8abf5 ∈ mm_ws := mm_tw (mm_t2 (List.mem_of_getElem? (i := 147) rfl)) rfl
theorem wz_ch : Cond.code yJ0_charAt_5068e cJ0_charAt_5068e 2 (some .char) ∈ mm_ws := mm_tw (mm_t2 (List.mem_of_getElem? (i := 158) rfl)) rfl
theorem wi_ch : Cond.instanceMethod yJ0_charAt_5068e ∈ mm_ws := mm_tw (mm_t2 (List.mem_of_getElem? (i := 156) rfl)) rfl
theorem wl_ch : Cond.selects "java/lang/String" yJ0_charAt_5068e yJ0_charAt_5068e ∈ mm_ws := mm_tw (mm_t2 (List.mem_of_getElem? (i := 157) rfl)) rfl
theorem wn_S : Cond.initialized "java/lang/String" ∈ mm_ws := mm_tw (mm_t1 (List.mem_of_getElem? (i := 9) rfl)) rfl
theorem wn_L : Cond.initialized "java/lang/StringLatin1" ∈ mm_ws := mm_tw (mm_t1 (List.mem_of_getElem? (i := 10) rfl)) rfl
theorem wn_P : Cond.initialized "jdk/internal/util/Preconditions" ∈ mm_ws := mm_tw (mm_t1 (List.mem_of_getElem? (i := 11) rfl)) rfl
theorem wk_335 : Cond.methodLink "java/lang/String" 335 yJ0_coder_7d493 ∈ mm_ws := mm_tw (mm_t2 (List.mem_of_getElem? (i := 149) rfl)) rfl
theorem wk_492 : Cond.methodLink "java/lang/String" 492 yJ0_isLatin1_aae02 ∈ mm_ws := mm_tw (mm_t2 (List.mem_of_getElem? (i := 159) rfl)) rfl
theorem wk_495 : Cond.methodLink "java/lang/String" 495 yJ1_charAt_3b067 ∈ mm_ws := mm_tw (mm_t2 (List.mem_of_getElem? (i := 163) rfl)) rfl
theorem wk_9 : Cond.methodLink "java/lang/StringLatin1" 9 yJ0_checkIndex_df160 ∈ mm_ws := mm_tw (mm_t2 (List.mem_of_getElem? (i := 166) rfl)) rfl
theorem wk_1059 : Cond.methodLink "java/lang/String" 1059 yJ3_checkIndex_8e157 ∈ mm_ws := mm_tw (mm_t2 (List.mem_of_getElem? (i := 171) rfl)) rfl
theorem wf_38 : Cond.fieldLink "java/lang/String" 38 "java/lang/String" "COMPACT_STRINGS" "Z" ∈ mm_ws := mm_tw (mm_t2 (List.mem_of_getElem? (i := 153) rfl)) rfl
theorem wf_15 : Cond.fieldLink "java/lang/String" 15 "java/lang/String" "coder" "B" ∈ mm_ws := mm_tw (mm_t9 (List.mem_of_getElem? (i := 23) rfl)) rfl
theorem wf_9 : Cond.fieldLink "java/lang/String" 9 "java/lang/String" "value" "[B" ∈ mm_ws := mm_tw (mm_t9 (List.mem_of_getElem? (i := 22) rfl)) rfl
theorem wf_1053 : Cond.fieldLink "java/lang/String" 1053 "jdk/internal/util/Preconditions" "SIOOBE_FORMATTER" "Ljava/util/function/BiFunction;" ∈ mm_ws := mm_tw (mm_t2 (List.mem_of_getElem? (i := 169) rfl)) rfl
def mm_ss (adK adV : Nat → Nat) (A : Nat → Prop) (U : State) : Prop := vk_S 17 mm_sl mm_sb adK adV A U U.heap ∧ va_Z "java/lang/String" "COMPACT_STRINGS" "Z" (.int 1) A U U.heap ∧ va_Zq "jdk/internal/util/Preconditions" "SIOOBE_FORMATTER" "Ljava/util/function/BiFunction;" A U U.heap
theorem mm_ss_blind {adK adV : Nat → Nat} {A : Nat → Prop} {av : List Value} : FrameBlind (va_Pc av (mm_ss adK adV A)) := by
  rintro a U g mk ⟨h0, h1, h2, h3⟩
  exact ⟨h0, vk_S.moved (U := U.calling g mk a) (Vm.Alike.refl U.vm) h1, va_Z.moved (U := U.calling g mk a) (Vm.Alike.refl U.vm) h2, va_Zq.moved (U := U.calling g mk a) (Vm.Alike.refl U.vm) h3⟩
theorem mm_ss_kept {adK adV : Nat → Nat} {A : Nat → Prop} {s U : State} (h : mm_ss adK adV A s) (hh : U.heap = s.heap) (hW : s.WarmedH U.vm) : mm_ss adK adV A U := by
  unfold mm_ss
  rw [hh]
  exact ⟨h.1.moved hW.alike, h.2.1.moved hW.alike, h.2.2.moved hW.alike⟩
def mm_rs (f : Nat) : Room := { frames := f, cells := 0, slots := 0, locals := 60 * f }
def QcVoid : Array Value → State → Outcome → State → Prop := fun _ st o t => o = .returned none ∧ t.heap = st.heap
theorem mm_call0 {p : Program} {l : Launch} {e : Env} {R : Room} {s : State} {m : MethodId} {args : Array Value} {below : List Frame} {meth : Method} {c : Code} {H : Heap} {locs : List Loc} {cells slots : Nat} {Q : State → Prop} {g : JFrame} {rest : List Value} {a : Array Value} (hr : CallRun p l e R s m args below meth c H locs cells slots 0 0 g rest (QcVoid a) (fun _ => False)) (kk : W p l e R s m args below meth c H locs cells slots Q { g with pc := g.pc + 3, stack := rest }) : W p l e R s m args below meth c H locs cells slots Q g := by
  intro T hT X
  obtain ⟨v, st₀, t, T', L, h0, X', hL, e1, ⟨hv, hh⟩, st⟩ := hr T hT X
  cases hv
  obtain ⟨t2, a1, b1⟩ := kk T' (by rw [e1, hh, h0]) (Stand.forget X' (fun q h => (hL q h).elim))
  exact ⟨t2, st t2 a1, b1⟩
theorem mm_cb2 {R : Room} {s : State} {args : Array Value} {own : String} {index maxL mc ms n : Nat} {y : MethodName} {bytes : ByteArray} {ret : Option FieldType} {rm : Room} (hts : ∀ w ∈ mm_ws, w.before args s = true) (hcode : Cond.code y bytes maxL ret ∈ mm_ws) (hini : Cond.initialized y.cls ∈ mm_ws) (hl : Cond.methodLink own index y ∈ mm_ws) (hrc : rm.cells = mc) (hrs : rm.slots = ms)
    (hd : y.cls ≠ "java/lang/invoke/MethodHandle" ∧ y.cls ≠ "java/lang/invoke/VarHandle") (hp : (parseMethodDescriptor y.desc).map (fun d => d.parameters.length) = some n) (hR : rm.frames + 1 ≤ R.frames ∧ 8 + (maxL + 11) + rm.locals ≤ R.locals) : CallB R s args own index y bytes maxL ret (Cond.code y bytes maxL ret :: mm_ws) rm mc ms n :=
  ⟨hrc, hrs, hR.1, hR.2, pay_in hts (mm_ws_good (fun _ h => h) hcode), List.mem_cons_self, hts _ hcode, hts _ hini, hd, fun sig h => by rw [h] at hp; exact (Option.some.inj hp).symm, hts _ hl⟩
theorem st_co (l : Launch) (adK adV : Nat → Nat) (A : Nat → Prop) (i : Nat) (hi : i < 17) : Met l yJ0_coder_7d493 (Cond.code yJ0_coder_7d493 cJ0_coder_7d493 1 (some .byte) :: mm_ws) (mm_rs 0) (va_Pc [.ref (adK i)] (mm_ss adK adV A)) (QcRead 0) 0 0 (fun _ => False) := by
  refine Met.ofW (cc := cJ0_coder_7d493) (maxL := 1) (ret := (some .byte)) (by decide) rfl ?_
  intro p e s m args below meth cd s₁ B hml hv
  have hx := B.exec
  have hb := B.bytes
  have hr := B.returns
  have hlocks := B.notSynchronized
  have hts0 := atoms_spec (ws := Cond.code yJ0_coder_7d493 cJ0_coder_7d493 1 (some .byte) :: mm_ws) B.pre
  have hown := findClass_of_methodNamed B.named
  obtain ⟨rfl, hE, hC, hZ⟩ := hv
  have hts : ∀ w ∈ mm_ws, w.before ([.ref (adK i)].toArray) s = true := fun w hw => hts0 w (List.mem_cons_of_mem _ hw)
  have hl := lv_entry ([.ref (adK i)]) (n := 1) (Nat.le_of_ble_eq_true rfl)
  rw [lg_entry_eq]
  generalize (lg_sl ([.ref (adK i)]) ++ List.replicate (1 - (lg_sl ([.ref (adK i)])).length) Slot.unset).toArray = ls at hl ⊢
  have hl : lv_has ls 1 [(0, .ref (adK i))] := hl
  have hS : va_S A s.heap s.heap [] := va_S.rf
  refine va_gets hx hb hC hS hown (hts _ wf_38) (fun _ h => h) dz_co_0 ?_
  refine lv_if_eq (tgt := 13) hx hb dz_co_3 (by decide) (fun h => absurd h (by decide)) (fun _ => ?_)
  refine lv_aload_n hx hb dz_co_6 rfl (lv_at hl 0 rfl) ?_
  refine vk_getf hx hb (hE.1 i hi).2.1 hS hown (hts _ wf_15) (fun _ h => h) dz_co_7 ?_
  refine lv_goto (tgt := 14) hx hb dz_co_10 (by decide) ?_
  exact W.zret hx hb hr rfl (fun t ht hW => ⟨rfl, ht⟩) (fun q hq => by cases hq) dz_co_14
theorem st_la (l : Launch) (adK adV : Nat → Nat) (A : Nat → Prop) (i : Nat) (hi : i < 17) : Met l yJ0_isLatin1_aae02 (Cond.code yJ0_isLatin1_aae02 cJ0_isLatin1_aae02 1 (some .boolean) :: mm_ws) (mm_rs 0) (va_Pc [.ref (adK i)] (mm_ss adK adV A)) (QcRead 1) 0 0 (fun _ => False) := by
  refine Met.ofW (cc := cJ0_isLatin1_aae02) (maxL := 1) (ret := (some .boolean)) (by decide) rfl ?_
  intro p e s m args below meth cd s₁ B hml hv
  have hx := B.exec
  have hb := B.bytes
  have hr := B.returns
  have hlocks := B.notSynchronized
  have hts0 := atoms_spec (ws := Cond.code yJ0_isLatin1_aae02 cJ0_isLatin1_aae02 1 (some .boolean) :: mm_ws) B.pre
  have hown := findClass_of_methodNamed B.named
  obtain ⟨rfl, hE, hC, hZ⟩ := hv
  have hts : ∀ w ∈ mm_ws, w.before ([.ref (adK i)].toArray) s = true := fun w hw => hts0 w (List.mem_cons_of_mem _ hw)
  have hl := lv_entry ([.ref (adK i)]) (n := 1) (Nat.le_of_ble_eq_true rfl)
  rw [lg_entry_eq]
  generalize (lg_sl ([.ref (adK i)]) ++ List.replicate (1 - (lg_sl ([.ref (adK i)])).length) Slot.unset).toArray = ls at hl ⊢
  have hl : lv_has ls 1 [(0, .ref (adK i))] := hl
  have hS : va_S A s.heap s.heap [] := va_S.rf
  refine va_gets hx hb hC hS hown (hts _ wf_38) (fun _ h => h) dz_la_0 ?_
  refine lv_if_eq (tgt := 17) hx hb dz_la_3 (by decide) (fun h => absurd h (by decide)) (fun _ => ?_)
  refine lv_aload_n hx hb dz_la_6 rfl (lv_at hl 0 rfl) ?_
  refine vk_getf hx hb (hE.1 i hi).2.1 hS hown (hts _ wf_15) (fun _ h => h) dz_la_7 ?_
  refine lv_if_ne (tgt := 17) hx hb dz_la_10 (by decide) (fun h => absurd rfl h) (fun _ => ?_)
  refine lv_iconst (v := 1) hx hb dz_la_13 (by decide) ?_
  refine lv_goto (tgt := 18) hx hb dz_la_14 (by decide) ?_
  exact W.zret hx hb hr rfl (fun t ht hW => ⟨rfl, ht⟩) (fun q hq => by cases hq) dz_la_18
theorem st_pc (l : Launch) (i n : Int32) (f : Value) (hf : f = .null ∨ ∃ t, f = .ref t) (h0 : ¬ i < 0) (hn : i < n) : Met l yJ3_checkIndex_8e157 (Cond.code yJ3_checkIndex_8e157 cJ3_checkIndex_8e157 3 (some .int) :: mm_ws) (mm_rs 0) (va_Pc [.int i, .int n, f] (fun _ => True)) (QcRead i) 0 0 (fun _ => False) := by
  have hc1 : f.category = 1 := by rcases hf with rfl | ⟨t, rfl⟩ <;> rfl
  refine Met.ofW (cc := cJ3_checkIndex_8e157) (maxL := 3) (ret := (some .int)) (by decide) rfl ?_
  intro p e s m args below meth cd s₁ B hml hv
  have hx := B.exec
  have hb := B.bytes
  have hr := B.returns
  have hlocks := B.notSynchronized
  have hts0 := atoms_spec (ws := Cond.code yJ3_checkIndex_8e157 cJ3_checkIndex_8e157 3 (some .int) :: mm_ws) B.pre
  have hown := findClass_of_methodNamed B.named
  obtain ⟨rfl, -⟩ := hv
  have hle : (lg_sl [.int i, .int n, f]).length ≤ 3 := by rcases hf with rfl | ⟨t, rfl⟩ <;> exact Nat.le_of_ble_eq_true rfl
  have hl := lv_entry ([.int i, .int n, f]) (n := 3) hle
  rw [lg_entry_eq]
  generalize (lg_sl ([.int i, .int n, f]) ++ List.replicate (3 - (lg_sl ([.int i, .int n, f])).length) Slot.unset).toArray = ls at hl ⊢
  have hl : lv_has ls 3 [(0, .int i), (1, .int n), (2, f)] := hl
  refine lv_iload_n hx hb dz_pc_0 rfl (lv_at hl 0 rfl) ?_
  refine lv_if_lt (tgt := 9) hx hb dz_pc_1 (by decide) (fun h => absurd h h0) (fun _ => ?_)
  refine lv_iload_n hx hb dz_pc_4 rfl (lv_at hl 0 rfl) ?_
  refine lv_iload_n hx hb dz_pc_5 rfl (lv_at hl 1 rfl) ?_
  refine lv_icmp_lt (tgt := 16) hx hb dz_pc_6 (by decide) (fun _ => ?_) (fun h => absurd hn h)
  refine lv_iload_n hx hb dz_pc_16 rfl (lv_at hl 0 rfl) ?_
  exact W.iret hx hb hr (fun t ht hW => ⟨rfl, ht⟩) (fun q hq => by cases hq) dz_pc_17
theorem st_ci (l : Launch) (adK adV : Nat → Nat) (A : Nat → Prop) (i n : Int32) (h0 : ¬ i < 0) (hn : i < n) : Met l yJ0_checkIndex_df160 (Cond.code yJ0_checkIndex_df160 cJ0_checkIndex_df160 2 none :: mm_ws) (mm_rs 1) (va_Pc [.int i, .int n] (mm_ss adK adV A)) QcVoid 0 0 (fun _ => False) := by
  refine Met.ofW (cc := cJ0_checkIndex_df160) (maxL := 2) (ret := none) (by decide) rfl ?_
  intro p e s m args below meth cd s₁ B hml hv
  have hx := B.exec
  have hb := B.bytes
  have hr := B.returns
  have hlocks := B.notSynchronized
  have hts0 := atoms_spec (ws := Cond.code yJ0_checkIndex_df160 cJ0_checkIndex_df160 2 none :: mm_ws) B.pre
  have hown := findClass_of_methodNamed B.named
  obtain ⟨rfl, hE, hC, hZ⟩ := hv
  have hts : ∀ w ∈ mm_ws, w.before ([.int i, .int n].toArray) s = true := fun w hw => hts0 w (List.mem_cons_of_mem _ hw)
  have hl := lv_entry ([.int i, .int n]) (n := 2) (Nat.le_of_ble_eq_true rfl)
  rw [lg_entry_eq]
  generalize (lg_sl ([.int i, .int n]) ++ List.replicate (2 - (lg_sl ([.int i, .int n])).length) Slot.unset).toArray = ls at hl ⊢
  have hl : lv_has ls 2 [(0, .int i), (1, .int n)] := hl
  have hS : va_S A s.heap s.heap [] := va_S.rf
  refine lv_iload_n hx hb dz_ci_0 rfl (lv_at hl 0 rfl) ?_
  refine lv_iload_n hx hb dz_ci_1 rfl (lv_at hl 1 rfl) ?_
  have go : ∀ f : Value, (f = .null ∨ ∃ t, f = .ref t) → W p l e (mm_rs 1) s m ([.int i, .int n].toArray) below meth cd s.heap [] 0 0 (MQ below QcVoid ([.int i, .int n].toArray) s 0 0 (fun _ => False)) (F0 m 5 ls [f, .int n, .int i]) := by
    intro f hf
    refine W.callR (r := i) (a := ([.int i, .int n, f] : List Value).toArray) (W.runS (As := [.int i, .int n, f]) (rest := []) (n := 3) (nL := 2) (Ts := mm_ws) (own := "java/lang/String") ⟨hx, hb, hml, hown, hts⟩ (st_pc l i n f hf h0 hn) ⟨mm_cb2 hts wz_pc wn_P wk_1059 rfl rfl (by decide) (by decide +kernel) ⟨Nat.le_of_ble_eq_true rfl, Nat.le_of_ble_eq_true rfl⟩, hts _ ws_pc⟩ ⟨fun a U g mk q => q, fun U hU hW => ⟨rfl, trivial⟩⟩ rfl rfl hl.1 rfl (lv_room (Nat.le_of_ble_eq_true rfl)) dz_ci_5 ⟨Nat.le_of_ble_eq_true rfl, Nat.le_of_ble_eq_true rfl⟩) ?_
    refine lv_pop hx hb dz_ci_8 rfl ?_
    exact W.vret hx hb hr (fun t ht hW => ⟨rfl, ht⟩) (fun q hq => by cases hq) dz_ci_9
  rcases hZ with hZ | ⟨t, hZ⟩
  · exact va_gets hx hb hZ hS hown (hts _ wf_1053) (fun _ h => h) dz_ci_2 (go .null (Or.inl rfl))
  · exact va_gets hx hb hZ hS hown (hts _ wf_1053) (fun _ h => h) dz_ci_2 (go (.ref t) (Or.inr ⟨t, rfl⟩))
theorem st_bytes : ∀ i, i < 17 → ∀ j, j < mm_sl.getD i 0 → (((mm_sb.getD i []).getD j 0 &&& 255).toUInt32 % 65536).toInt32 = (mm_sb.getD i []).getD j 0 := by decide +kernel
theorem st_len : ∀ i, i < 17 → mm_sl.getD i 0 < 2 ^ 31 := by decide +kernel
theorem st_lc (l : Launch) (adK adV : Nat → Nat) (A : Nat → Prop) (k : Nat) (hk : k < 17) (i : Int32) (hin : vp_in i (mm_sl.getD k 0)) : Met l yJ1_charAt_3b067 (Cond.code yJ1_charAt_3b067 cJ1_charAt_3b067 2 (some .char) :: mm_ws) (mm_rs 2) (va_Pc [.ref (adV k), .int i] (mm_ss adK adV A)) (QcRead ((mm_sb.getD k []).getD i.toNatClampNeg 0)) 0 0 (fun _ => False) := by
  refine Met.ofW (cc := cJ1_charAt_3b067) (maxL := 2) (ret := (some .char)) (by decide) rfl ?_
  intro p e s m args below meth cd s₁ B hml hv
  have hx := B.exec
  have hb := B.bytes
  have hr := B.returns
  have hlocks := B.notSynchronized
  have hts0 := atoms_spec (ws := Cond.code yJ1_charAt_3b067 cJ1_charAt_3b067 2 (some .char) :: mm_ws) B.pre
  have hown := findClass_of_methodNamed B.named
  obtain ⟨rfl, hE, hC, hZ⟩ := hv
  have hts : ∀ w ∈ mm_ws, w.before ([.ref (adV k), .int i].toArray) s = true := fun w hw => hts0 w (List.mem_cons_of_mem _ hw)
  have hl := lv_entry ([.ref (adV k), .int i]) (n := 2) (Nat.le_of_ble_eq_true rfl)
  rw [lg_entry_eq]
  generalize (lg_sl ([.ref (adV k), .int i]) ++ List.replicate (2 - (lg_sl ([.ref (adV k), .int i])).length) Slot.unset).toArray = ls at hl ⊢
  have hl : lv_has ls 2 [(0, .ref (adV k)), (1, .int i)] := hl
  have hS : va_S A s.heap s.heap [] := va_S.rf
  have hT := (hE.1 k hk).2.2.2
  obtain ⟨j, hj, hij⟩ := vp_in_of hin (st_len k hk)
  have hlt : i < Int32.ofNat (mm_sl.getD k 0) := by rw [hij]; exact nI_lt hj (st_len k hk)
  have h0 : ¬ i < 0 := by rw [hij]; exact nI_pos (Nat.lt_trans hj (st_len k hk))
  have hb2 := st_bytes k hk i.toNatClampNeg (Nat.not_le.mp fun q => hin (Or.inr q))
  refine lv_iload_n hx hb dz_lc_0 rfl (lv_at hl 1 rfl) ?_
  refine lv_aload_n hx hb dz_lc_1 rfl (lv_at hl 0 rfl) ?_
  refine va_tlen hx hb hT hS rfl dz_lc_2 ?_
  refine mm_call0 (a := ([.int i, .int (Int32.ofNat (mm_sl.getD k 0))] : List Value).toArray) (W.runS (As := [.int i, .int (Int32.ofNat (mm_sl.getD k 0))]) (rest := []) (n := 2) (nL := 2) (Ts := mm_ws) (own := "java/lang/StringLatin1") ⟨hx, hb, hml, hown, hts⟩ (st_ci l adK adV A i (Int32.ofNat (mm_sl.getD k 0)) h0 hlt) ⟨mm_cb2 hts wz_ci wn_S wk_9 rfl rfl (by decide) (by decide +kernel) ⟨Nat.le_of_ble_eq_true rfl, Nat.le_of_ble_eq_true rfl⟩, hts _ ws_ci⟩ ⟨mm_ss_blind, fun U hU hW => ⟨rfl, mm_ss_kept ⟨hE, hC, hZ⟩ hU hW⟩⟩ rfl rfl hl.1 rfl (lv_room (Nat.le_of_ble_eq_true rfl)) dz_lc_3 ⟨Nat.le_of_ble_eq_true rfl, Nat.le_of_ble_eq_true rfl⟩) ?_
  refine lv_aload_n hx hb dz_lc_6 rfl (lv_at hl 0 rfl) ?_
  refine lv_iload_n hx hb dz_lc_7 rfl (lv_at hl 1 rfl) ?_
  refine va_tb hx hb hT hS hin rfl dz_lc_8 ?_
  refine lv_sipush (v := 255) hx hb dz_lc_9 (by decide) ?_
  refine lv_iand hx hb dz_lc_12 ?_
  refine lv_i2c (v := (mm_sb.getD k []).getD i.toNatClampNeg 0) hx hb dz_lc_13 hb2 ?_
  refine W.zret hx hb hr ?_ (fun t ht hW => ⟨rfl, ht⟩) (fun q hq => by cases hq) dz_lc_14
  rw [← hb2]; exact pk_nc _
