/-! a call that may throw: the class's led, and the law's -/
theorem wx_iL : Cond.initialized RL ∈ mm_ws := mm_tw (mm_t1 (List.mem_of_getElem? (i := 0) rfl)) rfl
theorem wx_ini : Cond.initialized "java/util/NoSuchElementException" ∈ mm_ws := mm_tw (mm_t1 (List.mem_of_getElem? (i := 23) rfl)) rfl
theorem wx_st : Cond.static yL_led ∈ mm_ws := mm_tw (mm_t6 (List.mem_of_getElem? (i := 65) rfl)) rfl
theorem wx_cw : Cond.codeWith yL_led cL_led 4 (some .int) [(0, 9, 12, 13)] ∈ mm_ws := mm_tw (mm_t6 (List.mem_of_getElem? (i := 66) rfl)) rfl
theorem wx_clL : Cond.classLink RL 13 "java/util/NoSuchElementException" ∈ mm_ws := mm_tw (mm_t6 (List.mem_of_getElem? (i := 67) rfl)) rfl
theorem wx_ml : Cond.methodLink RL 7 yX9_led ∈ mm_ws := mm_tw (mm_t6 (List.mem_of_getElem? (i := 68) rfl)) rfl
theorem wx_im : Cond.instanceMethod yX9_led ∈ mm_ws := mm_tw (mm_t6 (List.mem_of_getElem? (i := 69) rfl)) rfl
theorem wx_se : Cond.selects RX9 yX9_led yX9_led ∈ mm_ws := mm_tw (mm_t6 (List.mem_of_getElem? (i := 70) rfl)) rfl
theorem wx_co : Cond.code yX9_led cX9_led 4 (some .int) ∈ mm_ws := mm_tw (mm_t6 (List.mem_of_getElem? (i := 71) rfl)) rfl
theorem wx_cl9 : Cond.classLink RX9 289 "java/util/NoSuchElementException" ∈ mm_ws := mm_tw (mm_t6 (List.mem_of_getElem? (i := 72) rfl)) rfl
theorem dz_ll_0 : decode cL_led 0 = .ok (.aload_n 2, 1) := by decide +kernel
theorem dz_ll_1 : decode cL_led 1 = .ok (.iconst 0, 1) := by decide +kernel
theorem dz_ll_2 : decode cL_led 2 = .ok (.aload_n 0, 1) := by decide +kernel
theorem dz_ll_3 : decode cL_led 3 = .ok (.iload_n 1, 1) := by decide +kernel
theorem dz_ll_4 : decode cL_led 4 = .ok (.invokevirtual 7, 3) := by decide +kernel
theorem dz_ll_7 : decode cL_led 7 = .ok (.i2l, 1) := by decide +kernel
theorem dz_ll_8 : decode cL_led 8 = .ok (.lastore, 1) := by decide +kernel
theorem dz_ll_9 : decode cL_led 9 = .ok (.goto 6, 3) := by decide +kernel
theorem dz_ll_12 : decode cL_led 12 = .ok (.astore_n 3, 1) := by decide +kernel
theorem dz_ll_13 : decode cL_led 13 = .ok (.iconst 1, 1) := by decide +kernel
theorem dz_ll_14 : decode cL_led 14 = .ok (.ireturn, 1) := by decide +kernel
theorem dz_ll_15 : decode cL_led 15 = .ok (.iconst 0, 1) := by decide +kernel
theorem dz_ll_16 : decode cL_led 16 = .ok (.ireturn, 1) := by decide +kernel
theorem dz_xl_62 : decode cX9_led 62 = .ok (.new 289, 3) := by decide +kernel
theorem dz_xl_65 : decode cX9_led 65 = .ok (.dup, 1) := by decide +kernel
theorem dz_xl_66 : decode cX9_led 66 = .ok (.invokespecial 291, 3) := by decide +kernel
theorem dz_xl_69 : decode cX9_led 69 = .ok (.athrow, 1) := by decide +kernel
def mm_nse : String := "java/util/NoSuchElementException"
def mm_ths : List Cond := [.declares ⟨"java/lang/RuntimeException", "<init>", "()V"⟩, .declares ⟨"java/lang/Exception", "<init>", "()V"⟩, .declares ⟨"java/lang/Throwable", "<init>", "()V"⟩, .castable "java/util/NoSuchElementException" "java/util/NoSuchElementException"]
theorem mm_at0_good : ∀ w ∈ (vx_at0 RX9 291 "java/util/NoSuchElementException" ["java/lang/RuntimeException", "java/lang/Exception"]).filter goodWord, w ∈ lw_tbl := by decide +kernel
theorem mm_at0_rest : ∀ w ∈ (vx_at0 RX9 291 "java/util/NoSuchElementException" ["java/lang/RuntimeException", "java/lang/Exception"]).filter (fun w => !goodWord w), w ∈ mm_ths := by decide +kernel
theorem mm_at0_ot : ∀ w ∈ Cond.classLink RX9 289 "java/util/NoSuchElementException" :: Cond.initialized "java/util/NoSuchElementException" :: vx_at0 RX9 291 "java/util/NoSuchElementException" ["java/lang/RuntimeException", "java/lang/Exception"], vx_ot w = true := by decide +kernel
theorem mm_ths_of {s : State} {args : Array Value} (h : mm_thr s) : ∀ w ∈ mm_ths, w.before args s = true := vx_c h.1.use (vx_c h.2.1.use (vx_c h.2.2.1.use (vx_c h.2.2.2.1.use vx_n)))
theorem mm_at0 {s : State} {args : Array Value} (hts : ∀ w ∈ mm_ws, w.before args s = true) (h : mm_thr s) : ∀ w ∈ vx_at0 RX9 291 "java/util/NoSuchElementException" ["java/lang/RuntimeException", "java/lang/Exception"], w.before args s = true :=
  vx_hat (fun w hw => hts w (List.mem_filter.mpr ⟨mm_at0_good w hw, (List.mem_filter.mp hw).2⟩)) mm_at0_rest (mm_ths_of h)
section MMT
variable {p : Program} {l : Launch} {e : Env} {R : Room} {s : State} {m : MethodId} {args : Array Value} {below : List Frame} {meth : Method} {c : Code} {own : Nat} {cc : ByteArray} {D : va_G} {cA : Nat → ClassId} {ad0 adV : Nat → Nat} {A : Nat → Prop} {L : Nat} {xs : Nat → Int32} {mc ms : Nat} {Q : State → Prop} {ret : Option FieldType}
/-- as mm_w_sound; the last block is an end by other means -/
theorem mm_w_soundE (X : ∀ ad, mm_ag ad0 ad → mm_c p s m args c own cc D cA ad adV A L xs) {Rq : mmQ} {C : mmCall} {bs : List mmB} {pe : Nat} {mk : List Bool}
    (hR : ∀ ad, mm_ag ad0 ad → ∀ (pc : Nat) (q : mmE) (ls : mmL) (v : Option Value) (σ : mmS), decode cc pc = .ok (q.1, q.2.1) → q.2.1 = 1 → mm_ck2 own ret q = true → Rq v σ → mm_rk q v → mm_g p l e R s m args below meth c D cA ad A L xs mc ms Q pc ls v.toList σ)
    (hI : ∀ ad, mm_ag ad0 ad → ∀ (pc : Nat) (q : mmE) (ls : mmL) (st : List Value) (σ : mmS) (kk : List Value → mmS → Prop), decode cc pc = .ok (q.1, q.2.1) → q.2.1 = 3 → mm_ck2 own ret q = true → mm_isI q.1 → mm_inv C q.2.2.1 q.2.2.2.1 q.2.2.2.2.1 q.2.2.2.2.2.1 ls st σ kk → (∀ ad', mm_ag ad0 ad' → ∀ s' τ, kk s' τ → mm_g p l e R s m args below meth c D cA ad' A L xs mc ms Q (pc + 3) ls s' τ) → mm_g p l e R s m args below meth c D cA ad A L xs mc ms Q pc ls st σ)
    (hT : ∀ ad, mm_ag ad0 ad → ∀ (ls : mmL) (σ : mmS), Rq none σ → mm_g p l e R s m args below meth c D cA ad A L xs mc ms Q pe ls [] σ)
    (h1 : (bs.all fun q => mm_ckr own cc q.2.2 q.1) = true) (h2 : (bs.all fun q => q.2.2.all (mm_ck2 own ret)) = true) {pc : Nat} {ls : mmL} {st : List Value} {σ : mmS} (h : mm_w Rq C (bs ++ [(pe, mk, [(.return_, 1, 0, 0, 0, 0, 0)])]) pc ls st σ) : ∀ ad, mm_ag ad0 ad → mm_g p l e R s m args below meth c D cA ad A L xs mc ms Q pc ls st σ := by
  refine h (fun pc ls st σ => ∀ ad, mm_ag ad0 ad → mm_g p l e R s m args below meth c D cA ad A L xs mc ms Q pc ls st σ) ?_
  intro pc ls st σ hk ad ha
  unfold mm_k at hk
  split at hk
  · rename_i q hq
    obtain ⟨hm, rfl⟩ := mm_find_mem hq
    rcases List.mem_append.mp hm with hm | hm
    · have g := mm_b_sound X hR hI (fun ad ha pc ls st σ z => z ad ha) q.2.2 q.1 (List.all_eq_true.mp h1 q hm) (List.all_eq_true.mp h2 q hm) ad ha (mm_mask q.2.1 ls) st σ hk
      intro lsA H locs cells slots g1
      exact g lsA H locs cells slots (g1.mask q.2.1)
    · have e := List.mem_singleton.mp hm
      subst e
      clear hq hm
      cases st with
      | cons a r => exact (show False from hk).elim
      | nil => exact hT ad ha ls σ hk
  · exact hk.elim
end MMT
theorem bk_led_eq : bk_led = bk_led.take 4 ++ [(62, [false, false, false, false], [(.return_, 1, 0, 0, 0, 0, 0)])] := rfl
theorem bk_led_1 : ((bk_led.take 4).all fun q => mm_ckr 9 cX9_led q.2.2 q.1) = true := by decide +kernel
theorem bk_led_2 : ((bk_led.take 4).all fun q => q.2.2.all (mm_ck2 9 (some .int))) = true := by decide +kernel
/-- the class's led -/
theorem mm_xled {l : Launch} (hst : l.stackTraces = false) (d : Nat) (hX : ∀ d', d' < d + 1 → mm_XH l d') (D : va_G) (cA : Nat → ClassId) (adV : Nat → Nat) (A : Nat → Prop) (L : Nat) (xs : Nat → Int32) (σ : mmS) (i : Int32) (Rq : mmQ) (hL : L < 2 ^ 31) (hRq : ∀ v τ, Rq v τ → τ.1.2.2.2.2.2 = σ.1.2.2.2.2.2 ∧ τ.1.2.1 = 1 ∧ τ.1.2.2.1 = 6) (h : mm_w Rq (mm_wc (d + 1)) bk_led 0 [some (.ref 0), some (.int i), none, none] [] (mm_bud σ 1 6)) :
    vx_Met l yX9_led (Cond.code yX9_led cX9_led 4 (some .int) :: mm_ws) (mm_rm (d + 1) 1 6) (va_Pc [.ref (σ.1.2.2.2.2.2 0), .int i] (mm_pre D cA σ.1.2.2.2.2.2 adV A L xs (mm_bud σ 1 6))) (mm_qc 1 Rq σ.1.2.2.2.2.2 D cA A L xs) (vx_X (fun u : mmS => Rq none u) (fun E u t => E = "java/util/NoSuchElementException" ∧ mm_B D cA A L xs u t) A) 1 6 A := by
  refine vx_ofW (cc := cX9_led) (maxL := 4) (ret := some .int) (by decide) rfl ?_
  intro p e s m args below meth c s₁ B hml htab hv
  obtain ⟨rfl, hP, hK, hD, hE, hcst, hAA⟩ := hv
  have hts0 := atoms_spec (ws := Cond.code yX9_led cX9_led 4 (some .int) :: mm_ws) B.pre
  have hts : ∀ w ∈ mm_ws, w.before ([Value.ref (σ.1.2.2.2.2.2 0), .int i].toArray) s = true := fun w hw => hts0 w (List.mem_cons_of_mem _ hw)
  have hown : s.vm.findClass RX9 = some m.cls := findClass_of_methodNamed B.named
  have X : ∀ ad, mm_ag σ.1.2.2.2.2.2 ad → mm_c p s m ([Value.ref (σ.1.2.2.2.2.2 0), .int i].toArray) c 9 cX9_led D cA ad adV A L xs := fun ad ha => ⟨B.exec, B.bytes, hown, hts, hK, mm_env_ag hE ha, hL⟩
  have hl := mm_lr_entry (ad := σ.1.2.2.2.2.2) (vs := [.ref 0, .int i]) (n := 4) (Nat.le_of_ble_eq_true rfl)
  have hl : mm_lr σ.1.2.2.2.2.2 ((lg_sl [Value.ref (σ.1.2.2.2.2.2 0), .int i] ++ List.replicate (4 - (lg_sl [Value.ref (σ.1.2.2.2.2.2 0), .int i]).length) Slot.unset).toArray) [some (.ref 0), some (.int i), none, none] := hl
  rw [lg_entry_eq]
  rw [bk_led_eq] at h
  refine mm_w_soundE (ret := some .int) X ?_ ?_ ?_ bk_led_1 bk_led_2 h σ.1.2.2.2.2.2 mm_ag.refl _ s.heap [] 0 0 hl hP hD va_S.rf hcst (Nat.zero_add _) (Nat.zero_add _) rfl (by rw [hml]; exact hl.1)
  · intro ad ha pc q ls v τ hd hn hck hq hrk lsA H locs cells slots g1 g2 g3 g4 g5 g6 g7 g8 g9
    exact vx_ret (mm_ends (X ad ha) ha B.returns B.notSynchronized hd hn hck hq hrk lsA H locs cells slots g1 g2 g3 g4 g5 g6 g7 g8 g9)
  · intro ad ha pc q ls st τ kk hd hn hck hI hi kn
    exact mm_calls hX (fun d' z c m hm D cA adV A L xs σ vs Q hL h => mm_met d' (fun d9 z9 => hX d9 (by omega)) c m hm D cA adV A L xs σ vs Q hL h) X hAA ad ha pc q ls st τ kk hd hn hck hI hi kn
  · intro ad ha ls τ hq lsA H locs cells slots g1 g2 g3 g4 g5 g6 g7 g8 g9
    obtain ⟨z1, z2, z3⟩ := hRq none τ hq
    have hk : va_P D vwCl (mm_W τ.1.2.2.2.2.2 cA τ) H := by rw [g8]; exact g2
    have g6 : cells + τ.1.2.1 = 1 := g6
    have g7 : slots + τ.1.2.2.1 = 6 := g7
    have g6 : cells = 0 := by rw [z2] at g6; exact Nat.add_right_cancel (m := 1) (by rw [g6])
    have g7 : slots = 0 := by rw [z3] at g7; exact Nat.add_right_cancel (m := 6) (by rw [g7])
    subst g6 g7
    refine vx_throw0 (own := RX9) (cls := "java/util/NoSuchElementException") (names := ["java/lang/RuntimeException", "java/lang/Exception"]) (ik := 289) (ic := 291) (A := A) B.exec B.bytes hst hown (by decide) (by decide) (hts _ wx_cl9) (hts _ wx_ini) (mm_at0 hts hE.2.2.1.2.2.2.2.2) mm_at0_ot hE.2.2.1.2.2.2.1 hE.2.2.1.2.2.2.2.1 g4 g9 dz_xl_62 dz_xl_65 dz_xl_66 dz_xl_69 (fun x hx => (htab x hx).elim) (by show 2 + 3 < 8 * (d + 1); omega) (by show 0 + (13 * (2 + 1) + 42) ≤ 400 * (d + 1); omega) (Nat.le_refl _) (Nat.le_refl _) B.notSynchronized (fun t hvm hz hkp => ⟨τ, hq, ⟨rfl, hk.kept (fun k x hx => hkp x.1 ((hk k x hx).lt)), va_K.moved hvm hK, by rw [g8]; exact g3, g5⟩, ⟨Nat.le_trans g4.1 hz, fun q q1 q2 => (hkp q (Nat.lt_of_lt_of_le q1 g4.1)).trans (g4.2.1 q q1 q2)⟩⟩) g4.2.2 (by omega) (by omega)
/-- the law's led -/
theorem mm_lled {l : Launch} (hst : l.stackTraces = false) (d : Nat) (hX : ∀ d', d' < d + 1 → mm_XH l d') (D : va_G) (cA : Nat → ClassId) (adV : Nat → Nat) (A : Nat → Prop) (L : Nat) (xs : Nat → Int32) (σ : mmS) (i : Int32) (Qm : mmQ) (hL : L < 2 ^ 31) (h : mm_led (mm_wc (d + 1)) i σ Qm) :
    Met l yL_led (Cond.codeWith yL_led cL_led 4 (some .int) [(0, 9, 12, 13)] :: mm_ws) ({ frames := 8 * (d + 1) + 2, cells := σ.1.2.1, slots := σ.1.2.2.1, locals := 400 * (d + 1) + 100 }) (va_Pc [.ref (σ.1.2.2.2.2.2 0), .int i, .ref (σ.1.2.2.2.2.2 65)] (mm_pre D cA σ.1.2.2.2.2.2 adV A L xs σ)) (mm_qc 1 Qm σ.1.2.2.2.2.2 D cA A L xs) σ.1.2.1 σ.1.2.2.1 A := by
  obtain ⟨-, hc1, hs6, h⟩ := h
  refine va_MetW (cc := cL_led) (maxL := 4) (ret := some .int) (hh := [(0, 9, 12, 13)]) (by decide) rfl ?_
  intro p e s m args below meth c s₁ B hml hv
  obtain ⟨rfl, hP, hK, hD, hE, hcst, hAA⟩ := hv
  have hts0 := atoms_spec (ws := Cond.codeWith yL_led cL_led 4 (some .int) [(0, 9, 12, 13)] :: mm_ws) B.pre
  have hts : ∀ w ∈ mm_ws, w.before ([Value.ref (σ.1.2.2.2.2.2 0), .int i, .ref (σ.1.2.2.2.2.2 65)].toArray) s = true := fun w hw => hts0 w (List.mem_cons_of_mem _ hw)
  have hown : s.vm.findClass RL = some m.cls := findClass_of_methodNamed B.named
  have hx := B.exec
  have hb := B.bytes
  have hr := B.returns
  have hlocks := B.notSynchronized
  have htab := vx_table (x := yL_led) B (hts _ wx_cw)
  have hS : va_S A s.heap s.heap [] := va_S.rf
  have hl := lv_entry ([Value.ref (σ.1.2.2.2.2.2 0), .int i, .ref (σ.1.2.2.2.2.2 65)]) (n := 4) (Nat.le_of_ble_eq_true rfl)
  rw [lg_entry_eq]
  generalize (lg_sl ([Value.ref (σ.1.2.2.2.2.2 0), .int i, .ref (σ.1.2.2.2.2.2 65)]) ++ List.replicate (4 - (lg_sl ([Value.ref (σ.1.2.2.2.2.2 0), .int i, .ref (σ.1.2.2.2.2.2 65)])).length) Slot.unset).toArray = ls at hl ⊢
  have hl : lv_has ls 4 [(0, .ref (σ.1.2.2.2.2.2 0)), (1, .int i), (2, .ref (σ.1.2.2.2.2.2 65))] := hl
  refine lv_aload_n hx hb dz_ll_0 rfl (lv_at hl 2 rfl) ?_
  refine lv_iconst (v := 0) hx hb dz_ll_1 (by decide) ?_
  refine lv_aload_n hx hb dz_ll_2 rfl (lv_at hl 0 rfl) ?_
  refine lv_iload_n hx hb dz_ll_3 rfl (lv_at hl 1 rfl) ?_
  have hw0 := mm_W_get (ad := σ.1.2.2.2.2.2) (cA := cA) (σ := σ) (r := 0) rfl
  obtain ⟨q0, hq0, hw0⟩ := hw0
  have hw0 : (mm_W σ.1.2.2.2.2.2 cA σ)[q0]? = some (σ.1.2.2.2.2.2 0, .inr (9, mm_fs σ.1.2.2.2.2.2 σ 0 9 [1, 0, 6, 15, 70, 81, 96, 0, 0, 0])) := hw0
  have hrecv := va_recv hK hP rfl hw0
  have hM := mm_xled hst d hX D cA adV A L xs σ i _ hL (fun v τ z => z.1) h
  have hpre : ∀ U : State, U.heap = s.heap → s.WarmedH U.vm → mm_pre D cA σ.1.2.2.2.2.2 adV A L xs (mm_bud σ 1 6) U := fun U hU hW => ⟨by rw [hU]; exact hP, va_K.moved hW.alike hK, hD, mm_env_kept hE hW (by rw [hU]; exact Nat.le_refl _) (fun a _ _ => by rw [hU]), hcst, fun z hz => hAA z (by rw [← hU]; exact hz)⟩
  refine vx_calli (a := ([Value.ref (σ.1.2.2.2.2.2 0), .int i].toArray)) (vx_runV (As := [.int i]) (rest := [.int 0, .ref (σ.1.2.2.2.2.2 65)]) (b := σ.1.2.2.2.2.2 0) (C := RX9) (n := 1) (nL := 4) ⟨hx, hb, hml, hown, hts⟩ hM ⟨mm_cb2 hts wx_co wq_it_9 wx_ml rfl rfl (by decide) (by show _ = some 1; decide +kernel) ⟨by show 8 * (d + 1) + 1 ≤ 8 * (d + 1) + 2; omega, by show 8 + (4 + 11) + 400 * (d + 1) ≤ 400 * (d + 1) + 100; omega⟩, hts _ wx_im, hts _ wx_se⟩ ⟨mm_pre_blind, hrecv, fun U hU hW => ⟨rfl, hpre U hU hW⟩⟩ rfl rfl hl.1 rfl (lv_room (Nat.le_of_ble_eq_true rfl)) dz_ll_4 ⟨by show 0 + 1 ≤ σ.1.2.1; omega, by show 0 + 6 ≤ σ.1.2.2.1; omega⟩) hS (fun q _ h => h) (fun q h => h) (fun q _ h => h) ?_ ?_
  · -- it threw
    intro E ce q9 u t H1 locs1 ht hvm hpx hBX hz hkp hS1 hce hcv hcl
    obtain ⟨rfl, b1, b2, b3, b4⟩ := hBX
    rw [ht] at b1
    obtain ⟨⟨z1, z2, z3⟩, hQ⟩ := hpx
    have hQ : Qm (some (.int 1)) ((u.1.1, σ.1.2.1 - 1, σ.1.2.2.1 - 6, u.1.2.2.2), u.2.1, u.2.2) := hQ
    refine vx_catch (name := "java/util/NoSuchElementException") hown [] { startPc := 0, endPc := 9, handlerPc := 12, catchType := 13 } [] (by rw [htab]; rfl) (fun z hz => by cases hz) (by decide) (by decide) (hts _ wx_clL) hE.2.2.1.2.2.2.2.2.2.2.2.1.use hce hcv hcl ?_
    refine lv_astore_n hx hb dz_ll_12 rfl hl (by decide) rfl (fun ls hl => ?_)
    refine lv_iconst (v := 1) hx hb dz_ll_13 (by decide) ?_
    refine W.widen (k := σ.1.2.1) (n := σ.1.2.2.1) (by omega) (by omega) ?_
    exact W.iret hx hb hr (fun t ht hW => ⟨⟨1, ((u.1.1, σ.1.2.1 - 1, σ.1.2.2.1 - 6, u.1.2.2.2), u.2.1, u.2.2), rfl, ⟨hQ, by show mm_ag _ u.1.2.2.2.2.2; rw [z1]; exact mm_ag.refl⟩, by rw [ht]; exact b1, va_K.moved hW.alike hK, b3, b4⟩, hS1.F ht⟩) hS1.2.2 dz_ll_14 hlocks
  · -- it answered
    intro x u t H1 locs1 ht hvm hpost hB hz hkp hS1
    obtain ⟨⟨⟨z1, z2, z3⟩, hQ⟩, -⟩ := hpost
    have hQ : Qm (some (.int 0)) ((u.1.1, σ.1.2.1 - 1, σ.1.2.2.1 - 6, u.1.2.2.2), u.2.1, mm_upJ u.2.2 65 0 x.toInt64) := hQ
    obtain ⟨b1, b2, b3, b4⟩ := hB
    rw [ht] at b1
    rw [z1] at b1 b3
    refine lv_i2l hx hb dz_ll_7 rfl ?_
    obtain ⟨q1, hq1, hw1⟩ := mm_W_get (ad := σ.1.2.2.2.2.2) (cA := cA) (σ := u) (r := 65) rfl
    have hw1 : (mm_W σ.1.2.2.2.2.2 cA u)[q1]? = some (σ.1.2.2.2.2.2 65, .inl (cA 1, 1, .inr (.inl (u.2.2 65)))) := hw1
    refine va_last hx hb hK b1 b3 hS1 q1 1 hw1 rfl (i := 0) (x := x.toInt64) (mm_inl (by decide)) dz_ll_8 (fun H2 locs2 hP2 hD2 hS2 => ?_)
    have hset := mm_W_set (ad := σ.1.2.2.2.2.2) (cA := cA) (σ := u) (τ := (u.1, u.2.1, mm_upJ u.2.2 65 (Int32.toNatClampNeg 0) x.toInt64)) (e := mm_ar σ.1.2.2.2.2.2 cA (u.1, u.2.1, mm_upJ u.2.2 65 (Int32.toNatClampNeg 0) x.toInt64) 65 21 1 []) rfl b3 hq1 (mm_cell_arr (reg := 0) (n := 1) (rf := []) rfl (by omega)) (fun j hj => mm_cell_upJ hj)
    simp only [mm_ar, mm_upJ_at] at hset
    rw [hset] at hP2 hD2
    refine lv_goto (tgt := 15) hx hb dz_ll_9 rfl ?_
    refine lv_iconst (v := 0) hx hb dz_ll_15 (by decide) ?_
    refine W.widen (k := σ.1.2.1) (n := σ.1.2.2.1) (by omega) (by omega) ?_
    exact W.iret hx hb hr (fun t ht hW => ⟨⟨0, ((u.1.1, σ.1.2.1 - 1, σ.1.2.2.1 - 6, u.1.2.2.2), u.2.1, mm_upJ u.2.2 65 0 x.toInt64), rfl, ⟨hQ, by show mm_ag _ u.1.2.2.2.2.2; rw [z1]; exact mm_ag.refl⟩, by rw [ht]; show va_P _ _ (mm_W u.1.2.2.2.2.2 cA _) _; rw [z1]; exact hP2, va_K.moved hW.alike hK, by show va_D _ (mm_W u.1.2.2.2.2.2 cA _); rw [z1]; exact hD2, b4⟩, hS2.F ht⟩) hS2.2.2 dz_ll_16 hlocks
