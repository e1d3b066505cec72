/-! what lies outside the program: the lazily made parts, the law's led -/
/- needs: 0 1 20 21 22 23 24 25 26 27 28 29 30 -/
theorem wz_co0 : Cond.code yX9_searching cX9_searching 1 (some (.object "ThreeBreaths$Search")) ∈ mm_ws := mm_tw (mm_t4 (List.mem_of_getElem? (i := 56) rfl)) rfl
theorem wz_im0 : Cond.instanceMethod yX9_searching ∈ mm_ws := mm_ws_of (i := 908) (by decide +kernel) rfl
theorem wz_se0 : Cond.selects RX9 yX9_searching yX9_searching ∈ mm_ws := mm_ws_of (i := 36) (by decide +kernel) rfl
theorem mm_ext_z0 {C : mmCall} {vs : List Value} {τ : mmS} {Q : mmQ} (h : mm_ext C 1010 vs τ Q) : vs = [.ref 0] := by
  rcases vs with _ | ⟨v, _ | ⟨v2, vs⟩⟩
  · exact h.elim
  · cases v with
    | ref r => cases r with
      | zero => rfl
      | succ r => exact h.elim
    | _ => exact h.elim
  · cases v with
    | ref r => cases r <;> exact h.elim
    | _ => exact h.elim
theorem wz_co1 : Cond.code yX9_reckoning cX9_reckoning 1 (some (.object "ThreeBreaths$Odds")) ∈ mm_ws := mm_tw (mm_t5 (List.mem_of_getElem? (i := 63) rfl)) rfl
theorem wz_im1 : Cond.instanceMethod yX9_reckoning ∈ mm_ws := mm_ws_of (i := 1155) (by decide +kernel) rfl
theorem wz_se1 : Cond.selects RX9 yX9_reckoning yX9_reckoning ∈ mm_ws := mm_ws_of (i := 54) (by decide +kernel) rfl
theorem mm_ext_z1 {C : mmCall} {vs : List Value} {τ : mmS} {Q : mmQ} (h : mm_ext C 1011 vs τ Q) : vs = [.ref 0] := by
  rcases vs with _ | ⟨v, _ | ⟨v2, vs⟩⟩
  · exact h.elim
  · cases v with
    | ref r => cases r with
      | zero => rfl
      | succ r => exact h.elim
    | _ => exact h.elim
  · cases v with
    | ref r => cases r <;> exact h.elim
    | _ => exact h.elim
theorem wz_co2 : Cond.code yX9_tracing cX9_tracing 1 (some (.object "ThreeBreaths$Traces")) ∈ mm_ws := mm_tw (mm_t5 (List.mem_of_getElem? (i := 199) rfl)) rfl
theorem wz_im2 : Cond.instanceMethod yX9_tracing ∈ mm_ws := mm_ws_of (i := 1291) (by decide +kernel) rfl
theorem wz_se2 : Cond.selects RX9 yX9_tracing yX9_tracing ∈ mm_ws := mm_ws_of (i := 66) (by decide +kernel) rfl
theorem mm_ext_z2 {C : mmCall} {vs : List Value} {τ : mmS} {Q : mmQ} (h : mm_ext C 1012 vs τ Q) : vs = [.ref 0] := by
  rcases vs with _ | ⟨v, _ | ⟨v2, vs⟩⟩
  · exact h.elim
  · cases v with
    | ref r => cases r with
      | zero => rfl
      | succ r => exact h.elim
    | _ => exact h.elim
  · cases v with
    | ref r => cases r <;> exact h.elim
    | _ => exact h.elim
theorem mm_ext_l {C : mmCall} {vs : List Value} {τ : mmS} {Q : mmQ} (h : mm_ext C 1013 vs τ Q) : ∃ i, vs = [.ref 0, .int i, .ref 65] ∧ mm_led C i τ Q := by
  unfold mm_ext at h
  split at h <;> first | omega | exact ⟨_, rfl, h⟩ | exact h.elim
theorem mm_led_len (sig : MethodDescriptor) (h : parseMethodDescriptor yL_led.desc = some sig) : 3 = sig.parameters.length := by
  have h2 : (parseMethodDescriptor yL_led.desc).map (fun d => d.parameters.length) = some 3 := by decide +kernel
  rw [h] at h2
  exact (Option.some.inj h2).symm
theorem mm_inv_l {d : Nat} {i : Int32} {σ : mmS} {Q : mmQ} (h : mm_led (mm_wc d) i σ Q) : ∃ d', d = d' + 1 := by
  cases d with
  | zero => exact (show False from h.1).elim
  | succ d => exact ⟨d, rfl⟩
theorem mm_rev3 {st : List Value} {b : Nat} {u v w : Value} (h : (st.take b).reverse = [u, v, w]) : st = w :: v :: u :: st.drop b := by
  have := congrArg List.reverse h
  rw [List.reverse_reverse] at this
  have e := (List.take_append_drop b st).symm
  rw [this] at e
  exact e
theorem mm_xh2 {l : Launch} (hst : l.stackTraces = false) (d : Nat) (ih : ∀ d', d' < d → mm_XH l d') : mm_XH2 l d := by
  intro p e s m args below meth c own cc D cA ad0 adV A L xs mc ms Q ret X hAA ad ha pc q ls st σ kk hd hck hI hm4 h kn
  obtain ⟨x, hx, hl, hb, hk⟩ := mm_ck2_link hck hI
  have hX := X ad ha
  obtain ⟨i, n, a, b, k, v, w⟩ := q
  dsimp only at hd hm4 h hx hl hb hk
  rcases hm4 with rfl | rfl | rfl | rfl
  · have hi : i = .invokevirtual x := by
      rcases hx with ⟨hi, -⟩ | ⟨-, hs⟩
      · exact hi
      · cases hs
    subst hi
    have hb1 : b = 1 := hb.symm
    have hk1 : k = 3 := hk.symm
    subst hb1; subst hk1
    intro lsA H locs cells slots g1 g2 g3 g4 g5 g6 g7 g8 g9
    refine mm_inv_sound hX.2.2.2.2.1 ha (by omega) h ?_ kn lsA H locs cells slots g1 g2 g3 g4 g5 g6 g7 g8 g9
    intro x9 y9 Qm hcat hC
    have hC := mm_wcx (a := 1010) (by decide +kernel) hC
    have hu := mm_ext_z0 hC
    rw [hu] at hC
    have hC : mm_lz 0 70 11 53657 70 81 (mm_bud σ x9 y9) Qm := hC
    intro lsA H locs cells slots f2 f3 f4 f5 hc1 hc2 f9
    have hpre := mm_pre_of hX hAA f2 f3 f4 f5 x9 y9
    obtain ⟨hx, hb, hown, hts, hK, hE, hL⟩ := hX
    have hM := c_lz_0 l D.1 D.2 cA adV A L xs (mm_bud σ x9 y9) Qm hC
    have e8 : (mm_bud σ x9 y9).1.2.2.2.2.2 = ad := g8
    rw [e8] at hM
    obtain ⟨q0, hq0, hw0⟩ := mm_W_get (ad := ad) (cA := cA) (σ := σ) (r := 0) rfl
    have hw0 : (mm_W ad cA σ)[q0]? = some (ad 0, .inr (9, mm_fs ad σ 0 9 [1, 0, 6, 15, 70, 81, 96, 0, 0, 0])) := hw0
    have hrecv := va_recv hK f2 rfl hw0
    refine ⟨_, va_runV (As := []) (rest := (st.drop 1).map (mm_tr ad)) (b := ad 0) (C := RX9) (n := 0) (nL := c.maxLocals) ⟨hx, hb, rfl, hown, hts⟩ hM ⟨mm_cb2 hts wz_co0 wq_it_9 hl rfl rfl (by decide) (by show _ = some 0; decide +kernel) ⟨by show 6 + 1 ≤ 8 * (d + 1); omega, by show 8 + (1 + 11) + 300 ≤ 400 * (d + 1); omega⟩, hts _ wz_im0, hts _ wz_se0⟩ ⟨mm_pre_blind, hrecv, fun U hU hW => ⟨rfl, hpre U hU hW⟩⟩ rfl rfl f9 ?_ (lv_room (mm_cat_drop hcat)) hd ⟨hc1, hc2⟩⟩
    rw [mm_rev1 hu]
    rfl
  · have hi : i = .invokevirtual x := by
      rcases hx with ⟨hi, -⟩ | ⟨-, hs⟩
      · exact hi
      · cases hs
    subst hi
    have hb1 : b = 1 := hb.symm
    have hk1 : k = 3 := hk.symm
    subst hb1; subst hk1
    intro lsA H locs cells slots g1 g2 g3 g4 g5 g6 g7 g8 g9
    refine mm_inv_sound hX.2.2.2.2.1 ha (by omega) h ?_ kn lsA H locs cells slots g1 g2 g3 g4 g5 g6 g7 g8 g9
    intro x9 y9 Qm hcat hC
    have hC := mm_wcx (a := 1011) (by decide +kernel) hC
    have hu := mm_ext_z1 hC
    rw [hu] at hC
    have hC : mm_lz 1 81 15 35028 81 96 (mm_bud σ x9 y9) Qm := hC
    intro lsA H locs cells slots f2 f3 f4 f5 hc1 hc2 f9
    have hpre := mm_pre_of hX hAA f2 f3 f4 f5 x9 y9
    obtain ⟨hx, hb, hown, hts, hK, hE, hL⟩ := hX
    have hM := c_lz_1 l D.1 D.2 cA adV A L xs (mm_bud σ x9 y9) Qm hC
    have e8 : (mm_bud σ x9 y9).1.2.2.2.2.2 = ad := g8
    rw [e8] at hM
    obtain ⟨q0, hq0, hw0⟩ := mm_W_get (ad := ad) (cA := cA) (σ := σ) (r := 0) rfl
    have hw0 : (mm_W ad cA σ)[q0]? = some (ad 0, .inr (9, mm_fs ad σ 0 9 [1, 0, 6, 15, 70, 81, 96, 0, 0, 0])) := hw0
    have hrecv := va_recv hK f2 rfl hw0
    refine ⟨_, va_runV (As := []) (rest := (st.drop 1).map (mm_tr ad)) (b := ad 0) (C := RX9) (n := 0) (nL := c.maxLocals) ⟨hx, hb, rfl, hown, hts⟩ hM ⟨mm_cb2 hts wz_co1 wq_it_9 hl rfl rfl (by decide) (by show _ = some 0; decide +kernel) ⟨by show 6 + 1 ≤ 8 * (d + 1); omega, by show 8 + (1 + 11) + 300 ≤ 400 * (d + 1); omega⟩, hts _ wz_im1, hts _ wz_se1⟩ ⟨mm_pre_blind, hrecv, fun U hU hW => ⟨rfl, hpre U hU hW⟩⟩ rfl rfl f9 ?_ (lv_room (mm_cat_drop hcat)) hd ⟨hc1, hc2⟩⟩
    rw [mm_rev1 hu]
    rfl
  · have hi : i = .invokevirtual x := by
      rcases hx with ⟨hi, -⟩ | ⟨-, hs⟩
      · exact hi
      · cases hs
    subst hi
    have hb1 : b = 1 := hb.symm
    have hk1 : k = 3 := hk.symm
    subst hb1; subst hk1
    intro lsA H locs cells slots g1 g2 g3 g4 g5 g6 g7 g8 g9
    refine mm_inv_sound hX.2.2.2.2.1 ha (by omega) h ?_ kn lsA H locs cells slots g1 g2 g3 g4 g5 g6 g7 g8 g9
    intro x9 y9 Qm hcat hC
    have hC := mm_wcx (a := 1012) (by decide +kernel) hC
    have hu := mm_ext_z2 hC
    rw [hu] at hC
    have hC : mm_lz 2 96 2 322 96 98 (mm_bud σ x9 y9) Qm := hC
    intro lsA H locs cells slots f2 f3 f4 f5 hc1 hc2 f9
    have hpre := mm_pre_of hX hAA f2 f3 f4 f5 x9 y9
    obtain ⟨hx, hb, hown, hts, hK, hE, hL⟩ := hX
    have hM := c_lz_2 l D.1 D.2 cA adV A L xs (mm_bud σ x9 y9) Qm hC
    have e8 : (mm_bud σ x9 y9).1.2.2.2.2.2 = ad := g8
    rw [e8] at hM
    obtain ⟨q0, hq0, hw0⟩ := mm_W_get (ad := ad) (cA := cA) (σ := σ) (r := 0) rfl
    have hw0 : (mm_W ad cA σ)[q0]? = some (ad 0, .inr (9, mm_fs ad σ 0 9 [1, 0, 6, 15, 70, 81, 96, 0, 0, 0])) := hw0
    have hrecv := va_recv hK f2 rfl hw0
    refine ⟨_, va_runV (As := []) (rest := (st.drop 1).map (mm_tr ad)) (b := ad 0) (C := RX9) (n := 0) (nL := c.maxLocals) ⟨hx, hb, rfl, hown, hts⟩ hM ⟨mm_cb2 hts wz_co2 wq_it_9 hl rfl rfl (by decide) (by show _ = some 0; decide +kernel) ⟨by show 6 + 1 ≤ 8 * (d + 1); omega, by show 8 + (1 + 11) + 300 ≤ 400 * (d + 1); omega⟩, hts _ wz_im2, hts _ wz_se2⟩ ⟨mm_pre_blind, hrecv, fun U hU hW => ⟨rfl, hpre U hU hW⟩⟩ rfl rfl f9 ?_ (lv_room (mm_cat_drop hcat)) hd ⟨hc1, hc2⟩⟩
    rw [mm_rev1 hu]
    rfl
  · have hi : i = .invokestatic x := by
      rcases hx with ⟨-, hs⟩ | ⟨hi, -⟩
      · cases hs
      · exact hi
    subst hi
    have hb1 : b = 3 := hb.symm
    have hk1 : k = 1 := hk.symm
    subst hb1; subst hk1
    intro lsA H locs cells slots g1 g2 g3 g4 g5 g6 g7 g8 g9
    refine mm_inv_sound hX.2.2.2.2.1 ha (by omega) h ?_ kn lsA H locs cells slots g1 g2 g3 g4 g5 g6 g7 g8 g9
    intro x9 y9 Qm hcat hC
    have hC := mm_wcx (a := 1013) (by decide +kernel) hC
    obtain ⟨i9, hu, hC⟩ := mm_ext_l hC
    obtain ⟨d', rfl⟩ := mm_inv_l hC
    intro lsA H locs cells slots f2 f3 f4 f5 hc1 hc2 f9
    have hpre := mm_pre_of hX hAA f2 f3 f4 f5 x9 y9
    obtain ⟨hx, hb, hown, hts, hK, hE, hL⟩ := hX
    have hM := mm_lled hst d' ih D cA adV A L xs (mm_bud σ x9 y9) i9 Qm hL hC
    have e8 : (mm_bud σ x9 y9).1.2.2.2.2.2 = ad := g8
    rw [e8] at hM
    have hcs : vx_CSW (mm_rm (d' + 1 + 1) mc ms) s args (mm_nm own) x yL_led cL_led 4 (some .int) [(0, 9, 12, 13)] (Cond.codeWith yL_led cL_led 4 (some .int) [(0, 9, 12, 13)] :: mm_ws) ({ frames := 8 * (d' + 1) + 2, cells := x9, slots := y9, locals := 400 * (d' + 1) + 100 }) x9 y9 3 :=
      ⟨⟨rfl, rfl, by show 8 * (d' + 1) + 2 + 1 ≤ 8 * (d' + 1 + 1); omega, by show 8 + (4 + 11) + (400 * (d' + 1) + 100) ≤ 400 * (d' + 1 + 1); omega, pay_in hts (mm_ws_good (fun _ h => h) wx_cw), List.mem_cons_self⟩, hts _ wx_cw, hts _ wx_iL, by decide, mm_led_len, hts _ hl, hts _ wx_st⟩
    refine ⟨_, vx_runSW (As := [.ref (ad 0), .int i9, .ref (ad 65)]) (rest := (st.drop 3).map (mm_tr ad)) (n := 3) (nL := c.maxLocals) ⟨hx, hb, rfl, hown, hts⟩ hM hcs ⟨mm_pre_blind, fun U hU hW => ⟨rfl, hpre U hU hW⟩⟩ rfl rfl f9 ?_ (lv_room (mm_cat_drop hcat)) hd ⟨hc1, hc2⟩⟩
    rw [mm_rev3 hu]
    rfl
theorem mm_xha {l : Launch} (hst : l.stackTraces = false) : ∀ d, mm_XH l d := by
  have key : ∀ n d, d < n → mm_XH l d := by
    intro n
    induction n with
    | zero => exact fun d h => absurd h (by omega)
    | succ n ih => exact fun d h => mm_xh (mm_xh2 hst d (fun d' h' => ih d' (by omega)))
  exact fun d => key (d + 1) d (Nat.lt_succ_self d)
