/-! the calls outside the program, but those that make something -/
theorem mm_inv_call {C : mmCall} {a b k : Nat} {mode : Int32} {ls : mmL} {st : List Value} {σ : mmS} {kk : List Value → mmS → Prop} (h : mm_inv C a b k mode ls st σ kk) : ∃ x y Qm, C a (st.take b).reverse (mm_bud σ x y) Qm := by
  unfold mm_inv at h
  split at h
  · exact h.elim
  split at h
  · exact ⟨0, 0, _, h⟩
  split at h
  · exact h.elim
  obtain ⟨x, y, -, -, h⟩ := h
  exact ⟨x, y, _, h⟩
theorem mm_ext_a {C : mmCall} {vs : List Value} {τ : mmS} {Q : mmQ} (h : mm_ext C 1000 vs τ Q) : ∃ u, vs = [.int u] := by
  rcases vs with _ | ⟨v, _ | ⟨v2, vs⟩⟩
  · exact h.elim
  · cases v <;> first | exact h.elim | exact ⟨_, rfl⟩
  · cases v <;> exact h.elim
theorem mm_ext_b {C : mmCall} {a : Nat} (ha : a = 1001 ∨ a = 1002) {vs : List Value} {τ : mmS} {Q : mmQ} (h : mm_ext C a vs τ Q) : ∃ u v, vs = [.int u, .int v] := by
  rcases vs with _ | ⟨v, _ | ⟨v2, _ | ⟨v3, vs⟩⟩⟩
  · rcases ha with rfl | rfl <;> exact h.elim
  · rcases ha with rfl | rfl <;> cases v <;> exact h.elim
  · rcases ha with rfl | rfl <;> cases v <;> cases v2 <;> first | exact h.elim | exact ⟨_, _, rfl⟩
  · rcases ha with rfl | rfl <;> cases v <;> cases v2 <;> exact h.elim
theorem mm_ext_c {C : mmCall} {vs : List Value} {τ : mmS} {Q : mmQ} (h : mm_ext C 1003 vs τ Q) : ∃ r sp dp n, vs = [.ref r, .int sp, .ref r, .int dp, .int n] := by
  rcases vs with _ | ⟨v1, _ | ⟨v2, _ | ⟨v3, _ | ⟨v4, _ | ⟨v5, _ | ⟨v6, vs⟩⟩⟩⟩⟩⟩
  · exact h.elim
  · cases v1 <;> exact h.elim
  · cases v1 <;> first | exact h.elim | (cases v2 <;> exact h.elim)
  · cases v1 <;> first | exact h.elim | (cases v2 <;> first | exact h.elim | (cases v3 <;> exact h.elim))
  · cases v1 <;> first | exact h.elim | (cases v2 <;> first | exact h.elim | (cases v3 <;> first | exact h.elim | (cases v4 <;> exact h.elim)))
  · cases v1 <;> first | exact h.elim | (cases v2 <;> first | exact h.elim | (cases v3 <;> first | exact h.elim | (cases v4 <;> first | exact h.elim | (cases v5 <;> first | exact h.elim | skip))))
    rename_i r0 sp r1 dp n
    have h' : (match Nat.beq r1 r0 with
      | false => False
      | true => _) := h
    cases hb : Nat.beq r1 r0 with
    | false => rw [hb] at h'; exact h'.elim
    | true => exact ⟨r0, sp, dp, n, by rw [Nat.eq_of_beq_eq_true hb]⟩
  · cases v1 <;> first | exact h.elim | (cases v2 <;> first | exact h.elim | (cases v3 <;> first | exact h.elim | (cases v4 <;> first | exact h.elim | (cases v5 <;> exact h.elim))))
theorem mm_ext_d {C : mmCall} {vs : List Value} {τ : mmS} {Q : mmQ} (h : mm_ext C 1004 vs τ Q) : ∃ r, vs = [.ref r] := by
  rcases vs with _ | ⟨v, _ | ⟨v2, vs⟩⟩
  · exact h.elim
  · cases v <;> first | exact h.elim | exact ⟨_, rfl⟩
  · cases v <;> exact h.elim
theorem mm_ext_e {C : mmCall} {vs : List Value} {τ : mmS} {Q : mmQ} (h : mm_ext C 1005 vs τ Q) : ∃ r j, vs = [.ref r, .int j] := by
  rcases vs with _ | ⟨v, _ | ⟨v2, _ | ⟨v3, vs⟩⟩⟩
  · exact h.elim
  · cases v <;> exact h.elim
  · cases v <;> first | exact h.elim | (cases v2 <;> first | exact h.elim | exact ⟨_, _, rfl⟩)
  · cases v <;> first | exact h.elim | (cases v2 <;> exact h.elim)
theorem mm_strs : ∀ r, r < 115 → (mm_T[r]?.map fun q => decide (q.2.1 = 40 → 98 ≤ r ∧ q.2.2.1 = mm_sl.getD (r - 98) 0)) = some true := by decide +kernel
theorem mm_str {r reg n : Nat} {rf : List Nat} (h : mm_T[r]? = some (reg, 40, n, rf)) : ∃ i, i < 17 ∧ r = 98 + i ∧ n = mm_sl.getD i 0 ∧ r - 98 = i := by
  have hr := (List.getElem?_eq_some_iff.mp h).1
  rw [mm_T_len] at hr
  have h2 := mm_strs r hr
  rw [h] at h2
  simp at h2
  exact ⟨r - 98, by omega, by omega, h2.2, rfl⟩
/-- what is asked of the calls that make something -/
def mm_XH2 (l : Launch) (d : Nat) : Prop := ∀ (p : Program) (e : Env) (s : State) (m : MethodId) (args : Array Value) (below : List Frame) (meth : Method) (c : Code) (own : Nat) (cc : ByteArray) (D : va_G) (cA : Nat → ClassId) (ad0 adV : Nat → Nat) (A : Nat → Prop) (L : Nat) (xs : Nat → Int32) (mc ms : Nat) (Q : State → Prop) (ret : Option FieldType),
    (∀ ad, mm_ag ad0 ad → mm_c p s m args c own cc D cA ad adV A L xs) → (∀ z, s.heap.size ≤ z → A z) → ∀ (ad : Nat → Nat), mm_ag ad0 ad → ∀ (pc : Nat) (q : mmE) (ls : mmL) (st : List Value) (σ : mmS) (kk : List Value → mmS → Prop), decode cc pc = .ok (q.1, 3) → mm_ck2 own ret q = true → mm_isI q.1 → (q.2.2.1 = 1010 ∨ q.2.2.1 = 1011 ∨ q.2.2.1 = 1012 ∨ q.2.2.1 = 1013) →
    mm_inv (mm_wc (d + 1)) q.2.2.1 q.2.2.2.1 q.2.2.2.2.1 q.2.2.2.2.2.1 ls st σ kk → (∀ ad', mm_ag ad0 ad' → ∀ s' τ, kk s' τ → mm_g p l e (mm_rm (d + 1) mc ms) s m args below meth c D cA ad' A L xs mc ms Q (pc + 3) ls s' τ) → mm_g p l e (mm_rm (d + 1) mc ms) s m args below meth c D cA ad A L xs mc ms Q pc ls st σ
theorem mm_xh {l : Launch} {d : Nat} (h2 : mm_XH2 l d) : mm_XH l d := by
  intro p e s m args below meth c own cc D cA ad0 adV A L xs mc ms Q ret X hAA ad ha pc q ls st σ kk hd hck hI hm h kn
  obtain ⟨x, hx, hl, hb, hk⟩ := mm_ck2_link hck hI
  have hX := X ad ha
  obtain ⟨x0, y0, Q0, h0⟩ := mm_inv_call h
  have h0 := mm_wcx hm h0
  by_cases e2 : q.2.2.1 = 1010 ∨ q.2.2.1 = 1011 ∨ q.2.2.1 = 1012 ∨ q.2.2.1 = 1013
  · exact h2 p e s m args below meth c own cc D cA ad0 adV A L xs mc ms Q ret X hAA ad ha pc q ls st σ kk hd hck hI e2 h kn
  obtain ⟨i, n, a, b, k, v, w⟩ := q
  dsimp only at hd hm h hx hl hb hk h0 e2
  by_cases e0 : a = 1000
  · subst e0
    obtain ⟨u, hu⟩ := mm_ext_a h0
    rcases hx with ⟨-, hs⟩ | ⟨hi, -⟩
    · cases hs
    subst hi
    obtain ⟨hcat, y, z, hy, hz, hkk⟩ := mm_inst (v := some (.int (if 0 ≤ u then u else 0 - u))) (I' := σ.2.1) (J' := σ.2.2) h (fun x y Qm hq => by have hq := mm_wcx hm hq; rw [hu] at hq; exact hq)
    rw [mm_rev1 hu]
    exact mm_s_abs (v := 0) hX hd hl hcat hy hz (kn ad ha _ _ hkk)
  by_cases e0 : a = 1001
  · subst e0
    obtain ⟨u, v', hu⟩ := mm_ext_b (Or.inl rfl) h0
    rcases hx with ⟨-, hs⟩ | ⟨hi, -⟩
    · cases hs
    subst hi
    obtain ⟨hcat, y, z, hy, hz, hkk⟩ := mm_inst (v := some (.int (if u < v' then v' else u))) (I' := σ.2.1) (J' := σ.2.2) h (fun x y Qm hq => by have hq := mm_wcx hm hq; rw [hu] at hq; exact hq)
    rw [mm_rev2 hu]
    exact mm_s_max hX hd hl hcat hy hz (kn ad ha _ _ hkk)
  by_cases e0 : a = 1002
  · subst e0
    obtain ⟨u, v', hu⟩ := mm_ext_b (Or.inr rfl) h0
    rcases hx with ⟨-, hs⟩ | ⟨hi, -⟩
    · cases hs
    subst hi
    obtain ⟨hcat, y, z, hy, hz, hkk⟩ := mm_inst (v := some (.int (if v' < u then v' else u))) (I' := σ.2.1) (J' := σ.2.2) h (fun x y Qm hq => by have hq := mm_wcx hm hq; rw [hu] at hq; exact hq)
    rw [mm_rev2 hu]
    exact mm_s_min hX hd hl hcat hy hz (kn ad ha _ _ hkk)
  by_cases e0 : a = 1003
  · subst e0
    obtain ⟨r, sp, dp, nn, hu⟩ := mm_ext_c h0
    rcases hx with ⟨-, hs⟩ | ⟨hi, -⟩
    · cases hs
    subst hi
    have key : ∀ (x y : Nat) (Qm : mmQ), mm_wc (d + 1) 1003 (st.take b).reverse (mm_bud σ x y) Qm → mm_at σ.1 r fun kd k _ => match kd with
      | 20 => ¬ sp < 0 ∧ ¬ dp < 0 ∧ ¬ nn < 0 ∧ sp.toNatClampNeg + nn.toNatClampNeg ≤ k ∧ dp.toNatClampNeg + nn.toNatClampNeg ≤ k ∧ Qm none ((mm_bud σ x y).1, mm_row σ.2.1 r (va_cpy (σ.2.1 r) (σ.2.1 r) sp.toNatClampNeg dp.toNatClampNeg nn.toNatClampNeg), σ.2.2)
      | _ => False := by
      intro x y Qm hq
      have hq := mm_wcx hm hq
      rw [hu] at hq
      have hq' : (match Nat.beq r r with
        | false => False
        | true => mm_at (mm_bud σ x y).1 r fun kd k _ => match kd with
          | 20 => ¬ sp < 0 ∧ ¬ dp < 0 ∧ ¬ nn < 0 ∧ sp.toNatClampNeg + nn.toNatClampNeg ≤ k ∧ dp.toNatClampNeg + nn.toNatClampNeg ≤ k ∧ Qm none ((mm_bud σ x y).1, mm_row σ.2.1 r (va_cpy (σ.2.1 r) (σ.2.1 r) sp.toNatClampNeg dp.toNatClampNeg nn.toNatClampNeg), σ.2.2)
          | _ => False) := hq
      rw [Nat.beq_refl] at hq'
      exact hq'
    have pick : ∀ {k : Nat → Nat → List Nat → Prop}, mm_at σ.1 r k → ∃ reg kd n rf, mm_T[r]? = some (reg, kd, n, rf) ∧ mm_lv σ.1 reg = true ∧ k kd n rf := fun h => mm_at_in h
    obtain ⟨x1, y1, Q1, h1⟩ := mm_inv_call h
    obtain ⟨reg, kd, n0, rf, ht, hv, hh⟩ := pick (key x1 y1 Q1 h1)
    have hkd : kd = 20 := by
      revert hh; split
      · exact fun _ => rfl
      · exact fun z => z.elim
    subst hkd
    obtain ⟨k1, k2, k3, k4, k5, -⟩ := hh
    obtain ⟨hcat, y, z, hy, hz, hkk⟩ := mm_inst (v := none) (I' := mm_row σ.2.1 r (va_cpy (σ.2.1 r) (σ.2.1 r) sp.toNatClampNeg dp.toNatClampNeg nn.toNatClampNeg)) (J' := σ.2.2) h (fun x y Qm hq => by
      obtain ⟨reg2, kd2, n2, rf2, ht2, -, hh2⟩ := pick (key x y Qm hq)
      rw [ht] at ht2
      cases ht2
      exact hh2.2.2.2.2.2)
    rw [mm_rev5 hu]
    exact mm_s_copy hX hd hl hcat hy hz ht hv k1 k2 k3 k4 k5 (kn ad ha _ _ hkk)
  by_cases e0 : a = 1004
  · subst e0
    obtain ⟨r, hu⟩ := mm_ext_d h0
    have hi : i = .invokevirtual x := by
      rcases hx with ⟨hi, -⟩ | ⟨-, hs⟩
      · exact hi
      · cases hs
    subst hi
    have hb1 : b = 1 := hb.symm
    have hk1 : k = 1 := hk.symm
    subst hb1; subst hk1
    rw [hu] at h0
    cases hT : mm_T[r]? with
    | none =>
      have : (match mm_T[r]? with
        | some (_, 40, n, _) => Q0 (some (.int (nI n))) (mm_bud σ x0 y0)
        | _ => False) := h0
      rw [hT] at this; exact this.elim
    | some zz =>
      obtain ⟨reg, kd, nn, rf⟩ := zz
      have hkd : kd = 40 := by
        have : (match mm_T[r]? with
          | some (_, 40, n, _) => Q0 (some (.int (nI n))) (mm_bud σ x0 y0)
          | _ => False) := h0
        rw [hT] at this
        revert this; split
        · rename_i hq; intro _; cases hq; rfl
        · exact fun z => z.elim
      subst hkd
      obtain ⟨j, hj, hrj, hnj, hr98⟩ := mm_str hT
      intro lsA H locs cells slots g1 g2 g3 g4 g5 g6 g7 g8 g9
      refine mm_inv_sound hX.2.2.2.2.1 ha (by omega) h ?_ kn lsA H locs cells slots g1 g2 g3 g4 g5 g6 g7 g8 g9
      intro x y Qm hcat hC
      have hC := mm_wcx hm hC
      rw [hu] at hC
      have hC' : (match mm_T[r]? with
        | some (_, 40, n, _) => Qm (some (.int (nI n))) (mm_bud σ x y)
        | _ => False) := hC
      rw [hT] at hC'
      have hQ : Qm (some (.int (nI (mm_sl.getD j 0)))) (mm_bud σ x y) := by rw [← hnj]; exact hC'
      intro lsA H locs cells slots f2 f3 f4 f5 hc1 hc2 f9
      have hpre := mm_pre_of hX hAA f2 f3 f4 f5 x y
      obtain ⟨hx, hb, hown, hts, hK, hE, hL⟩ := hX
      have hM := st_le l D cA adV A L xs (mm_bud σ x y) Qm j hj hQ
      have e8 : (mm_bud σ x y).1.2.2.2.2.2 = ad := g8
      rw [e8] at hM
      refine ⟨_, va_runV (As := []) (rest := (st.drop 1).map (mm_tr ad)) (b := ad (98 + j)) (C := "java/lang/String") (n := 0) (nL := c.maxLocals) ⟨hx, hb, rfl, hown, hts⟩ hM ⟨mm_cb2 hts wz_le wn_S hl rfl rfl (by decide) (by decide +kernel) ⟨by show 3 + 1 ≤ 8 * (d + 1); omega, by show 8 + (1 + 11) + 200 ≤ 400 * (d + 1); omega⟩, hts _ wi_le, hts _ wl_le⟩ ⟨mm_pre_blind, vk_recv (adK := fun i => ad (98 + i)) hE.2.2.1.1 hj f4, fun U hU hW => ⟨rfl, hpre U hU hW⟩⟩ rfl rfl f9 ?_ (lv_room (mm_cat_drop hcat)) hd ⟨hc1, hc2⟩⟩
      rw [mm_rev1 hu, hrj]
      rfl
  by_cases e0 : a = 1005
  · subst e0
    obtain ⟨r, jj, hu⟩ := mm_ext_e h0
    have hi : i = .invokevirtual x := by
      rcases hx with ⟨hi, -⟩ | ⟨-, hs⟩
      · exact hi
      · cases hs
    subst hi
    have hb1 : b = 2 := hb.symm
    have hk1 : k = 1 := hk.symm
    subst hb1; subst hk1
    rw [hu] at h0
    cases hT : mm_T[r]? with
    | none =>
      have : (match mm_T[r]? with
        | some (_, 40, n, _) => vp_in jj n ∧ Q0 (some (.int ((mm_sb.getD (r - 98) []).getD jj.toNatClampNeg 0))) (mm_bud σ x0 y0)
        | _ => False) := h0
      rw [hT] at this; exact this.elim
    | some zz =>
      obtain ⟨reg, kd, nn, rf⟩ := zz
      have hkd : kd = 40 := by
        have : (match mm_T[r]? with
          | some (_, 40, n, _) => vp_in jj n ∧ Q0 (some (.int ((mm_sb.getD (r - 98) []).getD jj.toNatClampNeg 0))) (mm_bud σ x0 y0)
          | _ => False) := h0
        rw [hT] at this
        revert this; split
        · rename_i hq; intro _; cases hq; rfl
        · exact fun z => z.elim
      subst hkd
      obtain ⟨j, hj, hrj, hnj, hr98⟩ := mm_str hT
      intro lsA H locs cells slots g1 g2 g3 g4 g5 g6 g7 g8 g9
      refine mm_inv_sound hX.2.2.2.2.1 ha (by omega) h ?_ kn lsA H locs cells slots g1 g2 g3 g4 g5 g6 g7 g8 g9
      intro x y Qm hcat hC
      have hC := mm_wcx hm hC
      rw [hu] at hC
      have hC' : (match mm_T[r]? with
        | some (_, 40, n, _) => vp_in jj n ∧ Qm (some (.int ((mm_sb.getD (r - 98) []).getD jj.toNatClampNeg 0))) (mm_bud σ x y)
        | _ => False) := hC
      rw [hT] at hC'
      have hin : vp_in jj (mm_sl.getD j 0) := by rw [← hnj]; exact hC'.1
      have hQ : Qm (some (.int ((mm_sb.getD j []).getD jj.toNatClampNeg 0))) (mm_bud σ x y) := by rw [← hr98]; exact hC'.2
      intro lsA H locs cells slots f2 f3 f4 f5 hc1 hc2 f9
      have hpre := mm_pre_of hX hAA f2 f3 f4 f5 x y
      obtain ⟨hx, hb, hown, hts, hK, hE, hL⟩ := hX
      have hM := st_ch l D cA adV A L xs (mm_bud σ x y) Qm j hj jj hin hQ
      have e8 : (mm_bud σ x y).1.2.2.2.2.2 = ad := g8
      rw [e8] at hM
      refine ⟨_, va_runV (As := [.int jj]) (rest := (st.drop 2).map (mm_tr ad)) (b := ad (98 + j)) (C := "java/lang/String") (n := 1) (nL := c.maxLocals) ⟨hx, hb, rfl, hown, hts⟩ hM ⟨mm_cb2 hts wz_ch wn_S hl rfl rfl (by decide) (by decide +kernel) ⟨by show 3 + 1 ≤ 8 * (d + 1); omega, by show 8 + (2 + 11) + 200 ≤ 400 * (d + 1); omega⟩, hts _ wi_ch, hts _ wl_ch⟩ ⟨mm_pre_blind, vk_recv (adK := fun i => ad (98 + i)) hE.2.2.1.1 hj f4, fun U hU hW => ⟨rfl, hpre U hU hW⟩⟩ rfl rfl f9 ?_ (lv_room (mm_cat_drop hcat)) hd ⟨hc1, hc2⟩⟩
      rw [mm_rev2 hu, hrj]
      rfl
  · exfalso
    revert h0
    unfold mm_ext
    split <;> first | (intro _; omega) | exact id
