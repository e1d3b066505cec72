/-! what lies outside the program and ends at once: Math, System.arraycopy -/
theorem wm_cabs : Cond.code Lib.Math.abs.name Lib.Math.abs.code 1 (some .int) ∈ mm_ws := mm_tw (mm_t3 (List.mem_of_getElem? (i := 80) rfl)) rfl
theorem wm_sabs : Cond.static Lib.Math.abs.name ∈ mm_ws := mm_tw (mm_t3 (List.mem_of_getElem? (i := 79) rfl)) rfl
theorem wm_cmax : Cond.code Lib.Math.max.name Lib.Math.max.code 2 (some .int) ∈ mm_ws := mm_tw (mm_t5 (List.mem_of_getElem? (i := 149) rfl)) rfl
theorem wm_smax : Cond.static Lib.Math.max.name ∈ mm_ws := mm_tw (mm_t5 (List.mem_of_getElem? (i := 148) rfl)) rfl
theorem wm_cmin : Cond.code Lib.Math.min.name Lib.Math.min.code 2 (some .int) ∈ mm_ws := mm_tw (mm_t2 (List.mem_of_getElem? (i := 116) rfl)) rfl
theorem wm_smin : Cond.static Lib.Math.min.name ∈ mm_ws := mm_tw (mm_t2 (List.mem_of_getElem? (i := 115) rfl)) rfl
theorem wm_i : Cond.initialized "java/lang/Math" ∈ mm_ws := mm_tw (mm_t1 (List.mem_of_getElem? (i := 8) rfl)) rfl
theorem wa_n : Cond.native arraycopyName ∈ mm_ws := mm_tw (mm_t4 (List.mem_of_getElem? (i := 13) rfl)) rfl
theorem wa_s : Cond.static arraycopyName ∈ mm_ws := mm_tw (mm_t4 (List.mem_of_getElem? (i := 12) rfl)) rfl
theorem wa_i : Cond.initialized "java/lang/System" ∈ mm_ws := mm_tw (mm_t1 (List.mem_of_getElem? (i := 15) rfl)) rfl
theorem mm_wcx {d a : Nat} {vs : List Value} {σ : mmS} {Q : mmQ} (hm : mm_P[a]? = none) (h : mm_wc (d + 1) a vs σ Q) : mm_ext (mm_wc d) a vs σ Q := by
  have h' : (match mm_P[a]? with
      | some m => mm_rcv m vs σ = true ∧ mm_w Q (mm_wc d) m.2.2.2.2.2.2.2 0 (mm_loc m.2.2.1 vs) [] σ
      | none => mm_ext (mm_wc d) a vs σ Q) := h
  rw [hm] at h'
  exact h'
/-- a call that ends at once: v is its answer, I' and J' the memory behind it -/
theorem mm_inst {C : mmCall} {a b k : Nat} {mode : Int32} {ls : mmL} {st : List Value} {σ : mmS} {kk : List Value → mmS → Prop} {v : Option Value} {I' : mmI} {J' : mmJ} (h : mm_inv C a b k mode ls st σ kk)
    (hE : ∀ (x y : Nat) (Qm : mmQ), C a (st.take b).reverse (mm_bud σ x y) Qm → Qm v ((mm_bud σ x y).1, I', J')) : mm_cat (st.drop b) ≤ 8 ∧ ∃ x y, x ≤ σ.1.2.1 ∧ y ≤ σ.1.2.2.1 ∧ kk (v.toList ++ st.drop b) ((mm_bud σ (σ.1.2.1 - x) (σ.1.2.2.1 - y)).1, I', J') := by
  unfold mm_inv at h
  split at h
  · exact h.elim
  rename_i hcat
  refine ⟨Nat.le_of_ble_eq_true hcat, ?_⟩
  have ret : ∀ (kk2 : List Value → mmS → Prop) (v : Option Value) (τ : mmS), mm_ret k (st.drop b) kk2 v τ → kk2 (v.toList ++ st.drop b) τ := by
    intro kk2 v τ hv
    unfold mm_ret at hv
    split at hv
    · rw [hv.1]; exact hv.2
    · obtain ⟨r, e1, e2⟩ := hv; rw [e1]; exact e2
    · obtain ⟨r, e1, e2⟩ := hv; rw [e1]; exact e2
    · obtain ⟨r, e1, e2⟩ := hv; rw [e1]; exact e2
    · exact hv.elim
  split at h
  · exact ⟨0, 0, Nat.zero_le _, Nat.zero_le _, (ret _ _ _ (hE 0 0 _ h)).2⟩
  · split at h
    · exact h.elim
    obtain ⟨x, y, hx, hy, h⟩ := h
    exact ⟨x, y, hx, hy, ret _ _ _ (hE x y _ h)⟩
theorem mm_rev1 {st : List Value} {b : Nat} {u : Value} (h : (st.take b).reverse = [u]) : st = u :: st.drop b := by
  have := congrArg List.reverse h
  rw [List.reverse_reverse] at this
  have e := (List.take_append_drop b st).symm
  rw [this] at e
  exact e
theorem mm_rev2 {st : List Value} {b : Nat} {u v : Value} (h : (st.take b).reverse = [u, v]) : st = v :: u :: st.drop b := by
  have := congrArg List.reverse h
  rw [List.reverse_reverse] at this
  have e := (List.take_append_drop b st).symm
  rw [this] at e
  exact e
theorem mm_rev5 {st : List Value} {b : Nat} {u v w x y : Value} (h : (st.take b).reverse = [u, v, w, x, y]) : st = y :: x :: w :: v :: u :: st.drop b := by
  have := congrArg List.reverse h
  rw [List.reverse_reverse] at this
  have e := (List.take_append_drop b st).symm
  rw [this] at e
  exact e
theorem mm_cat_drop {ad : Nat → Nat} {st : List Value} (h : mm_cat st ≤ 8) : ((st.map (mm_tr ad)).map fun v => v.category).sum ≤ 8 := by rw [mm_cat_map]; exact h
/-- which call it is, and its link -/
theorem mm_ck2_link {own : Nat} {ret : Option FieldType} {q : mmE} (h : mm_ck2 own ret q = true) (hI : mm_isI q.1) : ∃ x, ((q.1 = .invokevirtual x ∧ mm_stat q.2.2.1 = false) ∨ (q.1 = .invokestatic x ∧ mm_stat q.2.2.1 = true)) ∧ Cond.methodLink (mm_nm own) x (mm_yn q.2.2.1).1 ∈ mm_ws ∧ (mm_yn q.2.2.1).2.1 = q.2.2.2.1 ∧ (mm_yn q.2.2.1).2.2 = q.2.2.2.2.1 := by
  obtain ⟨i, n, a, b, k, v, w⟩ := q
  cases i <;> first | exact hI.elim | skip
  case invokevirtual x =>
    simp only [mm_ck2, Bool.and_eq_true, Bool.not_eq_true'] at h
    exact ⟨x, Or.inl ⟨rfl, h.2⟩, mm_mem_pM h.1.1.1, Nat.eq_of_beq_eq_true h.1.1.2, Nat.eq_of_beq_eq_true h.1.2⟩
  case invokestatic x =>
    simp only [mm_ck2, Bool.and_eq_true] at h
    exact ⟨x, Or.inr ⟨rfl, h.2⟩, mm_mem_pM h.1.1.1, Nat.eq_of_beq_eq_true h.1.1.2, Nat.eq_of_beq_eq_true h.1.2⟩
section MMO
variable {p : Program} {l : Launch} {e : Env} {s : State} {m : MethodId} {args : Array Value} {below : List Frame} {meth : Method} {c : Code} {own : Nat} {cc : ByteArray} {D : va_G} {cA : Nat → ClassId} {ad0 ad adV : Nat → Nat} {A : Nat → Prop} {L : Nat} {xs : Nat → Int32} {mc ms d : Nat} {Q : State → Prop} {pc x : Nat} {ls : mmL} {rest : List Value} {σ : mmS}
theorem mm_s_abs (X : mm_c p s m args c own cc D cA ad adV A L xs) {u v : Int32} (hd : decode cc pc = .ok (.invokestatic x, 3)) (hl : Cond.methodLink (mm_nm own) x Lib.Math.abs.name ∈ mm_ws) (hc : mm_cat rest ≤ 8) {y z : Nat} (hy : y ≤ σ.1.2.1) (hz : z ≤ σ.1.2.2.1)
    (kn : mm_g p l e (mm_rm (d + 1) mc ms) s m args below meth c D cA ad A L xs mc ms Q (pc + 3) ls (.int (if 0 ≤ u then u else 0 - u) :: rest) ((mm_bud σ (σ.1.2.1 - y) (σ.1.2.2.1 - z)).1, σ.2.1, σ.2.2)) : mm_g p l e (mm_rm (d + 1) mc ms) s m args below meth c D cA ad A L xs mc ms Q pc ls (.int u :: rest) σ := by
  intro lsA H locs cells slots h1 h2 h3 h4 h5 h6 h7 h8 h9
  obtain ⟨hx, hb, hown, hts, hK, hE, hL⟩ := X
  refine W.widen (k := cells + y) (n := slots + z) (by omega) (by omega) ?_
  have hcr := mm_cat_drop (ad := ad) hc
  refine va_mabs hx hb h9.symm hown (hts _ hl) (hts _ wm_sabs) (hts _ wm_i) (hts _ wm_cabs) (by show 1 ≤ 8 * (d + 1); omega) (by show _ + 13 ≤ 400 * (d + 1); omega) (by show cells + y ≤ mc; omega) (by show slots + z ≤ ms; omega) hd ?_
  exact kn lsA H locs (cells + y) (slots + z) h1 h2 h3 h4 h5 (by show cells + y + (σ.1.2.1 - y) = mc; omega) (by show slots + z + (σ.1.2.2.1 - z) = ms; omega) h8 h9
theorem mm_s_max (X : mm_c p s m args c own cc D cA ad adV A L xs) {u v : Int32} (hd : decode cc pc = .ok (.invokestatic x, 3)) (hl : Cond.methodLink (mm_nm own) x Lib.Math.max.name ∈ mm_ws) (hc : mm_cat rest ≤ 8) {y z : Nat} (hy : y ≤ σ.1.2.1) (hz : z ≤ σ.1.2.2.1)
    (kn : mm_g p l e (mm_rm (d + 1) mc ms) s m args below meth c D cA ad A L xs mc ms Q (pc + 3) ls (.int (if u < v then v else u) :: rest) ((mm_bud σ (σ.1.2.1 - y) (σ.1.2.2.1 - z)).1, σ.2.1, σ.2.2)) : mm_g p l e (mm_rm (d + 1) mc ms) s m args below meth c D cA ad A L xs mc ms Q pc ls (.int v :: .int u :: rest) σ := by
  intro lsA H locs cells slots h1 h2 h3 h4 h5 h6 h7 h8 h9
  obtain ⟨hx, hb, hown, hts, hK, hE, hL⟩ := X
  refine W.widen (k := cells + y) (n := slots + z) (by omega) (by omega) ?_
  have hcr := mm_cat_drop (ad := ad) hc
  refine va_mmax hx hb h9.symm hown (hts _ hl) (hts _ wm_smax) (hts _ wm_i) (hts _ wm_cmax) (by show 1 ≤ 8 * (d + 1); omega) (by show _ + 13 ≤ 400 * (d + 1); omega) (by show cells + y ≤ mc; omega) (by show slots + z ≤ ms; omega) hd ?_
  exact kn lsA H locs (cells + y) (slots + z) h1 h2 h3 h4 h5 (by show cells + y + (σ.1.2.1 - y) = mc; omega) (by show slots + z + (σ.1.2.2.1 - z) = ms; omega) h8 h9
theorem mm_s_min (X : mm_c p s m args c own cc D cA ad adV A L xs) {u v : Int32} (hd : decode cc pc = .ok (.invokestatic x, 3)) (hl : Cond.methodLink (mm_nm own) x Lib.Math.min.name ∈ mm_ws) (hc : mm_cat rest ≤ 8) {y z : Nat} (hy : y ≤ σ.1.2.1) (hz : z ≤ σ.1.2.2.1)
    (kn : mm_g p l e (mm_rm (d + 1) mc ms) s m args below meth c D cA ad A L xs mc ms Q (pc + 3) ls (.int (if v < u then v else u) :: rest) ((mm_bud σ (σ.1.2.1 - y) (σ.1.2.2.1 - z)).1, σ.2.1, σ.2.2)) : mm_g p l e (mm_rm (d + 1) mc ms) s m args below meth c D cA ad A L xs mc ms Q pc ls (.int v :: .int u :: rest) σ := by
  intro lsA H locs cells slots h1 h2 h3 h4 h5 h6 h7 h8 h9
  obtain ⟨hx, hb, hown, hts, hK, hE, hL⟩ := X
  refine W.widen (k := cells + y) (n := slots + z) (by omega) (by omega) ?_
  have hcr := mm_cat_drop (ad := ad) hc
  refine va_mmin hx hb h9.symm hown (hts _ hl) (hts _ wm_smin) (hts _ wm_i) (hts _ wm_cmin) (by show 1 ≤ 8 * (d + 1); omega) (by show _ + 13 ≤ 400 * (d + 1); omega) (by show cells + y ≤ mc; omega) (by show slots + z ≤ ms; omega) hd ?_
  exact kn lsA H locs (cells + y) (slots + z) h1 h2 h3 h4 h5 (by show cells + y + (σ.1.2.1 - y) = mc; omega) (by show slots + z + (σ.1.2.2.1 - z) = ms; omega) h8 h9
theorem mm_row_at {I : mmI} {r : Nat} {f : Nat → Int32} : mm_row I r f r = f := if_pos rfl
theorem mm_cell_row {r j : Nat} {f : Nat → Int32} (h : j ≠ r) : mm_cell ad cA (σ.1, mm_row σ.2.1 r f, σ.2.2) j = mm_cell ad cA σ j := by
  have e : mm_row σ.2.1 r f j = σ.2.1 j := if_neg h
  unfold mm_cell mm_fs mm_val
  simp only [e]
theorem mm_cst_row {r reg kd n : Nat} {rf : List Nat} {f : Nat → Int32} (h : mm_cst L xs σ) (ht : mm_T[r]? = some (reg, kd, n, rf)) (hk : kd < 30) : mm_cst L xs (σ.1, mm_row σ.2.1 r f, σ.2.2) := by
  have e : ∀ q, q = 66 ∨ q = 67 ∨ q = 68 ∨ q = 69 → mm_row σ.2.1 r f q = σ.2.1 q := by
    intro q hq
    refine if_neg fun e => ?_
    subst e
    rcases hq with rfl | rfl | rfl | rfl <;> (simp [mm_T] at ht; omega)
  obtain ⟨h1, h2, h3, h4⟩ := h
  refine ⟨fun j hj => ?_, fun j hj => ?_, fun j hj => ?_, ?_⟩
  · show mm_row σ.2.1 r f 66 j = _; rw [e 66 (by omega)]; exact h1 j hj
  · show mm_row σ.2.1 r f 67 j = _; rw [e 67 (by omega)]; exact h2 j hj
  · show mm_row σ.2.1 r f 68 j = _; rw [e 68 (by omega)]; exact h3 j hj
  · show mm_row σ.2.1 r f 69 0 = _; rw [e 69 (by omega)]; exact h4
theorem mm_s_copy (X : mm_c p s m args c own cc D cA ad adV A L xs) {r reg n0 : Nat} {rf : List Nat} {sp dp n : Int32} (hd : decode cc pc = .ok (.invokestatic x, 3)) (hl : Cond.methodLink (mm_nm own) x arraycopyName ∈ mm_ws) (hc : mm_cat rest ≤ 8) {y z : Nat} (hy : y ≤ σ.1.2.1) (hz : z ≤ σ.1.2.2.1)
    (ht : mm_T[r]? = some (reg, 20, n0, rf)) (hv : mm_lv σ.1 reg = true) (k1 : ¬ sp < 0) (k2 : ¬ dp < 0) (k3 : ¬ n < 0) (k4 : sp.toNatClampNeg + n.toNatClampNeg ≤ n0) (k5 : dp.toNatClampNeg + n.toNatClampNeg ≤ n0)
    (kn : mm_g p l e (mm_rm (d + 1) mc ms) s m args below meth c D cA ad A L xs mc ms Q (pc + 3) ls rest ((mm_bud σ (σ.1.2.1 - y) (σ.1.2.2.1 - z)).1, mm_row σ.2.1 r (va_cpy (σ.2.1 r) (σ.2.1 r) sp.toNatClampNeg dp.toNatClampNeg n.toNatClampNeg), σ.2.2)) : mm_g p l e (mm_rm (d + 1) mc ms) s m args below meth c D cA ad A L xs mc ms Q pc ls (.int n :: .int dp :: .ref r :: .int sp :: .ref r :: rest) σ := by
  intro lsA H locs cells slots h1 h2 h3 h4 h5 h6 h7 h8 h9
  obtain ⟨hx, hb, hown, hts, hK, hE, hL⟩ := X
  refine W.widen (k := cells + y) (n := slots + z) (by omega) (by omega) ?_
  have hcr := mm_cat_drop (ad := ad) hc
  obtain ⟨q0, hq0, hw⟩ := mm_W_arr (ad := ad) (cA := cA) ht hv (by omega) (by omega)
  refine va_copyi hx hb h9.symm hown (hts _ hl) (hts _ wa_n) (hts _ wa_s) (hts _ wa_i) hK h2 h3 h4 q0 q0 0 0 (ty := .int) hw hw rfl rfl rfl k1 k2 k3 k4 k5 (fun i hi => rfl) (by show 1 ≤ 8 * (d + 1); omega) ?_ hd fun H1 locs1 g1 g2 g3 => ?_
  · have : nativeFrameWords "java/lang/System" "arraycopy" 5 + 11 ≤ 300 := by decide +kernel
    show _ + _ ≤ 400 * (d + 1)
    omega
  have hs := mm_W_set (cA := cA) (σ := σ) (τ := (σ.1, mm_row σ.2.1 r (va_cpy (σ.2.1 r) (σ.2.1 r) sp.toNatClampNeg dp.toNatClampNeg n.toNatClampNeg), σ.2.2)) (e := mm_ar ad cA (σ.1, mm_row σ.2.1 r (va_cpy (σ.2.1 r) (σ.2.1 r) sp.toNatClampNeg dp.toNatClampNeg n.toNatClampNeg), σ.2.2) r 20 n0 rf) rfl h3 hq0 (mm_cell_arr ht (by omega)) (fun j hj => mm_cell_row hj)
  simp only [mm_ar, mm_row_at] at hs
  rw [hs] at g1 g2
  exact kn lsA H1 locs1 (cells + y) (slots + z) h1 g1 g2 g3 (mm_cst_row h5 ht (by omega)) (by show cells + y + (σ.1.2.1 - y) = mc; omega) (by show slots + z + (σ.1.2.2.1 - z) = ms; omega) h8 h9
end MMO
