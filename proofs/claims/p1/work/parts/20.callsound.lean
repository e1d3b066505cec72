/-! a call of the small machine is a call of the real one -/
/-- the program's methods, one by one -/
theorem mm_P_pos {c : Nat} {m : mmM} (h : mm_P[c]? = some m) : ∃ q, mm_pck m q = true := by
  have hl := (List.getElem?_eq_some_iff.mp h).1
  rw [mm_P_len.1] at hl
  have hq : (mm_pos[c]?) = some (mm_pos[c]'(by rw [mm_P_len.2]; exact hl)) := List.getElem?_eq_getElem _
  refine ⟨_, List.all_eq_true.mp mm_pck_ok (m, mm_pos[c]'(by rw [mm_P_len.2]; exact hl)) ?_⟩
  refine List.mem_of_getElem? (i := c) ?_
  rw [List.getElem?_zip_eq_some]
  exact ⟨h, hq⟩
/-- all that the tables say of a method -/
def mm_mf (m : mmM) : Prop := Cond.code m.1 m.2.1 m.2.2.1 m.2.2.2.1 ∈ mm_ws ∧ (m.2.2.2.2.2.1 = true → Cond.static m.1 ∈ mm_ws ∧ (parseMethodDescriptor m.1.desc).map (fun d => d.parameters.length) = some m.2.2.2.2.2.2.1) ∧
  (m.2.2.2.2.2.1 = false → Cond.instanceMethod m.1 ∈ mm_ws ∧ Cond.selects m.1.cls m.1 m.1 ∈ mm_ws ∧ (parseMethodDescriptor m.1.desc).map (fun d => d.parameters.length + 1) = some m.2.2.2.2.2.2.1 ∧ m.2.2.2.2.1 < 11) ∧
  Cond.initialized m.1.cls ∈ mm_ws ∧ (m.1.cls ≠ "java/lang/invoke/MethodHandle" ∧ m.1.cls ≠ "java/lang/invoke/VarHandle") ∧ plainName m.1.cls = true ∧ mm_nm m.2.2.2.2.1 = m.1.cls ∧ m.2.2.1 ≤ 40 ∧ mm_rt m.2.2.2.1 < 3 ∧
  (m.2.2.2.2.2.2.2.all fun q => mm_ckr m.2.2.2.2.1 m.2.1 q.2.2 q.1) = true ∧ (m.2.2.2.2.2.2.2.all fun q => q.2.2.all (mm_ck2 m.2.2.2.2.1 m.2.2.2.1)) = true
theorem mm_mf_of {c : Nat} {m : mmM} (h : mm_P[c]? = some m) : mm_mf m := by
  obtain ⟨q, hq⟩ := mm_P_pos h
  have hm := List.mem_of_getElem? h
  unfold mm_pck at hq
  simp only [Bool.and_eq_true, decide_eq_true_eq] at hq
  obtain ⟨⟨⟨⟨⟨⟨⟨h1, h2⟩, h3⟩, h4⟩, h5⟩, h6⟩, h7⟩, h8⟩ := hq
  refine ⟨mm_cw_all m hm, fun hs => ?_, fun hs => ?_, mm_ws_of h2 rfl, ⟨h3, h4⟩, h5, h6, Nat.le_of_ble_eq_true h7, Nat.le_of_ble_eq_true h8, mm_ckr_all m hm, List.all_eq_true.mp mm_ck2_ok m hm⟩
  · rw [hs] at h1
    simp only [Bool.and_eq_true, decide_eq_true_eq] at h1
    exact ⟨mm_ws_of h1.1 rfl, h1.2⟩
  · rw [hs] at h1
    simp only [Bool.and_eq_true, decide_eq_true_eq] at h1
    exact ⟨mm_ws_of h1.1.1.1 rfl, mm_ws_of h1.1.1.2 rfl, h1.1.2, Nat.le_of_ble_eq_true h1.2⟩
theorem mm_mem_pM {own x a : Nat} (h : (mm_pM.any fun z => Nat.beq z.1 own && Nat.beq z.2.1 x && Nat.beq z.2.2.1 a) = true) : Cond.methodLink (mm_nm own) x (mm_yn a).1 ∈ mm_ws := by
  obtain ⟨⟨q1, q2, q3, q4⟩, hq, h⟩ := List.any_eq_true.mp h
  simp only [Bool.and_eq_true] at h
  obtain ⟨⟨e1, e2⟩, e3⟩ := h
  cases Nat.eq_of_beq_eq_true e1; cases Nat.eq_of_beq_eq_true e2; cases Nat.eq_of_beq_eq_true e3
  exact mm_pM_ws hq
/-- all words are good -/
theorem mm_ws_good {big : List Cond} (hb : ∀ w ∈ mm_ws, w ∈ big) {w0 : Cond} (h0 : w0 ∈ mm_ws) : GoodIn big (w0 :: mm_ws) := by
  intro w hw
  have : w ∈ mm_ws := by
    rcases List.mem_cons.mp hw with h | h
    · rw [h]; exact h0
    · exact h
  exact ⟨hb w this, good_of_word (List.mem_filter.mp this).2⟩
section MMC
variable {p : Program} {l : Launch} {e : Env} {R : Room} {s : State} {m : MethodId} {args : Array Value} {below : List Frame} {meth : Method} {c : Code} {own : Nat} {cc : ByteArray} {D : va_G} {cA : Nat → ClassId} {ad ad0 adV : Nat → Nat} {A : Nat → Prop} {L : Nat} {xs : Nat → Int32} {mc ms : Nat} {Q : State → Prop} {pc : Nat} {ls : mmL} {st : List Value} {σ : mmS}
/-- behind a call: the caller's locals and stack stay -/
theorem mm_lr_ag {ad' : Nat → Nat} {lsA : Array Slot} {ls : mmL} (h : mm_lr ad lsA ls) (ha : mm_ag ad ad') (h0 : mm_r0 ls = true) : mm_lr ad' lsA ls := by
  refine ⟨h.1, h.2.1, fun i v hv => ?_⟩
  rw [h.2.2 i v hv]
  have hm := List.mem_of_getElem? hv
  have hz := List.all_eq_true.mp h0 _ hm
  cases v <;> first | rfl | skip
  rename_i r
  have hr : r < 70 ∨ 98 ≤ r := by
    simp only [Bool.or_eq_true] at hz
    rcases hz with hz | hz
    · exact Or.inl (Nat.le_of_ble_eq_true hz)
    · exact Or.inr (Nat.le_of_ble_eq_true hz)
  show some (Slot.val (.ref (ad r))) = some (.val (.ref (ad' r)))
  rw [ha r hr]
theorem mm_st_ag {ad' : Nat → Nat} {st : List Value} (ha : mm_ag ad ad') (h0 : mm_r0 (st.map some) = true) : st.map (mm_tr ad') = st.map (mm_tr ad) := by
  refine List.map_congr_left fun v hv => ?_
  have hz := List.all_eq_true.mp h0 _ (List.mem_map_of_mem hv)
  cases v <;> first | rfl | skip
  rename_i r
  have hr : r < 70 ∨ 98 ≤ r := by
    simp only [Bool.or_eq_true] at hz
    rcases hz with hz | hz
    · exact Or.inl (Nat.le_of_ble_eq_true hz)
    · exact Or.inr (Nat.le_of_ble_eq_true hz)
  show Value.ref (ad' r) = .ref (ad r)
  rw [ha r hr]
theorem mm_cat_map (st : List Value) : ((st.map (mm_tr ad)).map fun v => v.category).sum = mm_cat st := by
  unfold mm_cat
  rw [List.map_map]
  congr 1
  exact List.map_congr_left fun v _ => mm_tr_cat ad v
/-- a budget changed: the world is the same -/
theorem mm_W_bud {σ : mmS} {x y : Nat} : mm_W ad cA (mm_bud σ x y) = mm_W ad cA σ := rfl
theorem mm_cst_bud {σ : mmS} {x y : Nat} (h : mm_cst L xs σ) : mm_cst L xs (mm_bud σ x y) := h
/-- a call that has a contract: x cells and y slots are the callee's -/
def mm_ct (p : Program) (l : Launch) (e : Env) (R : Room) (s : State) (m : MethodId) (args : Array Value) (below : List Frame) (meth : Method) (c : Code) (D : va_G) (cA : Nat → ClassId) (ad : Nat → Nat) (A : Nat → Prop) (L : Nat) (xs : Nat → Int32) (mc ms pc a b k : Nat) (st : List Value) (σ : mmS) (x y : Nat) (Qm : mmQ) : Prop :=
  ∀ (lsA : Array Slot) (H : Heap) (locs : List Loc) (cells slots : Nat), va_P D vwCl (mm_W ad cA σ) H → va_D A (mm_W ad cA σ) → va_S A s.heap H locs → mm_cst L xs σ → cells + x ≤ mc → slots + y ≤ ms → lsA.size = c.maxLocals →
    ∃ a, va_Run p l e R s m args below meth c H locs cells slots x y (F0 m pc lsA (st.map (mm_tr ad))) ((st.drop b).map (mm_tr ad)) (mm_qc k Qm ad D cA A L xs a) A
/-- a call by its contract, in either mode -/
theorem mm_inv_sound (hK : va_K D vwCl (mm_tys cA) s) (h0 : mm_ag ad0 ad) {C : mmCall} {a b k : Nat} (hk : k < 4) {mode : Int32} {kk : List Value → mmS → Prop} (h : mm_inv C a b k mode ls st σ kk)
    (hC : ∀ (x y : Nat) (Qm : mmQ), mm_cat (st.drop b) ≤ 8 → C a (st.take b).reverse (mm_bud σ x y) Qm → mm_ct p l e R s m args below meth c D cA ad A L xs mc ms pc a b k st σ x y Qm)
    (kn : ∀ ad', mm_ag ad0 ad' → ∀ s' τ, kk s' τ → mm_g p l e R s m args below meth c D cA ad' A L xs mc ms Q (pc + 3) ls s' τ) : mm_g p l e R s m args below meth c D cA ad A L xs mc ms Q pc ls st σ := by
  intro lsA H locs cells slots h1 h2 h3 h4 h5 h6 h7 h8 h9
  unfold mm_inv at h
  split at h
  · exact h.elim
  rename_i hcat
  have hcat := Nat.le_of_ble_eq_true hcat
  have ret : ∀ (kk2 : List Value → mmS → Prop) (v : Option Value) (τ : mmS), mm_ret k (st.drop b) kk2 v τ → kk2 (v.toList ++ st.drop b) τ := by
    intro kk2 v τ hv
    unfold mm_ret at hv
    split at hv
    · rw [hv.1]; exact hv.2
    · obtain ⟨r, e1, e2⟩ := hv; rw [e1]; exact e2
    · obtain ⟨r, e1, e2⟩ := hv; rw [e1]; exact e2
    · obtain ⟨r, e1, e2⟩ := hv; rw [e1]; exact e2
    · exact hv.elim
  split at h
  · obtain ⟨a', hr⟩ := hC 0 0 _ hcat h lsA H locs cells slots h2 h3 h4 h5 (by omega) (by omega) h9
    refine mm_after hk hK hr h4 fun v τ hq hag hf H1 locs1 g1 g2 g3 g4 => ?_
    obtain ⟨e1, e2⟩ := ret _ v τ hq
    have e1' : τ.1.2.2.2.2.2 = ad := e1.trans h8
    rw [e1'] at g1 g2 ⊢
    have := kn ad h0 _ _ e2 lsA H1 locs1 cells slots h1 g1 g2 g3 g4 h6 h7 e1' h9
    rw [List.map_append] at this
    exact this
  · split at h
    · exact h.elim
    rename_i hr0
    rw [Bool.and_eq_true] at hr0
    obtain ⟨x, y, hx, hy, h⟩ := h
    obtain ⟨a', hr⟩ := hC x y _ hcat h lsA H locs cells slots h2 h3 h4 h5 (by omega) (by omega) h9
    refine mm_after hk hK hr h4 fun v τ hq hag hf H1 locs1 g1 g2 g3 g4 => ?_
    have e2 := ret _ v τ hq
    have := kn τ.1.2.2.2.2.2 (h0.trans hag) _ _ e2 lsA H1 locs1 (cells + x) (slots + y) (mm_lr_ag h1 hag hr0.1) g1 g2 g3 g4 (by show cells + x + (σ.1.2.1 - x) = mc; omega) (by show slots + y + (σ.1.2.2.1 - y) = ms; omega) rfl h9
    rw [List.map_append, mm_st_ag hag hr0.2] at this
    exact this
end MMC
