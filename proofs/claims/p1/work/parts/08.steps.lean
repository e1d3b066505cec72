/-! fields and arrays: a step of the small machine is a step of the real one -/
section MMT
variable {p : Program} {l : Launch} {e : Env} {R : Room} {s : State} {m : MethodId} {args : Array Value} {below : List Frame} {meth : Method} {c : Code} {own : Nat} {cc : ByteArray} {D : va_G} {cA : Nat → ClassId} {ad adV : Nat → Nat} {A : Nat → Prop} {L : Nat} {xs : Nat → Int32} {mc ms : Nat} {Q : State → Prop} {pc : Nat} {ls : mmL} {st : List Value} {σ : mmS}
/-- a field's entry: linked, by itself or by the nest -/
def mm_lk (own x a b : Nat) : Prop := (∃ q, (own, x, a, b, q) ∈ mm_pF) ∨ ∃ q, (own, x, a, b, q) ∈ mm_pN
theorem mm_s_get (X : mm_c p s m args c own cc D cA ad adV A L xs) {x r k reg kd n : Nat} {rf : List Nat} (hd : decode cc pc = .ok (.getfield x, 3)) (hl : mm_lk own x kd k) (ht : mm_T[r]? = some (reg, kd, n, rf)) (hv : mm_lv σ.1 reg = true) (hkd : kd < 11) (hk : k < (mm_F.getD kd []).length)
    (kk : mm_g p l e R s m args below meth c D cA ad A L xs mc ms Q (pc + 3) ls st σ → Prop) {v : Value} (hval : mm_val ad σ r k ((mm_F.getD kd []).getD k 0) rf = mm_tr ad v)
    (kn : mm_g p l e R s m args below meth c D cA ad A L xs mc ms Q (pc + 3) ls (v :: st) σ) : mm_g p l e R s m args below meth c D cA ad A L xs mc ms Q pc ls (.ref r :: st) σ := by
  intro lsA H locs cells slots h1 h2 h3 h4 h5 h6 h7 h8 h9
  obtain ⟨hx, hb, hown, hts, hK, hE, -⟩ := X
  obtain ⟨C, T, N, hcl, hin, ⟨ty, hty⟩, hnm, hlen, hcn⟩ := mm_clf_of hkd
  obtain ⟨q0, hq0, hw⟩ := mm_W_get (ad := ad) (cA := cA) (mm_in_of ht hv (by omega))
  rw [mm_cell_obj ht (by omega)] at hw
  have hfn : mm_fn kd k = T k := by unfold mm_fn; rw [List.getD_eq_getElem?_getD, hcl]; rfl
  have hfs := mm_fs_get (ad := ad) (σ := σ) (r := r) (rf := rf) hk
  rw [hval] at hfs
  rcases hl with ⟨q, hq⟩ | ⟨q, hq⟩
  · have hlink := hts _ (mm_pF_ws hq)
    unfold mm_pFw at hlink
    simp only [hfn] at hlink
    exact va_get (C := C) (T := T) (N := N) (ci := kd) hx hb hts hin hown hK h2 q0 hw hcl k (by rw [← hlen]; exact hk) hlink (fun _ q => q) hfs hd (kn lsA H locs cells slots h1 h2 h3 h4 h5 h6 h7 h8 h9)
  · have hlink := va_Nw.use (A := args) rfl (hE.2.2.2.2.1 _ hq)
    unfold mm_pNw at hlink
    simp only [hfn] at hlink
    exact va_getN (C := C) (T := T) (N := N) (ci := kd) hx hb hts hin hown hK h2 q0 hw hcl k (by rw [← hlen]; exact hk) hlink (fun _ q => q) hfs hd (kn lsA H locs cells slots h1 h2 h3 h4 h5 h6 h7 h8 h9)
theorem mm_s_put (X : mm_c p s m args c own cc D cA ad adV A L xs) {x r k reg kd n : Nat} {rf : List Nat} (hd : decode cc pc = .ok (.putfield x, 3)) (hl : mm_lk own x kd k) (ht : mm_T[r]? = some (reg, kd, n, rf)) (hv : mm_lv σ.1 reg = true) (hkd : kd < 11) (hk : k < (mm_F.getD kd []).length) (hfin : (mm_fn kd k).2.2.2 = false)
    {ty : FieldType} {v : Value} (hty : parseFieldDescriptor (mm_fn kd k).2.2.1 = some ty) (hn : narrow ty (mm_tr ad v) = mm_tr ad v) (hfit : fits ty (mm_tr ad v) = true)
    {τ : mmS} (hg : mm_ix τ.1 = mm_ix σ.1) (hc1 : mm_fs ad τ r kd rf = (mm_fs ad σ r kd rf).set k (mm_tr ad v)) (hc2 : ∀ j, j ≠ r → mm_cell ad cA τ j = mm_cell ad cA σ j) (hcs : mm_cst L xs σ → mm_cst L xs τ) (hb1 : τ.1.2.1 = σ.1.2.1) (hb2 : τ.1.2.2.1 = σ.1.2.2.1) (hb3 : τ.1.2.2.2.2.2 = σ.1.2.2.2.2.2)
    (kn : mm_g p l e R s m args below meth c D cA ad A L xs mc ms Q (pc + 3) ls st τ) : mm_g p l e R s m args below meth c D cA ad A L xs mc ms Q pc ls (v :: .ref r :: st) σ := by
  intro lsA H locs cells slots h1 h2 h3 h4 h5 h6 h7 h8 h9
  obtain ⟨hx, hb, hown, hts, hK, hE, -⟩ := X
  obtain ⟨C, T, N, hcl, hin, ⟨ty0, hty0⟩, hnm, hlen, hcn⟩ := mm_clf_of hkd
  obtain ⟨q0, hq0, hw⟩ := mm_W_get (ad := ad) (cA := cA) (mm_in_of ht hv (by omega))
  rw [mm_cell_obj ht (by omega)] at hw
  have hfn : mm_fn kd k = T k := by unfold mm_fn; rw [List.getD_eq_getElem?_getD, hcl]; rfl
  rw [hfn] at hfin hty
  have hset : (mm_W ad cA σ).set q0 (ad r, .inr (kd, (mm_fs ad σ r kd rf).set k (mm_tr ad v))) = mm_W ad cA τ := mm_W_set hg h3 hq0 (by rw [mm_cell_obj ht (by omega), hc1]) hc2
  have go : ∀ (H1 : Heap) (locs1 : List Loc), va_P D vwCl ((mm_W ad cA σ).set q0 (ad r, .inr (kd, (mm_fs ad σ r kd rf).set k (mm_tr ad v)))) H1 → va_D A ((mm_W ad cA σ).set q0 (ad r, .inr (kd, (mm_fs ad σ r kd rf).set k (mm_tr ad v)))) → va_S A s.heap H1 locs1 → W p l e R s m args below meth c H1 locs1 cells slots Q (F0 m (pc + 3) lsA (st.map (mm_tr ad))) := by
    intro H1 locs1 g1 g2 g3
    rw [hset] at g1 g2
    exact kn lsA H1 locs1 cells slots h1 g1 g2 g3 (hcs h5) (by rw [hb1]; exact h6) (by rw [hb2]; exact h7) (by rw [hb3]; exact h8) h9
  rcases hl with ⟨q, hq⟩ | ⟨q, hq⟩
  · have hlink := hts _ (mm_pF_ws hq)
    unfold mm_pFw at hlink
    simp only [hfn] at hlink
    exact va_put (C := C) (T := T) (N := N) (ci := kd) hx hb hts hin ty0 hty0 hnm hown hK h2 h3 h4 q0 hw hcl k (by rw [← hlen]; exact hk) hlink (fun _ q => q) hfin hty hn hfit (by rw [mm_fs_len]; exact hk) hd go
  · have hlink := va_Nw.use (A := args) rfl (hE.2.2.2.2.1 _ hq)
    unfold mm_pNw at hlink
    simp only [hfn] at hlink
    exact va_putN (C := C) (T := T) (N := N) (ci := kd) hx hb hts hin ty0 hty0 hnm hown hK h2 h3 h4 q0 hw hcl k (by rw [← hlen]; exact hk) hlink (fun _ q => q) hfin hty hn hfit (by rw [mm_fs_len]; exact hk) hd go
def mm_ar (ad : Nat → Nat) (cA : Nat → ClassId) (σ : mmS) (r kd n : Nat) (rf : List Nat) : va_E := match kd with
  | 20 => .inl (cA 0, n, .inl (σ.2.1 r))
  | 21 => .inl (cA 1, n, .inr (.inl (σ.2.2 r)))
  | 22 => .inl (cA 2, n, .inl (σ.2.1 r))
  | 23 => .inl (cA 3, n, .inl (σ.2.1 r))
  | _ => .inl (cA 4, n, .inr (.inr (.inr (.inr fun i => (rf[i]?).map ad))))
theorem mm_cell_arr {r reg kd n : Nat} {rf : List Nat} (h : mm_T[r]? = some (reg, kd, n, rf)) (hk : ¬ kd < 20) : mm_cell ad cA σ r = mm_ar ad cA σ r kd n rf := by
  unfold mm_cell
  rw [h]
  have : Nat.blt kd 20 = false := by
    cases hq : Nat.blt kd 20 with
    | false => rfl
    | true => exact absurd (Nat.le_of_ble_eq_true hq) (by omega)
  simp only [this]
  rfl
theorem mm_W_arr {r reg kd n : Nat} {rf : List Nat} (h : mm_T[r]? = some (reg, kd, n, rf)) (hv : mm_lv σ.1 reg = true) (hk : ¬ kd < 20) (hk2 : kd < 30) : ∃ q : Nat, (mm_ix σ.1)[q]? = some r ∧ (mm_W ad cA σ)[q]? = some (ad r, mm_ar ad cA σ r kd n rf) := by
  obtain ⟨q, h1, h2⟩ := mm_W_get (ad := ad) (cA := cA) (mm_in_of h hv hk2)
  rw [mm_cell_arr h hk] at h2
  exact ⟨q, h1, h2⟩
theorem mm_s_iald (X : mm_c p s m args c own cc D cA ad adV A L xs) {r : Nat} {i : Int32} (hd : decode cc pc = .ok (.iaload, 1)) (h : mm_ild 0 r i σ fun x => mm_g p l e R s m args below meth c D cA ad A L xs mc ms Q (pc + 1) ls (.int x :: st) σ) : mm_g p l e R s m args below meth c D cA ad A L xs mc ms Q pc ls (.int i :: .ref r :: st) σ := by
  intro lsA H locs cells slots h1 h2 h3 h4 h5 h6 h7 h8 h9
  obtain ⟨hx, hb, hown, hts, hK, hE, hL⟩ := X
  obtain ⟨reg, kd, n, rf, ht, hv, h⟩ := mm_at_in h
  have hcase : (kd = 20 ∧ vp_in i n ∧ mm_g p l e R s m args below meth c D cA ad A L xs mc ms Q (pc + 1) ls (.int (σ.2.1 r i.toNatClampNeg) :: st) σ) ∨ (kd = 30 ∧ vp_in i n ∧ mm_g p l e R s m args below meth c D cA ad A L xs mc ms Q (pc + 1) ls (.int (σ.2.1 r i.toNatClampNeg) :: st) σ) ∨ (kd = 31 ∧ vp_in i (σ.2.1 (r + 1) 0).toNatClampNeg ∧ mm_g p l e R s m args below meth c D cA ad A L xs mc ms Q (pc + 1) ls (.int (σ.2.1 r i.toNatClampNeg) :: st) σ) := by
    revert h; split <;> first | (intro q; exact Or.inl ⟨rfl, q⟩) | (intro q; exact Or.inr (Or.inl ⟨rfl, q⟩)) | (intro q; exact Or.inr (Or.inr ⟨rfl, q⟩)) | (intro q; exact q.elim) | (exfalso; omega)
  rcases hcase with ⟨rfl, q1, q2⟩ | ⟨rfl, q1, q2⟩ | ⟨rfl, q1, q2⟩
  · obtain ⟨q0, -, hw⟩ := mm_W_arr (ad := ad) (cA := cA) ht hv (by omega) (by omega)
    exact va_iald hx hb hK h2 q0 0 hw rfl q1 hd (q2 lsA H locs cells slots h1 h2 h3 h4 h5 h6 h7 h8 h9)
  · have hr : r = 66 ∨ r = 67 := by
      have hlt := (List.getElem?_eq_some_iff.mp ht).1
      rw [mm_T_len] at hlt
      have : ∀ r, r < 115 → ∀ reg n rf, mm_T[r]? = some (reg, 30, n, rf) → r = 66 ∨ r = 67 := by
        intro r hr reg n rf hh
        have key : ∀ r, r < 115 → (mm_T[r]?.map fun q => decide (q.2.1 = 30)) = some true → r = 66 ∨ r = 67 := by decide +kernel
        exact key r hr (by rw [hh]; rfl)
      exact this r hlt _ _ _ ht
    have hlt : i.toNatClampNeg < n := Nat.not_le.mp fun q => q1 (Or.inr q)
    rcases hr with rfl | rfl
    · simp [mm_T] at ht
      obtain ⟨rfl, rfl, rfl⟩ := ht
      exact va_ti hx hb hE.1.2.2.1 h4 q1 (by rw [← h5.1 _ hlt]; rfl) hd (q2 lsA H locs cells slots h1 h2 h3 h4 h5 h6 h7 h8 h9)
    · simp [mm_T] at ht
      obtain ⟨rfl, rfl, rfl⟩ := ht
      exact va_ti hx hb hE.1.2.2.2 h4 q1 (by rw [← h5.2.1 _ hlt]; rfl) hd (q2 lsA H locs cells slots h1 h2 h3 h4 h5 h6 h7 h8 h9)
  · have hr : r = 68 := by
      have hlt := (List.getElem?_eq_some_iff.mp ht).1
      rw [mm_T_len] at hlt
      have key : ∀ r, r < 115 → (mm_T[r]?.map fun q => decide (q.2.1 = 31)) = some true → r = 68 := by decide +kernel
      exact key r hlt (by rw [ht]; rfl)
    subst hr
    have e69 : (σ.2.1 69 0).toNatClampNeg = L := by rw [h5.2.2.2]; exact nI_clamp hL
    have q1' : vp_in i L := by rw [← e69]; exact q1
    have hlt : i.toNatClampNeg < L := Nat.not_le.mp fun q => q1' (Or.inr q)
    have := q2 lsA H locs cells slots h1 h2 h3 h4 h5 h6 h7 h8 h9
    rw [h5.2.2.1 _ hlt] at this
    exact va_sld hx hb hE.2.1.1 hE.2.1.2.1 hE.2.1.2.2 h4 q1' hd this
theorem mm_s_bald (X : mm_c p s m args c own cc D cA ad adV A L xs) {r : Nat} {i : Int32} (hd : decode cc pc = .ok (.baload, 1)) (h : mm_ild 1 r i σ fun x => mm_g p l e R s m args below meth c D cA ad A L xs mc ms Q (pc + 1) ls (.int x :: st) σ) : mm_g p l e R s m args below meth c D cA ad A L xs mc ms Q pc ls (.int i :: .ref r :: st) σ := by
  intro lsA H locs cells slots h1 h2 h3 h4 h5 h6 h7 h8 h9
  obtain ⟨hx, hb, hown, hts, hK, hE, hL⟩ := X
  obtain ⟨reg, kd, n, rf, ht, hv, h⟩ := mm_at_in h
  have hcase : (kd = 22 ∧ vp_in i n ∧ mm_g p l e R s m args below meth c D cA ad A L xs mc ms Q (pc + 1) ls (.int (σ.2.1 r i.toNatClampNeg) :: st) σ) ∨ (kd = 23 ∧ vp_in i n ∧ mm_g p l e R s m args below meth c D cA ad A L xs mc ms Q (pc + 1) ls (.int (σ.2.1 r i.toNatClampNeg) :: st) σ) := by
    revert h; split <;> first | (intro q; exact Or.inl ⟨rfl, q⟩) | (intro q; exact Or.inr ⟨rfl, q⟩) | (intro q; exact q.elim) | (exfalso; omega)
  rcases hcase with ⟨rfl, q1, q2⟩ | ⟨rfl, q1, q2⟩
  · obtain ⟨q0, -, hw⟩ := mm_W_arr (ad := ad) (cA := cA) ht hv (by omega) (by omega)
    exact va_bald hx hb hK h2 q0 2 hw rfl q1 hd (q2 lsA H locs cells slots h1 h2 h3 h4 h5 h6 h7 h8 h9)
  · obtain ⟨q0, -, hw⟩ := mm_W_arr (ad := ad) (cA := cA) ht hv (by omega) (by omega)
    exact va_zald hx hb hK h2 q0 3 hw rfl q1 hd (q2 lsA H locs cells slots h1 h2 h3 h4 h5 h6 h7 h8 h9)
theorem mm_s_lald (X : mm_c p s m args c own cc D cA ad adV A L xs) {r : Nat} {i : Int32} (hd : decode cc pc = .ok (.laload, 1)) (h : mm_lld r i σ fun x => mm_g p l e R s m args below meth c D cA ad A L xs mc ms Q (pc + 1) ls (.long x :: st) σ) : mm_g p l e R s m args below meth c D cA ad A L xs mc ms Q pc ls (.int i :: .ref r :: st) σ := by
  intro lsA H locs cells slots h1 h2 h3 h4 h5 h6 h7 h8 h9
  obtain ⟨hx, hb, hown, hts, hK, hE, hL⟩ := X
  obtain ⟨reg, kd, n, rf, ht, hv, h⟩ := mm_at_in h
  have hcase : kd = 21 ∧ vp_in i n ∧ mm_g p l e R s m args below meth c D cA ad A L xs mc ms Q (pc + 1) ls (.long (σ.2.2 r i.toNatClampNeg) :: st) σ := by
    revert h; split <;> first | (intro q; exact ⟨rfl, q⟩) | (intro q; exact q.elim)
  obtain ⟨rfl, q1, q2⟩ := hcase
  obtain ⟨q0, -, hw⟩ := mm_W_arr (ad := ad) (cA := cA) ht hv (by omega) (by omega)
  exact va_lald hx hb hK h2 q0 1 hw rfl q1 hd (q2 lsA H locs cells slots h1 h2 h3 h4 h5 h6 h7 h8 h9)
theorem mm_T_rows : ∀ r, r < 115 → (mm_T[r]?.map fun q => decide (q.2.1 = 24 → q.2.2.2.length = q.2.2.1)) = some true := by decide +kernel
theorem mm_s_aald (X : mm_c p s m args c own cc D cA ad adV A L xs) {r : Nat} {i : Int32} (hd : decode cc pc = .ok (.aaload, 1)) (h : mm_ald r i σ fun x => mm_g p l e R s m args below meth c D cA ad A L xs mc ms Q (pc + 1) ls (.ref x :: st) σ) : mm_g p l e R s m args below meth c D cA ad A L xs mc ms Q pc ls (.int i :: .ref r :: st) σ := by
  intro lsA H locs cells slots h1 h2 h3 h4 h5 h6 h7 h8 h9
  obtain ⟨hx, hb, hown, hts, hK, hE, hL⟩ := X
  obtain ⟨reg, kd, n, rf, ht, hv, h⟩ := mm_at_in h
  have hcase : kd = 24 ∧ vp_in i n ∧ mm_g p l e R s m args below meth c D cA ad A L xs mc ms Q (pc + 1) ls (.ref (rf.getD i.toNatClampNeg 0) :: st) σ := by
    revert h; split <;> first | (intro q; exact ⟨rfl, q⟩) | (intro q; exact q.elim)
  obtain ⟨rfl, q1, q2⟩ := hcase
  obtain ⟨q0, -, hw⟩ := mm_W_arr (ad := ad) (cA := cA) ht hv (by omega) (by omega)
  have hlt : i.toNatClampNeg < n := Nat.not_le.mp fun q => q1 (Or.inr q)
  have hlen : rf.length = n := by
    have hr := (List.getElem?_eq_some_iff.mp ht).1
    rw [mm_T_len] at hr
    have := mm_T_rows r hr
    rw [ht] at this
    simpa using this
  have e : va_rf ((rf[i.toNatClampNeg]?).map ad) = .ref (ad (rf.getD i.toNatClampNeg 0)) := by
    rw [List.getD_eq_getElem?_getD, List.getElem?_eq_getElem (by omega)]; rfl
  have := q2 lsA H locs cells slots h1 h2 h3 h4 h5 h6 h7 h8 h9
  refine W.aald (v := va_rf ((rf[i.toNatClampNeg]?).map ad)) (ty := .array .int) hx hb (h2 q0 _ hw) ((hK.2 4 _ rfl).1 n (fun j => va_rf ((rf[j]?).map ad))) rfl (fun q => by cases q) (by show ¬ (i < 0 ∨ (arrV _ _ _).slots.size ≤ _); rw [arrV_size]; exact q1) (by show (arrV _ _ _).slots[_]? = _; rw [arrV_read _ _ hlt]) rfl rfl hd ?_
  rw [e]
  exact this
theorem mm_s_alen (X : mm_c p s m args c own cc D cA ad adV A L xs) {r : Nat} (hd : decode cc pc = .ok (.arraylength, 1)) (h : mm_len r σ fun x => mm_g p l e R s m args below meth c D cA ad A L xs mc ms Q (pc + 1) ls (.int x :: st) σ) : mm_g p l e R s m args below meth c D cA ad A L xs mc ms Q pc ls (.ref r :: st) σ := by
  intro lsA H locs cells slots h1 h2 h3 h4 h5 h6 h7 h8 h9
  obtain ⟨hx, hb, hown, hts, hK, hE, hL⟩ := X
  obtain ⟨reg, kd, n, rf, ht, hv, h⟩ := mm_at_in h
  revert h
  split
  · intro h
    obtain ⟨q0, -, hw⟩ := mm_W_arr (ad := ad) (cA := cA) ht hv (by omega) (by omega)
    exact va_alen hx hb hK h2 q0 0 hw rfl rfl hd (h lsA H locs cells slots h1 h2 h3 h4 h5 h6 h7 h8 h9)
  · intro h
    obtain ⟨q0, -, hw⟩ := mm_W_arr (ad := ad) (cA := cA) ht hv (by omega) (by omega)
    exact va_alen hx hb hK h2 q0 1 hw rfl rfl hd (h lsA H locs cells slots h1 h2 h3 h4 h5 h6 h7 h8 h9)
  · intro h
    obtain ⟨q0, -, hw⟩ := mm_W_arr (ad := ad) (cA := cA) ht hv (by omega) (by omega)
    exact va_alen hx hb hK h2 q0 2 hw rfl rfl hd (h lsA H locs cells slots h1 h2 h3 h4 h5 h6 h7 h8 h9)
  · intro h
    obtain ⟨q0, -, hw⟩ := mm_W_arr (ad := ad) (cA := cA) ht hv (by omega) (by omega)
    exact va_alen hx hb hK h2 q0 3 hw rfl rfl hd (h lsA H locs cells slots h1 h2 h3 h4 h5 h6 h7 h8 h9)
  · intro h
    have hr : r = 68 := by
      have hlt := (List.getElem?_eq_some_iff.mp ht).1
      rw [mm_T_len] at hlt
      have key : ∀ r, r < 115 → (mm_T[r]?.map fun q => decide (q.2.1 = 31)) = some true → r = 68 := by decide +kernel
      exact key r hlt (by rw [ht]; rfl)
    subst hr
    have := h lsA H locs cells slots h1 h2 h3 h4 h5 h6 h7 h8 h9
    rw [h5.2.2.2] at this
    exact va_slen hx hb hE.2.1.1 hE.2.1.2.1 hE.2.1.2.2 h4 hd this
  · exact fun h => h.elim
end MMT
