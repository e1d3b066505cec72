/-! rows of rows -/
theorem wq_cl2_13 : Cond.classLink RX3 13 "[[I" ∈ mm_ws := mm_tw (mm_t5 (List.mem_of_getElem? (i := 70) rfl)) rfl
/-- f, but v at every address of l -/
def vr_up {α : Type} (f : Nat → α) (l : List Nat) (v : α) : Nat → α := fun a => if a ∈ l then v else f a
theorem vr_up_in {α : Type} {f : Nat → α} {l : List Nat} {v : α} {a : Nat} (h : a ∈ l) : vr_up f l v a = v := if_pos h
theorem vr_up_ne {α : Type} {f : Nat → α} {l : List Nat} {v : α} {a : Nat} (h : a ∉ l) : vr_up f l v a = f a := if_neg h
theorem vr_rows {L l : List Nat} {f : Nat → va_E} {e : va_E} (h : ∀ a, a ∈ l → a ∉ L) : va_pl L f ++ l.map (fun a => (a, e)) = va_pl (L ++ l) (vr_up f l e) := by
  unfold va_pl
  rw [List.map_append]
  congr 1
  · apply List.map_congr_left
    intro a ha
    rw [vr_up_ne (fun q => h a q ha)]
  · apply List.map_congr_left
    intro a ha
    rw [vr_up_in ha]
theorem vr_lay {X rows : va_W} {x : Nat × va_E} {pl : va_W} {D : va_G} {cl : List vw_C} {H : Heap} (hP : va_P D cl (((X ++ pl) ++ [x]) ++ rows) H) : va_P D cl ((X ++ [x]) ++ (pl ++ rows)) H := by
  rw [List.append_assoc (X ++ pl)] at hP
  have h := va_P.swap hP
  rw [← List.append_assoc X] at h
  have h2 := va_P.swap h
  rw [List.append_assoc (X ++ [x])] at h2
  exact h2
theorem vr_layD {X rows : va_W} {x : Nat × va_E} {pl : va_W} {A : Nat → Prop} (hD : va_D A (((X ++ pl) ++ [x]) ++ rows)) : va_D A ((X ++ [x]) ++ (pl ++ rows)) := by
  rw [List.append_assoc (X ++ pl)] at hD
  have h := va_D.swap hD
  rw [← List.append_assoc X] at h
  have h2 := va_D.swap h
  rw [List.append_assoc (X ++ [x])] at h2
  exact h2
theorem vr_outer (c : ClassId) (N h0 : Nat) : ∀ i : Nat, Jvm.Free.Multi.outerC c N h0 i = arrV c N (fun j => va_rf (if j < i then some (h0 + 1 + j) else none))
  | 0 => by
    show ({ cls := c, slots := Array.replicate N .null, vm := .none } : Cell) = _
    rw [arrV_new]
    refine congrArg (arrV c N) (funext fun j => ?_)
    simp [va_rf]
  | i + 1 => by
    show (Jvm.Free.Multi.outerC c N h0 i).setSlot i (.ref (h0 + 1 + i)) = _
    rw [vr_outer c N h0 i, arrV_store]
    refine congrArg (arrV c N) (funext fun j => ?_)
    by_cases e : j = i
    · subst e
      simp [updV, va_rf]
    · by_cases h : j < i
      · simp [updV, e, h, Nat.lt_succ_of_lt h]
      · simp [updV, e, h, show ¬ j < i + 1 by omega]
section VGM
variable {p : Program} {l : Launch} {e : Env} {R : Room} {s : State} {m : MethodId} {args : Array Value} {below : List Frame} {meth : Method} {c : Code} {H : Heap} {locs : List Loc} {cells slots : Nat} {Q : State → Prop}
variable {cc : ByteArray} {pc : Nat} {ls : Array Slot} {rest : List Value} {D : va_G} {cl : List vw_C} {A : Nat → Prop} {a : Nat} {tys : List (ClassId × FieldType)} {ws : va_W} {H0 : Heap}
theorem va_mna {X : va_W} {L : List Nat} {f : Nat → va_E} {cc : ByteArray} (hexec : p.tables.exec = Jvm.exec) (hb : c.code = cc) {own : String} {index : Nat} {ty : FieldType} {cy : ClassId} (hown : s.vm.findClass own = some m.cls) (hclink : (Cond.classLink own index ("[" ++ (FieldType.array ty).toString)).before args s = true) (hover : (Cond.arrayOver (.array ty)).before args s = true) (harr : (Cond.arrayClass ty).before args s = true) (hcy : s.vm.findClass (FieldType.array ty).toString = some cy)
    (hK : va_K D cl tys s) (hP : va_P D cl (X ++ va_pl L f) H) (hD : va_D A (X ++ va_pl L f)) (hS : va_S A H0 H locs) (hA : ∀ q, H0.size ≤ q → A q) {n k : Int32} {N' K' : Nat} {z : vp_A} (hn : ¬ n < 0) (hk : ¬ k < 0) (hN : n.toNatClampNeg = N') (hM : k.toNatClampNeg = K')
    (hb1 : N' * 4 ≤ 536870912) (hb2 : K' * componentBytes ty ≤ 536870912) (hb3 : K' ≤ 536870912) (hdf : fits ty (defaultValue ty) = true) (hdd : (defaultValue ty).isDefault = true) (hcells : cells + (1 + N') ≤ R.cells) (hslots : slots + (N' + N' * K') ≤ R.slots) (hz : ∀ c : ClassId, Jvm.Free.Multi.innerC c K' (defaultValue ty) = vp_cell c z) (hdg : decode cc pc = .ok (.multianewarray index 2, 4))
    (kk : ∀ (q : Nat) (r : Nat → Nat) (cA : ClassId) (H1 : Heap), (∀ i j : Nat, i < N' → j < N' → r i = r j → i = j) → (∀ i : Nat, i < N' → r i ∉ L) → va_K D cl (tys ++ [(cA, .array ty)]) s →
      va_P D cl ((X ++ [(q, .inl (cA, N', .inr (.inr (.inr (.inr (fun i => if i < N' then some (r i) else none))))))]) ++ va_pl (L ++ (List.range N').map r) (vr_up f ((List.range N').map r) (.inl (cy, z)))) H1 → va_D A ((X ++ [(q, .inl (cA, N', .inr (.inr (.inr (.inr (fun i => if i < N' then some (r i) else none))))))]) ++ va_pl (L ++ (List.range N').map r) (vr_up f ((List.range N').map r) (.inl (cy, z)))) → va_S A H0 H1 locs →
      W p l e R s m args below meth c H1 locs (cells + 1 + N') (slots + N' + N' * K') Q (F0 m (pc + 4) ls (.ref q :: rest))) : W p l e R s m args below meth c H locs cells slots Q (F0 m pc ls (.int k :: .int n :: rest)) := by
  subst hN
  subst hM
  intro T hT Xs
  obtain ⟨vm₁, cA, comp, -, fA, fC, hO, -, X', step⟩ := Xs.multianewarray2F hexec hown hclink hover harr (g := F0 m pc ls (.int k :: .int n :: rest)) rfl (by rw [hb]; exact hdg) rfl hn hk hb1 hb2 hb3 hdf hdd hcells hslots
  have ec : some cy = some comp := hcy.symm.trans fC
  cases ec
  generalize hF : Jvm.Free.Multi.fill (T.setVm vm₁) cA cy n.toNatClampNeg k.toNatClampNeg (defaultValue ty) n.toNatClampNeg = F at X' step
  have hTh : (T.setVm vm₁).heap = H := hT
  obtain ⟨f1, f2, -, -⟩ := Jvm.Free.Multi.fill_facts (T.setVm vm₁) cA cy n.toNatClampNeg k.toNatClampNeg (defaultValue ty) n.toNatClampNeg
  rw [hF, hTh] at f1 f2
  have hold : ∀ x : Nat, x < H.size → F.heap[x]? = H[x]? := fun x hx => by
    have := Jvm.Free.Multi.fill_old (T.setVm vm₁) cA cy n.toNatClampNeg k.toNatClampNeg (defaultValue ty) (a := x) (by rw [hTh]; exact hx) n.toNatClampNeg
    rw [hF, hTh] at this
    exact this
  have hrow : ∀ j : Nat, j < n.toNatClampNeg → F.heap[H.size + 1 + j]? = some (vp_cell cy z) := fun j hj => by
    have := Jvm.Free.Multi.fill_inner (T.setVm vm₁) cA cy n.toNatClampNeg k.toNatClampNeg (defaultValue ty) n.toNatClampNeg j hj
    rw [hF, hTh, hz] at this
    exact this
  have hout : Jvm.Free.Multi.outerC cA n.toNatClampNeg H.size n.toNatClampNeg = vp_cell cA (n.toNatClampNeg, .inr (.inr (.inr (.inr (fun i => if i < n.toNatClampNeg then some (H.size + 1 + i) else none))))) := by
    rw [vp_cell_q]
    exact vr_outer cA n.toNatClampNeg H.size n.toNatClampNeg
  rw [hout] at f2
  have hlt : ∀ a, a ∈ L → a < H.size := fun a ha => by
    obtain ⟨k9, hk9⟩ := va_pl_get (X := X) (f := f) ha
    exact (hP k9 _ hk9).lt
  have hnl : ∀ i : Nat, i < n.toNatClampNeg → H.size + 1 + i ∉ L := fun i _ h => by
    have := hlt _ h
    omega
  have hnm : ∀ a, a ∈ (List.range n.toNatClampNeg).map (fun i => H.size + 1 + i) → a ∉ L := fun a ha h => by
    obtain ⟨i, -, rfl⟩ := List.mem_map.mp ha
    have := hlt _ h
    omega
  have hP0 : va_P D cl (X ++ va_pl L f) F.heap := hP.kept (fun k9 x hx => hold x.1 ((hP k9 x hx).lt))
  have hP1 : va_P D cl ((X ++ va_pl L f) ++ [(H.size, .inl (cA, n.toNatClampNeg, .inr (.inr (.inr (.inr (fun i => if i < n.toNatClampNeg then some (H.size + 1 + i) else none))))))]) F.heap := hP0.app (fun k9 x hx => by
    have h0 : k9 < 1 := (List.getElem?_eq_some_iff.mp hx).1
    rw [show k9 = 0 by omega] at hx
    cases hx
    exact f2)
  have hP2 : va_P D cl (((X ++ va_pl L f) ++ [(H.size, .inl (cA, n.toNatClampNeg, .inr (.inr (.inr (.inr (fun i => if i < n.toNatClampNeg then some (H.size + 1 + i) else none))))))]) ++ ((List.range n.toNatClampNeg).map (fun i => H.size + 1 + i)).map (fun a => (a, .inl (cy, z)))) F.heap := hP1.app (fun k9 x hx => by
    obtain ⟨a, ha, rfl⟩ := List.mem_map.mp (List.mem_of_getElem? hx)
    obtain ⟨i, hi, rfl⟩ := List.mem_map.mp ha
    exact hrow i (List.mem_range.mp hi))
  have hD2 : va_D A (((X ++ va_pl L f) ++ [(H.size, .inl (cA, n.toNatClampNeg, .inr (.inr (.inr (.inr (fun i => if i < n.toNatClampNeg then some (H.size + 1 + i) else none))))))]) ++ ((List.range n.toNatClampNeg).map (fun i => H.size + 1 + i)).map (fun a => (a, .inl (cy, z)))) := by
    have hD1 := hD.push (e := .inl (cA, n.toNatClampNeg, .inr (.inr (.inr (.inr (fun i => if i < n.toNatClampNeg then some (H.size + 1 + i) else none)))))) hP rfl (hA _ hS.1)
    generalize hW1 : (X ++ va_pl L f) ++ [(H.size, .inl (cA, n.toNatClampNeg, .inr (.inr (.inr (.inr (fun i => if i < n.toNatClampNeg then some (H.size + 1 + i) else none))))))] = W1 at hD1 hP1 ⊢
    have hle : ∀ (k9 : Nat) (x : Nat × va_E), W1[k9]? = some x → x.1 ≤ H.size := fun k9 x hx => by
      rw [← hW1] at hx
      by_cases hl : k9 < (X ++ va_pl L f).length
      · rw [List.getElem?_append_left hl] at hx
        exact Nat.le_of_lt ((hP k9 x hx).lt)
      · rw [List.getElem?_append_right (by omega)] at hx
        have h0 : k9 - (X ++ va_pl L f).length < 1 := (List.getElem?_eq_some_iff.mp hx).1
        rw [show k9 - (X ++ va_pl L f).length = 0 by omega] at hx
        cases hx
        exact Nat.le_refl _
    have hr : ∀ (k9 : Nat) (x : Nat × va_E), (((List.range n.toNatClampNeg).map (fun i => H.size + 1 + i)).map (fun a => ((a, .inl (cy, z)) : Nat × va_E)))[k9]? = some x → x.1 = H.size + 1 + k9 := fun k9 x hx => by
      rw [List.getElem?_map, List.getElem?_map] at hx
      by_cases h9 : k9 < n.toNatClampNeg
      · rw [List.getElem?_range h9] at hx
        cases hx
        rfl
      · have hn0 : (List.range n.toNatClampNeg)[k9]? = none := List.getElem?_eq_none (by rw [List.length_range]; omega)
        rw [hn0] at hx
        cases hx
    refine ⟨fun i j x y hi hj hxy => ?_, fun k9 x hx => ?_⟩
    · by_cases h1 : i < W1.length <;> by_cases h2 : j < W1.length
      · rw [List.getElem?_append_left h1] at hi
        rw [List.getElem?_append_left h2] at hj
        exact hD1.1 i j x y hi hj hxy
      · rw [List.getElem?_append_left h1] at hi
        rw [List.getElem?_append_right (by omega)] at hj
        have := hle _ _ hi
        have := hr _ _ hj
        omega
      · rw [List.getElem?_append_right (by omega)] at hi
        rw [List.getElem?_append_left h2] at hj
        have := hle _ _ hj
        have := hr _ _ hi
        omega
      · rw [List.getElem?_append_right (by omega)] at hi hj
        have := hr _ _ hi
        have := hr _ _ hj
        omega
    · by_cases h1 : k9 < W1.length
      · rw [List.getElem?_append_left h1] at hx
        exact hD1.2 k9 x hx
      · rw [List.getElem?_append_right (by omega)] at hx
        have := hr _ _ hx
        exact hA _ (by have := hS.1; omega)
  have hAr : ArrOfT s cA (.array ty) := fun N9 z9 => by
    obtain ⟨-, k9, hk9, cm9, hkk9⟩ := (hO 0 0 0).1
    exact ⟨(fun q hq => by cases hq), k9, hk9, cm9, hkk9⟩
  have hK2 : va_K D cl (tys ++ [(cA, .array ty)]) s := ⟨hK.1, fun k9 x hx => by
    by_cases hl : k9 < tys.length
    · rw [List.getElem?_append_left hl] at hx
      exact hK.2 k9 x hx
    · rw [List.getElem?_append_right (by omega)] at hx
      have h0 : k9 - tys.length < 1 := (List.getElem?_eq_some_iff.mp hx).1
      rw [show k9 - tys.length = 0 by omega] at hx
      cases hx
      exact ⟨hAr, fA⟩⟩
  obtain ⟨t, a1, b1⟩ := kk H.size (fun i => H.size + 1 + i) cA F.heap (fun i j _ _ h => by have h9 : H.size + 1 + i = H.size + 1 + j := h; omega) hnl hK2 (by rw [← vr_rows hnm]; exact vr_lay hP2) (by rw [← vr_rows hnm]; exact vr_layD hD2) ⟨by rw [f1]; have := hS.1; omega, fun x h1 h2 => (hold x (Nat.lt_of_lt_of_le h1 hS.1)).trans (hS.2.1 x h1 h2), hS.2.2⟩ F rfl X'
  refine ⟨t, step t ?_, b1⟩
  have e : T.heap.size = H.size := by rw [hT]
  rw [e]
  exact a1
end VGM

theorem mm_mna {p : Program} {l : Launch} {e : Env} {R : Room} {s : State} {m : MethodId} {args : Array Value} {below : List Frame} {meth : Method} {c : Code} {H : Heap} {locs : List Loc} {cells slots : Nat} {Q : State → Prop} {cc : ByteArray} {pc : Nat} {ls : Array Slot} {rest : List Value} {D : va_G} {A : Nat → Prop} {cA : Nat → ClassId} {ws : va_W} {H0 : Heap} (hexec : p.tables.exec = Jvm.exec) (hb : c.code = cc) {own : String} {index : Nat} (hown : s.vm.findClass own = some m.cls) (hclink : (Cond.classLink own index "[[I").before args s = true) (hover : (Cond.arrayOver (.array .int)).before args s = true) (harr : (Cond.arrayClass .int).before args s = true)
    (hK : va_K D vwCl (mm_tys cA) s) (hP : va_P D vwCl ws H) (hD : va_D A ws) (hS : va_S A H0 H locs) (hA : ∀ q, H0.size ≤ q → A q) {n k : Int32} {N' K' : Nat} (hn : ¬ n < 0) (hk : ¬ k < 0) (hN : n.toNatClampNeg = N') (hM : k.toNatClampNeg = K') (hb1 : N' * 4 ≤ 536870912) (hb2 : K' * componentBytes .int ≤ 536870912) (hb3 : K' ≤ 536870912)
    (hcells : cells + (1 + N') ≤ R.cells) (hslots : slots + (N' + N' * K') ≤ R.slots) (hdg : decode cc pc = .ok (.multianewarray index 2, 4))
    (kk : ∀ (q : Nat) (r : Nat → Nat) (H1 : Heap), va_P D vwCl (ws ++ ((q, .inl (cA 4, N', .inr (.inr (.inr (.inr (fun i : Nat => if i < N' then some (r i) else none)))))) :: (List.range N').map fun i => (r i, .inl (cA 0, K', .inl fun _ => 0)))) H1 → va_D A (ws ++ ((q, .inl (cA 4, N', .inr (.inr (.inr (.inr (fun i : Nat => if i < N' then some (r i) else none)))))) :: (List.range N').map fun i => (r i, .inl (cA 0, K', .inl fun _ => 0)))) → va_S A H0 H1 locs →
      W p l e R s m args below meth c H1 locs (cells + 1 + N') (slots + N' + N' * K') Q (F0 m (pc + 4) ls (.ref q :: rest))) : W p l e R s m args below meth c H locs cells slots Q (F0 m pc ls (.int k :: .int n :: rest)) := by
  have h0 : ∀ f : Nat → va_E, ws ++ va_pl [] f = ws := fun f => List.append_nil _
  refine va_mna (X := ws) (L := []) (f := fun _ => .inr (0, [])) (cy := cA 0) (ty := .int) (z := (K', .inl fun _ => 0)) hexec hb hown hclink hover harr (hK.2 0 _ rfl).2 hK (by rw [h0]; exact hP) (by rw [h0]; exact hD) hS hA hn hk hN hM hb1 hb2 hb3 rfl rfl hcells hslots ?_ hdg ?_
  · intro c
    show ({ cls := c, slots := Array.replicate K' (.int 0), vm := .none } : Cell) = _
    rw [arrV_new]; rfl
  · intro q r cA' H1 hr1 hr2 hK' hP' hD' hS'
    have e1 : s.vm.findClass ("[" ++ (FieldType.array .int).toString) = some (cA 4) := (hK.2 4 _ rfl).2
    have e2 : s.vm.findClass ("[" ++ (FieldType.array .int).toString) = some cA' := (hK'.2 5 (cA', .array .int) rfl).2
    have e : cA' = cA 4 := Option.some.inj (e2.symm.trans e1)
    subst e
    rw [← vr_rows (fun a _ h => by cases h)] at hP' hD'
    have eq : ∀ x : Nat × va_E, (ws ++ [x]) ++ (va_pl [] (fun _ => (.inr (0, []) : va_E)) ++ ((List.range N').map r).map (fun a => ((a, .inl (cA 0, K', .inl fun _ => 0)) : Nat × va_E))) = ws ++ (x :: (List.range N').map fun i => (r i, .inl (cA 0, K', .inl fun _ => 0))) := by
      intro x
      rw [List.append_assoc, List.map_map]; rfl
    rw [eq] at hP' hD'
    exact kk q r H1 hP' hD' hS'
theorem mm_first2 {r : Nat → Nat} : (fun i : Nat => if i < 2 then some (r i) else none) = fun i : Nat => ([r 0, r 1] : List Nat)[i]? := funext fun i => by
  match i with
  | 0 => rfl
  | 1 => rfl
  | i + 2 => simp
theorem mm_first3 {r : Nat → Nat} : (fun i : Nat => if i < 3 then some (r i) else none) = fun i : Nat => ([r 0, r 1, r 2] : List Nat)[i]? := funext fun i => by
  match i with
  | 0 => rfl
  | 1 => rfl
  | 2 => rfl
  | i + 3 => simp
theorem mm_cc {α : Type} {a b : α} {l l' : List α} (h : a = b) (h2 : l = l') : a :: l = b :: l' := by rw [h, h2]
theorem mm_mapget {rf : List Nat} {f : Nat → Nat} : (fun i : Nat => (rf[i]?).map f) = fun i : Nat => (rf.map f)[i]? := funext fun i => List.getElem?_map.symm
theorem mm_c24 {ad : Nat → Nat} {cA : Nat → ClassId} {σ : mmS} {r reg n : Nat} {rf : List Nat} (h : mm_T[r]? = some (reg, 24, n, rf)) : mm_cell ad cA σ r = .inl (cA 4, n, .inr (.inr (.inr (.inr fun i : Nat => (rf.map ad)[i]?)))) := by
  unfold mm_cell
  rw [h]
  show Sum.inl (cA 4, n, Sum.inr (Sum.inr (Sum.inr (Sum.inr fun i : Nat => (rf[i]?).map ad)))) = _
  rw [mm_mapget]
def mm_pk (dC : Nat → ClassId) (dI : Nat → Nat → Nat) (cA : Nat → ClassId) (sz : Nat) (ws : va_W) (U : State) : Prop := U.heap.size = sz ∧ va_P (dC, dI) vwCl ws U.heap ∧ va_K (dC, dI) vwCl (mm_tys cA) U ∧ va_D (fun _ => True) ws ∧ mm_AO U
theorem mm_pk_blind {dC : Nat → ClassId} {dI : Nat → Nat → Nat} {cA : Nat → ClassId} {sz : Nat} {ws : va_W} {av : List Value} : FrameBlind (va_Pc av (mm_pk dC dI cA sz ws)) := by
  rintro a U g mk ⟨h0, h1, h2, h3, h4, h5⟩
  exact ⟨h0, h1, h2, va_K.moved (u := U) (U := U.calling g mk a) (Vm.Alike.refl U.vm) h3, h4, mm_AO.moved (u := U) (U := U.calling g mk a) (Vm.Alike.refl U.vm) h5⟩
theorem dq_3_0 : decode cX3_init 0 = .ok (.aload_n 0, 1) := by decide +kernel
theorem dq_3_1 : decode cX3_init 1 = .ok (.invokespecial 3, 3) := by decide +kernel
theorem dq_3_4 : decode cX3_init 4 = .ok (.aload_n 0, 1) := by decide +kernel
theorem dq_3_5 : decode cX3_init 5 = .ok (.iconst 2, 1) := by decide +kernel
theorem dq_3_6 : decode cX3_init 6 = .ok (.sipush 8192, 3) := by decide +kernel
theorem dq_3_9 : decode cX3_init 9 = .ok (.multianewarray 13 2, 4) := by decide +kernel
theorem dq_3_13 : decode cX3_init 13 = .ok (.putfield 15, 3) := by decide +kernel
theorem dq_3_16 : decode cX3_init 16 = .ok (.aload_n 0, 1) := by decide +kernel
theorem dq_3_17 : decode cX3_init 17 = .ok (.iconst 2, 1) := by decide +kernel
theorem dq_3_18 : decode cX3_init 18 = .ok (.sipush 8192, 3) := by decide +kernel
theorem dq_3_21 : decode cX3_init 21 = .ok (.multianewarray 13 2, 4) := by decide +kernel
theorem dq_3_25 : decode cX3_init 25 = .ok (.putfield 18, 3) := by decide +kernel
theorem dq_3_28 : decode cX3_init 28 = .ok (.aload_n 0, 1) := by decide +kernel
theorem dq_3_29 : decode cX3_init 29 = .ok (.iconst 3, 1) := by decide +kernel
theorem dq_3_30 : decode cX3_init 30 = .ok (.sipush 320, 3) := by decide +kernel
theorem dq_3_33 : decode cX3_init 33 = .ok (.multianewarray 13 2, 4) := by decide +kernel
theorem dq_3_37 : decode cX3_init 37 = .ok (.putfield 21, 3) := by decide +kernel
theorem dq_3_40 : decode cX3_init 40 = .ok (.aload_n 0, 1) := by decide +kernel
theorem dq_3_41 : decode cX3_init 41 = .ok (.sipush 320, 3) := by decide +kernel
theorem dq_3_44 : decode cX3_init 44 = .ok (.newarray .int, 2) := by decide +kernel
theorem dq_3_46 : decode cX3_init 46 = .ok (.putfield 24, 3) := by decide +kernel
theorem dq_3_49 : decode cX3_init 49 = .ok (.aload_n 0, 1) := by decide +kernel
theorem dq_3_50 : decode cX3_init 50 = .ok (.sipush 320, 3) := by decide +kernel
theorem dq_3_53 : decode cX3_init 53 = .ok (.newarray .int, 2) := by decide +kernel
theorem dq_3_55 : decode cX3_init 55 = .ok (.putfield 28, 3) := by decide +kernel
theorem dq_3_58 : decode cX3_init 58 = .ok (.aload_n 0, 1) := by decide +kernel
theorem dq_3_59 : decode cX3_init 59 = .ok (.sipush 320, 3) := by decide +kernel
theorem dq_3_62 : decode cX3_init 62 = .ok (.newarray .int, 2) := by decide +kernel
theorem dq_3_64 : decode cX3_init 64 = .ok (.putfield 31, 3) := by decide +kernel
theorem dq_3_67 : decode cX3_init 67 = .ok (.aload_n 0, 1) := by decide +kernel
theorem dq_3_68 : decode cX3_init 68 = .ok (.sipush 320, 3) := by decide +kernel
theorem dq_3_71 : decode cX3_init 71 = .ok (.newarray .int, 2) := by decide +kernel
theorem dq_3_73 : decode cX3_init 73 = .ok (.putfield 34, 3) := by decide +kernel
theorem dq_3_76 : decode cX3_init 76 = .ok (.aload_n 0, 1) := by decide +kernel
theorem dq_3_77 : decode cX3_init 77 = .ok (.aload_n 1, 1) := by decide +kernel
theorem dq_3_78 : decode cX3_init 78 = .ok (.putfield 37, 3) := by decide +kernel
theorem dq_3_81 : decode cX3_init 81 = .ok (.return_, 1) := by decide +kernel
abbrev w_init_3 (cA : Nat → ClassId) (h0 : Nat) (y0 : Nat) (u : Nat → Nat) : va_W := [(h0, .inr (3, [.ref y0, .int 0, .ref (u 1), .ref (u 4), .ref (u 7), .ref (u 11), .ref (u 12), .ref (u 13), .ref (u 14), .int 0, .int 0, .int 0, .int 0])), ((u 1), .inl (cA 4, 2, .inr (.inr (.inr (.inr (fun i : Nat => ([(u 2), (u 3)] : List Nat)[i]?)))))), ((u 2), .inl (cA 0, 8192, .inl (fun _ => 0))), ((u 3), .inl (cA 0, 8192, .inl (fun _ => 0))), ((u 4), .inl (cA 4, 2, .inr (.inr (.inr (.inr (fun i : Nat => ([(u 5), (u 6)] : List Nat)[i]?)))))), ((u 5), .inl (cA 0, 8192, .inl (fun _ => 0))), ((u 6), .inl (cA 0, 8192, .inl (fun _ => 0))), ((u 7), .inl (cA 4, 3, .inr (.inr (.inr (.inr (fun i : Nat => ([(u 8), (u 9), (u 10)] : List Nat)[i]?)))))), ((u 8), .inl (cA 0, 320, .inl (fun _ => 0))), ((u 9), .inl (cA 0, 320, .inl (fun _ => 0))), ((u 10), .inl (cA 0, 320, .inl (fun _ => 0))), ((u 11), .inl (cA 0, 320, .inl (fun _ => 0))), ((u 12), .inl (cA 0, 320, .inl (fun _ => 0))), ((u 13), .inl (cA 0, 320, .inl (fun _ => 0))), ((u 14), .inl (cA 0, 320, .inl (fun _ => 0)))]
set_option maxHeartbeats 4000000 in
set_option maxRecDepth 100000 in
theorem c_init_3 (l : Launch) (dC : Nat → ClassId) (dI : Nat → Nat → Nat) (cA : Nat → ClassId) (h0 : Nat) (sz : Nat) (y0 : Nat) : Met l yX3_init (Cond.code yX3_init cX3_init 2 none :: mm_ws) ({ frames := 1, cells := 14, slots := 35015, locals := 60 }) (va_Pc [.ref h0, .ref y0] (mm_pk dC dI cA sz [(h0, .inr (3, [.null, .int 0, .null, .null, .null, .null, .null, .null, .null, .int 0, .int 0, .int 0, .int 0]))])) (va_Qv (fun _ : Nat → Nat => True) (fun u t => va_P (dC, dI) vwCl (w_init_3 cA h0 y0 u) t.heap ∧ va_K (dC, dI) vwCl (mm_tys cA) t ∧ va_D (va_A [(h0, .inr (3, [.null, .int 0, .null, .null, .null, .null, .null, .null, .null, .int 0, .int 0, .int 0, .int 0]))] sz) (w_init_3 cA h0 y0 u)) (va_A [(h0, .inr (3, [.null, .int 0, .null, .null, .null, .null, .null, .null, .null, .int 0, .int 0, .int 0, .int 0]))] sz)) 14 35015 (va_A [(h0, .inr (3, [.null, .int 0, .null, .null, .null, .null, .null, .null, .null, .int 0, .int 0, .int 0, .int 0]))] sz) := by
  refine Met.ofW (cc := cX3_init) (maxL := 2) (ret := none) (by decide) rfl ?_
  intro p e s m args below meth c s₁ B hml hv
  obtain ⟨rfl, hsz, hP, hK, hD0, hAO⟩ := hv
  have hx := B.exec
  have hb := B.bytes
  have hr := B.returns
  have hts0 := atoms_spec (ws := Cond.code yX3_init cX3_init 2 none :: mm_ws) B.pre
  have hts : ∀ w ∈ mm_ws, w.before ([.ref h0, .ref y0].toArray) s = true := fun w hw => hts0 w (List.mem_cons_of_mem _ hw)
  have hown : s.vm.findClass RX3 = some m.cls := findClass_of_methodNamed B.named
  have hlocks := B.notSynchronized
  have hin : meth.name = "<init>" := (name_of_methodNamed B.named B.method).1
  subst hsz
  have hD := hD0.self (sz := s.heap.size)
  generalize hAe : va_A [(h0, .inr (3, [.null, .int 0, .null, .null, .null, .null, .null, .null, .null, .int 0, .int 0, .int 0, .int 0]))] s.heap.size = A at hD ⊢
  have hA : ∀ q : Nat, s.heap.size ≤ q → A q := fun q h => by rw [← hAe]; exact Or.inr h
  have hS : va_S A s.heap s.heap [] := va_S.rf
  have hP : va_P (dC, dI) vwCl [(h0, .inr (3, [.null, .int 0, .null, .null, .null, .null, .null, .null, .null, .int 0, .int 0, .int 0, .int 0]))] s.heap := hP
  have hl := lv_entry ([.ref h0, .ref y0]) (n := 2) (Nat.le_of_ble_eq_true rfl)
  rw [lg_entry_eq]
  generalize (lg_sl ([.ref h0, .ref y0]) ++ List.replicate (2 - (lg_sl ([.ref h0, .ref y0])).length) Slot.unset).toArray = ls at hl ⊢
  have hl : lv_has ls 2 [(0, .ref h0), (1, .ref y0)] := hl
  refine lv_aload_n hx hb dq_3_0 rfl (lv_at hl 0 rfl) ?_
  refine W.objInit hx hb hown (hts _ wq_ob_3) (hts _ wq_obi) (hts _ wq_obc) rfl (by rw [hml]; exact hl.1) rfl dq_3_1 (Nat.le_of_ble_eq_true rfl) (Nat.le_of_ble_eq_true rfl) ?_
  refine W.eq (g2 := F0 m 4 ls []) rfl ?_
  refine lv_aload_n hx hb dq_3_4 rfl (lv_at hl 0 rfl) ?_
  refine lv_iconst (v := 2) hx hb dq_3_5 (by decide) ?_
  refine lv_sipush (v := 8192) hx hb dq_3_6 (by decide) ?_
  refine mm_mna (N' := 2) (K' := 8192) hx hb hown (hts _ wq_cl2_13) hAO.use (hts _ wq_ac_int) hK hP hD hS hA (by decide) (by decide) (by decide) (by decide) (by decide) (by decide) (by decide) (Nat.le_of_ble_eq_true rfl) (Nat.le_of_ble_eq_true rfl) dq_3_9 (fun q9 r9 H hP hD hS => ?_)
  rw [mm_first2] at hP hD
  have hP : va_P (dC, dI) vwCl [(h0, .inr (3, [.null, .int 0, .null, .null, .null, .null, .null, .null, .null, .int 0, .int 0, .int 0, .int 0])), (q9, .inl (cA 4, 2, .inr (.inr (.inr (.inr (fun i : Nat => ([(r9 0), (r9 1)] : List Nat)[i]?)))))), ((r9 0), .inl (cA 0, 8192, .inl (fun _ => 0))), ((r9 1), .inl (cA 0, 8192, .inl (fun _ => 0)))] H := hP
  have hD : va_D A [(h0, .inr (3, [.null, .int 0, .null, .null, .null, .null, .null, .null, .null, .int 0, .int 0, .int 0, .int 0])), (q9, .inl (cA 4, 2, .inr (.inr (.inr (.inr (fun i : Nat => ([(r9 0), (r9 1)] : List Nat)[i]?)))))), ((r9 0), .inl (cA 0, 8192, .inl (fun _ => 0))), ((r9 1), .inl (cA 0, 8192, .inl (fun _ => 0)))] := hD
  refine W.widen (k := 3) (n := 16386) (by omega) (by omega) ?_
  refine va_putF (D := (dC, dI)) (ci := 3) (v := .ref q9) (ty := .array (.array .int)) (C := RX3) (T := TX3) (N := 13) hx hb hts mm_i3 tyX3 tyX3_ok nmX3 hown hK hP hD hS 0 rfl rfl 2 (by decide) (hts _ (mm_pF_ws (e := (3, 15, 3, 2, 1167)) (List.mem_of_getElem? (i := 83) rfl))) (fun _ h9 => h9) rfl hin rfl (by decide +kernel) rfl rfl (Nat.le_of_ble_eq_true rfl) dq_3_13 (fun H locs hP hD hS => ?_)
  have hP : va_P (dC, dI) vwCl [(h0, .inr (3, [.null, .int 0, .ref q9, .null, .null, .null, .null, .null, .null, .int 0, .int 0, .int 0, .int 0])), (q9, .inl (cA 4, 2, .inr (.inr (.inr (.inr (fun i : Nat => ([(r9 0), (r9 1)] : List Nat)[i]?)))))), ((r9 0), .inl (cA 0, 8192, .inl (fun _ => 0))), ((r9 1), .inl (cA 0, 8192, .inl (fun _ => 0)))] H := hP
  have hD : va_D A [(h0, .inr (3, [.null, .int 0, .ref q9, .null, .null, .null, .null, .null, .null, .int 0, .int 0, .int 0, .int 0])), (q9, .inl (cA 4, 2, .inr (.inr (.inr (.inr (fun i : Nat => ([(r9 0), (r9 1)] : List Nat)[i]?)))))), ((r9 0), .inl (cA 0, 8192, .inl (fun _ => 0))), ((r9 1), .inl (cA 0, 8192, .inl (fun _ => 0)))] := hD
  refine lv_aload_n hx hb dq_3_16 rfl (lv_at hl 0 rfl) ?_
  refine lv_iconst (v := 2) hx hb dq_3_17 (by decide) ?_
  refine lv_sipush (v := 8192) hx hb dq_3_18 (by decide) ?_
  refine mm_mna (N' := 2) (K' := 8192) hx hb hown (hts _ wq_cl2_13) hAO.use (hts _ wq_ac_int) hK hP hD hS hA (by decide) (by decide) (by decide) (by decide) (by decide) (by decide) (by decide) (Nat.le_of_ble_eq_true rfl) (Nat.le_of_ble_eq_true rfl) dq_3_21 (fun q21 r21 H hP hD hS => ?_)
  rw [mm_first2] at hP hD
  have hP : va_P (dC, dI) vwCl [(h0, .inr (3, [.null, .int 0, .ref q9, .null, .null, .null, .null, .null, .null, .int 0, .int 0, .int 0, .int 0])), (q9, .inl (cA 4, 2, .inr (.inr (.inr (.inr (fun i : Nat => ([(r9 0), (r9 1)] : List Nat)[i]?)))))), ((r9 0), .inl (cA 0, 8192, .inl (fun _ => 0))), ((r9 1), .inl (cA 0, 8192, .inl (fun _ => 0))), (q21, .inl (cA 4, 2, .inr (.inr (.inr (.inr (fun i : Nat => ([(r21 0), (r21 1)] : List Nat)[i]?)))))), ((r21 0), .inl (cA 0, 8192, .inl (fun _ => 0))), ((r21 1), .inl (cA 0, 8192, .inl (fun _ => 0)))] H := hP
  have hD : va_D A [(h0, .inr (3, [.null, .int 0, .ref q9, .null, .null, .null, .null, .null, .null, .int 0, .int 0, .int 0, .int 0])), (q9, .inl (cA 4, 2, .inr (.inr (.inr (.inr (fun i : Nat => ([(r9 0), (r9 1)] : List Nat)[i]?)))))), ((r9 0), .inl (cA 0, 8192, .inl (fun _ => 0))), ((r9 1), .inl (cA 0, 8192, .inl (fun _ => 0))), (q21, .inl (cA 4, 2, .inr (.inr (.inr (.inr (fun i : Nat => ([(r21 0), (r21 1)] : List Nat)[i]?)))))), ((r21 0), .inl (cA 0, 8192, .inl (fun _ => 0))), ((r21 1), .inl (cA 0, 8192, .inl (fun _ => 0)))] := hD
  refine W.widen (k := 6) (n := 32772) (by omega) (by omega) ?_
  refine va_putF (D := (dC, dI)) (ci := 3) (v := .ref q21) (ty := .array (.array .int)) (C := RX3) (T := TX3) (N := 13) hx hb hts mm_i3 tyX3 tyX3_ok nmX3 hown hK hP hD hS 0 rfl rfl 3 (by decide) (hts _ (mm_pF_ws (e := (3, 18, 3, 3, 1168)) (List.mem_of_getElem? (i := 84) rfl))) (fun _ h9 => h9) rfl hin rfl (by decide +kernel) rfl rfl (Nat.le_of_ble_eq_true rfl) dq_3_25 (fun H locs hP hD hS => ?_)
  have hP : va_P (dC, dI) vwCl [(h0, .inr (3, [.null, .int 0, .ref q9, .ref q21, .null, .null, .null, .null, .null, .int 0, .int 0, .int 0, .int 0])), (q9, .inl (cA 4, 2, .inr (.inr (.inr (.inr (fun i : Nat => ([(r9 0), (r9 1)] : List Nat)[i]?)))))), ((r9 0), .inl (cA 0, 8192, .inl (fun _ => 0))), ((r9 1), .inl (cA 0, 8192, .inl (fun _ => 0))), (q21, .inl (cA 4, 2, .inr (.inr (.inr (.inr (fun i : Nat => ([(r21 0), (r21 1)] : List Nat)[i]?)))))), ((r21 0), .inl (cA 0, 8192, .inl (fun _ => 0))), ((r21 1), .inl (cA 0, 8192, .inl (fun _ => 0)))] H := hP
  have hD : va_D A [(h0, .inr (3, [.null, .int 0, .ref q9, .ref q21, .null, .null, .null, .null, .null, .int 0, .int 0, .int 0, .int 0])), (q9, .inl (cA 4, 2, .inr (.inr (.inr (.inr (fun i : Nat => ([(r9 0), (r9 1)] : List Nat)[i]?)))))), ((r9 0), .inl (cA 0, 8192, .inl (fun _ => 0))), ((r9 1), .inl (cA 0, 8192, .inl (fun _ => 0))), (q21, .inl (cA 4, 2, .inr (.inr (.inr (.inr (fun i : Nat => ([(r21 0), (r21 1)] : List Nat)[i]?)))))), ((r21 0), .inl (cA 0, 8192, .inl (fun _ => 0))), ((r21 1), .inl (cA 0, 8192, .inl (fun _ => 0)))] := hD
  refine lv_aload_n hx hb dq_3_28 rfl (lv_at hl 0 rfl) ?_
  refine lv_iconst (v := 3) hx hb dq_3_29 (by decide) ?_
  refine lv_sipush (v := 320) hx hb dq_3_30 (by decide) ?_
  refine mm_mna (N' := 3) (K' := 320) hx hb hown (hts _ wq_cl2_13) hAO.use (hts _ wq_ac_int) hK hP hD hS hA (by decide) (by decide) (by decide) (by decide) (by decide) (by decide) (by decide) (Nat.le_of_ble_eq_true rfl) (Nat.le_of_ble_eq_true rfl) dq_3_33 (fun q33 r33 H hP hD hS => ?_)
  rw [mm_first3] at hP hD
  have hP : va_P (dC, dI) vwCl [(h0, .inr (3, [.null, .int 0, .ref q9, .ref q21, .null, .null, .null, .null, .null, .int 0, .int 0, .int 0, .int 0])), (q9, .inl (cA 4, 2, .inr (.inr (.inr (.inr (fun i : Nat => ([(r9 0), (r9 1)] : List Nat)[i]?)))))), ((r9 0), .inl (cA 0, 8192, .inl (fun _ => 0))), ((r9 1), .inl (cA 0, 8192, .inl (fun _ => 0))), (q21, .inl (cA 4, 2, .inr (.inr (.inr (.inr (fun i : Nat => ([(r21 0), (r21 1)] : List Nat)[i]?)))))), ((r21 0), .inl (cA 0, 8192, .inl (fun _ => 0))), ((r21 1), .inl (cA 0, 8192, .inl (fun _ => 0))), (q33, .inl (cA 4, 3, .inr (.inr (.inr (.inr (fun i : Nat => ([(r33 0), (r33 1), (r33 2)] : List Nat)[i]?)))))), ((r33 0), .inl (cA 0, 320, .inl (fun _ => 0))), ((r33 1), .inl (cA 0, 320, .inl (fun _ => 0))), ((r33 2), .inl (cA 0, 320, .inl (fun _ => 0)))] H := hP
  have hD : va_D A [(h0, .inr (3, [.null, .int 0, .ref q9, .ref q21, .null, .null, .null, .null, .null, .int 0, .int 0, .int 0, .int 0])), (q9, .inl (cA 4, 2, .inr (.inr (.inr (.inr (fun i : Nat => ([(r9 0), (r9 1)] : List Nat)[i]?)))))), ((r9 0), .inl (cA 0, 8192, .inl (fun _ => 0))), ((r9 1), .inl (cA 0, 8192, .inl (fun _ => 0))), (q21, .inl (cA 4, 2, .inr (.inr (.inr (.inr (fun i : Nat => ([(r21 0), (r21 1)] : List Nat)[i]?)))))), ((r21 0), .inl (cA 0, 8192, .inl (fun _ => 0))), ((r21 1), .inl (cA 0, 8192, .inl (fun _ => 0))), (q33, .inl (cA 4, 3, .inr (.inr (.inr (.inr (fun i : Nat => ([(r33 0), (r33 1), (r33 2)] : List Nat)[i]?)))))), ((r33 0), .inl (cA 0, 320, .inl (fun _ => 0))), ((r33 1), .inl (cA 0, 320, .inl (fun _ => 0))), ((r33 2), .inl (cA 0, 320, .inl (fun _ => 0)))] := hD
  refine W.widen (k := 10) (n := 33735) (by omega) (by omega) ?_
  refine va_putF (D := (dC, dI)) (ci := 3) (v := .ref q33) (ty := .array (.array .int)) (C := RX3) (T := TX3) (N := 13) hx hb hts mm_i3 tyX3 tyX3_ok nmX3 hown hK hP hD hS 0 rfl rfl 4 (by decide) (hts _ (mm_pF_ws (e := (3, 21, 3, 4, 1169)) (List.mem_of_getElem? (i := 85) rfl))) (fun _ h9 => h9) rfl hin rfl (by decide +kernel) rfl rfl (Nat.le_of_ble_eq_true rfl) dq_3_37 (fun H locs hP hD hS => ?_)
  have hP : va_P (dC, dI) vwCl [(h0, .inr (3, [.null, .int 0, .ref q9, .ref q21, .ref q33, .null, .null, .null, .null, .int 0, .int 0, .int 0, .int 0])), (q9, .inl (cA 4, 2, .inr (.inr (.inr (.inr (fun i : Nat => ([(r9 0), (r9 1)] : List Nat)[i]?)))))), ((r9 0), .inl (cA 0, 8192, .inl (fun _ => 0))), ((r9 1), .inl (cA 0, 8192, .inl (fun _ => 0))), (q21, .inl (cA 4, 2, .inr (.inr (.inr (.inr (fun i : Nat => ([(r21 0), (r21 1)] : List Nat)[i]?)))))), ((r21 0), .inl (cA 0, 8192, .inl (fun _ => 0))), ((r21 1), .inl (cA 0, 8192, .inl (fun _ => 0))), (q33, .inl (cA 4, 3, .inr (.inr (.inr (.inr (fun i : Nat => ([(r33 0), (r33 1), (r33 2)] : List Nat)[i]?)))))), ((r33 0), .inl (cA 0, 320, .inl (fun _ => 0))), ((r33 1), .inl (cA 0, 320, .inl (fun _ => 0))), ((r33 2), .inl (cA 0, 320, .inl (fun _ => 0)))] H := hP
  have hD : va_D A [(h0, .inr (3, [.null, .int 0, .ref q9, .ref q21, .ref q33, .null, .null, .null, .null, .int 0, .int 0, .int 0, .int 0])), (q9, .inl (cA 4, 2, .inr (.inr (.inr (.inr (fun i : Nat => ([(r9 0), (r9 1)] : List Nat)[i]?)))))), ((r9 0), .inl (cA 0, 8192, .inl (fun _ => 0))), ((r9 1), .inl (cA 0, 8192, .inl (fun _ => 0))), (q21, .inl (cA 4, 2, .inr (.inr (.inr (.inr (fun i : Nat => ([(r21 0), (r21 1)] : List Nat)[i]?)))))), ((r21 0), .inl (cA 0, 8192, .inl (fun _ => 0))), ((r21 1), .inl (cA 0, 8192, .inl (fun _ => 0))), (q33, .inl (cA 4, 3, .inr (.inr (.inr (.inr (fun i : Nat => ([(r33 0), (r33 1), (r33 2)] : List Nat)[i]?)))))), ((r33 0), .inl (cA 0, 320, .inl (fun _ => 0))), ((r33 1), .inl (cA 0, 320, .inl (fun _ => 0))), ((r33 2), .inl (cA 0, 320, .inl (fun _ => 0)))] := hD
  refine lv_aload_n hx hb dq_3_40 rfl (lv_at hl 0 rfl) ?_
  refine lv_sipush (v := 320) hx hb dq_3_41 (by decide) ?_
  refine mm_newa (N' := 320) 0 hx hb (hts _ wq_ac_int) rfl hK rfl (fun _ h => h) hP hD hS hA (a0 := (320, .inl (fun _ => 0))) (fun cA => rfl) (by decide) (by decide) (by decide) (Nat.le_of_ble_eq_true rfl) (Nat.le_of_ble_eq_true rfl) dq_3_44 (fun q44 H hP hD hS => ?_)
  have hP : va_P (dC, dI) vwCl [(h0, .inr (3, [.null, .int 0, .ref q9, .ref q21, .ref q33, .null, .null, .null, .null, .int 0, .int 0, .int 0, .int 0])), (q9, .inl (cA 4, 2, .inr (.inr (.inr (.inr (fun i : Nat => ([(r9 0), (r9 1)] : List Nat)[i]?)))))), ((r9 0), .inl (cA 0, 8192, .inl (fun _ => 0))), ((r9 1), .inl (cA 0, 8192, .inl (fun _ => 0))), (q21, .inl (cA 4, 2, .inr (.inr (.inr (.inr (fun i : Nat => ([(r21 0), (r21 1)] : List Nat)[i]?)))))), ((r21 0), .inl (cA 0, 8192, .inl (fun _ => 0))), ((r21 1), .inl (cA 0, 8192, .inl (fun _ => 0))), (q33, .inl (cA 4, 3, .inr (.inr (.inr (.inr (fun i : Nat => ([(r33 0), (r33 1), (r33 2)] : List Nat)[i]?)))))), ((r33 0), .inl (cA 0, 320, .inl (fun _ => 0))), ((r33 1), .inl (cA 0, 320, .inl (fun _ => 0))), ((r33 2), .inl (cA 0, 320, .inl (fun _ => 0))), (q44, .inl (cA 0, 320, .inl (fun _ => 0)))] H := hP
  have hD : va_D A [(h0, .inr (3, [.null, .int 0, .ref q9, .ref q21, .ref q33, .null, .null, .null, .null, .int 0, .int 0, .int 0, .int 0])), (q9, .inl (cA 4, 2, .inr (.inr (.inr (.inr (fun i : Nat => ([(r9 0), (r9 1)] : List Nat)[i]?)))))), ((r9 0), .inl (cA 0, 8192, .inl (fun _ => 0))), ((r9 1), .inl (cA 0, 8192, .inl (fun _ => 0))), (q21, .inl (cA 4, 2, .inr (.inr (.inr (.inr (fun i : Nat => ([(r21 0), (r21 1)] : List Nat)[i]?)))))), ((r21 0), .inl (cA 0, 8192, .inl (fun _ => 0))), ((r21 1), .inl (cA 0, 8192, .inl (fun _ => 0))), (q33, .inl (cA 4, 3, .inr (.inr (.inr (.inr (fun i : Nat => ([(r33 0), (r33 1), (r33 2)] : List Nat)[i]?)))))), ((r33 0), .inl (cA 0, 320, .inl (fun _ => 0))), ((r33 1), .inl (cA 0, 320, .inl (fun _ => 0))), ((r33 2), .inl (cA 0, 320, .inl (fun _ => 0))), (q44, .inl (cA 0, 320, .inl (fun _ => 0)))] := hD
  refine W.widen (k := 11) (n := 34055) (by omega) (by omega) ?_
  refine va_putF (D := (dC, dI)) (ci := 3) (v := .ref q44) (ty := .array .int) (C := RX3) (T := TX3) (N := 13) hx hb hts mm_i3 tyX3 tyX3_ok nmX3 hown hK hP hD hS 0 rfl rfl 5 (by decide) (hts _ (mm_pF_ws (e := (3, 24, 3, 5, 1170)) (List.mem_of_getElem? (i := 86) rfl))) (fun _ h9 => h9) rfl hin rfl (by decide +kernel) rfl rfl (Nat.le_of_ble_eq_true rfl) dq_3_46 (fun H locs hP hD hS => ?_)
  have hP : va_P (dC, dI) vwCl [(h0, .inr (3, [.null, .int 0, .ref q9, .ref q21, .ref q33, .ref q44, .null, .null, .null, .int 0, .int 0, .int 0, .int 0])), (q9, .inl (cA 4, 2, .inr (.inr (.inr (.inr (fun i : Nat => ([(r9 0), (r9 1)] : List Nat)[i]?)))))), ((r9 0), .inl (cA 0, 8192, .inl (fun _ => 0))), ((r9 1), .inl (cA 0, 8192, .inl (fun _ => 0))), (q21, .inl (cA 4, 2, .inr (.inr (.inr (.inr (fun i : Nat => ([(r21 0), (r21 1)] : List Nat)[i]?)))))), ((r21 0), .inl (cA 0, 8192, .inl (fun _ => 0))), ((r21 1), .inl (cA 0, 8192, .inl (fun _ => 0))), (q33, .inl (cA 4, 3, .inr (.inr (.inr (.inr (fun i : Nat => ([(r33 0), (r33 1), (r33 2)] : List Nat)[i]?)))))), ((r33 0), .inl (cA 0, 320, .inl (fun _ => 0))), ((r33 1), .inl (cA 0, 320, .inl (fun _ => 0))), ((r33 2), .inl (cA 0, 320, .inl (fun _ => 0))), (q44, .inl (cA 0, 320, .inl (fun _ => 0)))] H := hP
  have hD : va_D A [(h0, .inr (3, [.null, .int 0, .ref q9, .ref q21, .ref q33, .ref q44, .null, .null, .null, .int 0, .int 0, .int 0, .int 0])), (q9, .inl (cA 4, 2, .inr (.inr (.inr (.inr (fun i : Nat => ([(r9 0), (r9 1)] : List Nat)[i]?)))))), ((r9 0), .inl (cA 0, 8192, .inl (fun _ => 0))), ((r9 1), .inl (cA 0, 8192, .inl (fun _ => 0))), (q21, .inl (cA 4, 2, .inr (.inr (.inr (.inr (fun i : Nat => ([(r21 0), (r21 1)] : List Nat)[i]?)))))), ((r21 0), .inl (cA 0, 8192, .inl (fun _ => 0))), ((r21 1), .inl (cA 0, 8192, .inl (fun _ => 0))), (q33, .inl (cA 4, 3, .inr (.inr (.inr (.inr (fun i : Nat => ([(r33 0), (r33 1), (r33 2)] : List Nat)[i]?)))))), ((r33 0), .inl (cA 0, 320, .inl (fun _ => 0))), ((r33 1), .inl (cA 0, 320, .inl (fun _ => 0))), ((r33 2), .inl (cA 0, 320, .inl (fun _ => 0))), (q44, .inl (cA 0, 320, .inl (fun _ => 0)))] := hD
  refine lv_aload_n hx hb dq_3_49 rfl (lv_at hl 0 rfl) ?_
  refine lv_sipush (v := 320) hx hb dq_3_50 (by decide) ?_
  refine mm_newa (N' := 320) 0 hx hb (hts _ wq_ac_int) rfl hK rfl (fun _ h => h) hP hD hS hA (a0 := (320, .inl (fun _ => 0))) (fun cA => rfl) (by decide) (by decide) (by decide) (Nat.le_of_ble_eq_true rfl) (Nat.le_of_ble_eq_true rfl) dq_3_53 (fun q53 H hP hD hS => ?_)
  have hP : va_P (dC, dI) vwCl [(h0, .inr (3, [.null, .int 0, .ref q9, .ref q21, .ref q33, .ref q44, .null, .null, .null, .int 0, .int 0, .int 0, .int 0])), (q9, .inl (cA 4, 2, .inr (.inr (.inr (.inr (fun i : Nat => ([(r9 0), (r9 1)] : List Nat)[i]?)))))), ((r9 0), .inl (cA 0, 8192, .inl (fun _ => 0))), ((r9 1), .inl (cA 0, 8192, .inl (fun _ => 0))), (q21, .inl (cA 4, 2, .inr (.inr (.inr (.inr (fun i : Nat => ([(r21 0), (r21 1)] : List Nat)[i]?)))))), ((r21 0), .inl (cA 0, 8192, .inl (fun _ => 0))), ((r21 1), .inl (cA 0, 8192, .inl (fun _ => 0))), (q33, .inl (cA 4, 3, .inr (.inr (.inr (.inr (fun i : Nat => ([(r33 0), (r33 1), (r33 2)] : List Nat)[i]?)))))), ((r33 0), .inl (cA 0, 320, .inl (fun _ => 0))), ((r33 1), .inl (cA 0, 320, .inl (fun _ => 0))), ((r33 2), .inl (cA 0, 320, .inl (fun _ => 0))), (q44, .inl (cA 0, 320, .inl (fun _ => 0))), (q53, .inl (cA 0, 320, .inl (fun _ => 0)))] H := hP
  have hD : va_D A [(h0, .inr (3, [.null, .int 0, .ref q9, .ref q21, .ref q33, .ref q44, .null, .null, .null, .int 0, .int 0, .int 0, .int 0])), (q9, .inl (cA 4, 2, .inr (.inr (.inr (.inr (fun i : Nat => ([(r9 0), (r9 1)] : List Nat)[i]?)))))), ((r9 0), .inl (cA 0, 8192, .inl (fun _ => 0))), ((r9 1), .inl (cA 0, 8192, .inl (fun _ => 0))), (q21, .inl (cA 4, 2, .inr (.inr (.inr (.inr (fun i : Nat => ([(r21 0), (r21 1)] : List Nat)[i]?)))))), ((r21 0), .inl (cA 0, 8192, .inl (fun _ => 0))), ((r21 1), .inl (cA 0, 8192, .inl (fun _ => 0))), (q33, .inl (cA 4, 3, .inr (.inr (.inr (.inr (fun i : Nat => ([(r33 0), (r33 1), (r33 2)] : List Nat)[i]?)))))), ((r33 0), .inl (cA 0, 320, .inl (fun _ => 0))), ((r33 1), .inl (cA 0, 320, .inl (fun _ => 0))), ((r33 2), .inl (cA 0, 320, .inl (fun _ => 0))), (q44, .inl (cA 0, 320, .inl (fun _ => 0))), (q53, .inl (cA 0, 320, .inl (fun _ => 0)))] := hD
  refine W.widen (k := 12) (n := 34375) (by omega) (by omega) ?_
  refine va_putF (D := (dC, dI)) (ci := 3) (v := .ref q53) (ty := .array .int) (C := RX3) (T := TX3) (N := 13) hx hb hts mm_i3 tyX3 tyX3_ok nmX3 hown hK hP hD hS 0 rfl rfl 6 (by decide) (hts _ (mm_pF_ws (e := (3, 28, 3, 6, 1171)) (List.mem_of_getElem? (i := 87) rfl))) (fun _ h9 => h9) rfl hin rfl (by decide +kernel) rfl rfl (Nat.le_of_ble_eq_true rfl) dq_3_55 (fun H locs hP hD hS => ?_)
  have hP : va_P (dC, dI) vwCl [(h0, .inr (3, [.null, .int 0, .ref q9, .ref q21, .ref q33, .ref q44, .ref q53, .null, .null, .int 0, .int 0, .int 0, .int 0])), (q9, .inl (cA 4, 2, .inr (.inr (.inr (.inr (fun i : Nat => ([(r9 0), (r9 1)] : List Nat)[i]?)))))), ((r9 0), .inl (cA 0, 8192, .inl (fun _ => 0))), ((r9 1), .inl (cA 0, 8192, .inl (fun _ => 0))), (q21, .inl (cA 4, 2, .inr (.inr (.inr (.inr (fun i : Nat => ([(r21 0), (r21 1)] : List Nat)[i]?)))))), ((r21 0), .inl (cA 0, 8192, .inl (fun _ => 0))), ((r21 1), .inl (cA 0, 8192, .inl (fun _ => 0))), (q33, .inl (cA 4, 3, .inr (.inr (.inr (.inr (fun i : Nat => ([(r33 0), (r33 1), (r33 2)] : List Nat)[i]?)))))), ((r33 0), .inl (cA 0, 320, .inl (fun _ => 0))), ((r33 1), .inl (cA 0, 320, .inl (fun _ => 0))), ((r33 2), .inl (cA 0, 320, .inl (fun _ => 0))), (q44, .inl (cA 0, 320, .inl (fun _ => 0))), (q53, .inl (cA 0, 320, .inl (fun _ => 0)))] H := hP
  have hD : va_D A [(h0, .inr (3, [.null, .int 0, .ref q9, .ref q21, .ref q33, .ref q44, .ref q53, .null, .null, .int 0, .int 0, .int 0, .int 0])), (q9, .inl (cA 4, 2, .inr (.inr (.inr (.inr (fun i : Nat => ([(r9 0), (r9 1)] : List Nat)[i]?)))))), ((r9 0), .inl (cA 0, 8192, .inl (fun _ => 0))), ((r9 1), .inl (cA 0, 8192, .inl (fun _ => 0))), (q21, .inl (cA 4, 2, .inr (.inr (.inr (.inr (fun i : Nat => ([(r21 0), (r21 1)] : List Nat)[i]?)))))), ((r21 0), .inl (cA 0, 8192, .inl (fun _ => 0))), ((r21 1), .inl (cA 0, 8192, .inl (fun _ => 0))), (q33, .inl (cA 4, 3, .inr (.inr (.inr (.inr (fun i : Nat => ([(r33 0), (r33 1), (r33 2)] : List Nat)[i]?)))))), ((r33 0), .inl (cA 0, 320, .inl (fun _ => 0))), ((r33 1), .inl (cA 0, 320, .inl (fun _ => 0))), ((r33 2), .inl (cA 0, 320, .inl (fun _ => 0))), (q44, .inl (cA 0, 320, .inl (fun _ => 0))), (q53, .inl (cA 0, 320, .inl (fun _ => 0)))] := hD
  refine lv_aload_n hx hb dq_3_58 rfl (lv_at hl 0 rfl) ?_
  refine lv_sipush (v := 320) hx hb dq_3_59 (by decide) ?_
  refine mm_newa (N' := 320) 0 hx hb (hts _ wq_ac_int) rfl hK rfl (fun _ h => h) hP hD hS hA (a0 := (320, .inl (fun _ => 0))) (fun cA => rfl) (by decide) (by decide) (by decide) (Nat.le_of_ble_eq_true rfl) (Nat.le_of_ble_eq_true rfl) dq_3_62 (fun q62 H hP hD hS => ?_)
  have hP : va_P (dC, dI) vwCl [(h0, .inr (3, [.null, .int 0, .ref q9, .ref q21, .ref q33, .ref q44, .ref q53, .null, .null, .int 0, .int 0, .int 0, .int 0])), (q9, .inl (cA 4, 2, .inr (.inr (.inr (.inr (fun i : Nat => ([(r9 0), (r9 1)] : List Nat)[i]?)))))), ((r9 0), .inl (cA 0, 8192, .inl (fun _ => 0))), ((r9 1), .inl (cA 0, 8192, .inl (fun _ => 0))), (q21, .inl (cA 4, 2, .inr (.inr (.inr (.inr (fun i : Nat => ([(r21 0), (r21 1)] : List Nat)[i]?)))))), ((r21 0), .inl (cA 0, 8192, .inl (fun _ => 0))), ((r21 1), .inl (cA 0, 8192, .inl (fun _ => 0))), (q33, .inl (cA 4, 3, .inr (.inr (.inr (.inr (fun i : Nat => ([(r33 0), (r33 1), (r33 2)] : List Nat)[i]?)))))), ((r33 0), .inl (cA 0, 320, .inl (fun _ => 0))), ((r33 1), .inl (cA 0, 320, .inl (fun _ => 0))), ((r33 2), .inl (cA 0, 320, .inl (fun _ => 0))), (q44, .inl (cA 0, 320, .inl (fun _ => 0))), (q53, .inl (cA 0, 320, .inl (fun _ => 0))), (q62, .inl (cA 0, 320, .inl (fun _ => 0)))] H := hP
  have hD : va_D A [(h0, .inr (3, [.null, .int 0, .ref q9, .ref q21, .ref q33, .ref q44, .ref q53, .null, .null, .int 0, .int 0, .int 0, .int 0])), (q9, .inl (cA 4, 2, .inr (.inr (.inr (.inr (fun i : Nat => ([(r9 0), (r9 1)] : List Nat)[i]?)))))), ((r9 0), .inl (cA 0, 8192, .inl (fun _ => 0))), ((r9 1), .inl (cA 0, 8192, .inl (fun _ => 0))), (q21, .inl (cA 4, 2, .inr (.inr (.inr (.inr (fun i : Nat => ([(r21 0), (r21 1)] : List Nat)[i]?)))))), ((r21 0), .inl (cA 0, 8192, .inl (fun _ => 0))), ((r21 1), .inl (cA 0, 8192, .inl (fun _ => 0))), (q33, .inl (cA 4, 3, .inr (.inr (.inr (.inr (fun i : Nat => ([(r33 0), (r33 1), (r33 2)] : List Nat)[i]?)))))), ((r33 0), .inl (cA 0, 320, .inl (fun _ => 0))), ((r33 1), .inl (cA 0, 320, .inl (fun _ => 0))), ((r33 2), .inl (cA 0, 320, .inl (fun _ => 0))), (q44, .inl (cA 0, 320, .inl (fun _ => 0))), (q53, .inl (cA 0, 320, .inl (fun _ => 0))), (q62, .inl (cA 0, 320, .inl (fun _ => 0)))] := hD
  refine W.widen (k := 13) (n := 34695) (by omega) (by omega) ?_
  refine va_putF (D := (dC, dI)) (ci := 3) (v := .ref q62) (ty := .array .int) (C := RX3) (T := TX3) (N := 13) hx hb hts mm_i3 tyX3 tyX3_ok nmX3 hown hK hP hD hS 0 rfl rfl 7 (by decide) (hts _ (mm_pF_ws (e := (3, 31, 3, 7, 1172)) (List.mem_of_getElem? (i := 88) rfl))) (fun _ h9 => h9) rfl hin rfl (by decide +kernel) rfl rfl (Nat.le_of_ble_eq_true rfl) dq_3_64 (fun H locs hP hD hS => ?_)
  have hP : va_P (dC, dI) vwCl [(h0, .inr (3, [.null, .int 0, .ref q9, .ref q21, .ref q33, .ref q44, .ref q53, .ref q62, .null, .int 0, .int 0, .int 0, .int 0])), (q9, .inl (cA 4, 2, .inr (.inr (.inr (.inr (fun i : Nat => ([(r9 0), (r9 1)] : List Nat)[i]?)))))), ((r9 0), .inl (cA 0, 8192, .inl (fun _ => 0))), ((r9 1), .inl (cA 0, 8192, .inl (fun _ => 0))), (q21, .inl (cA 4, 2, .inr (.inr (.inr (.inr (fun i : Nat => ([(r21 0), (r21 1)] : List Nat)[i]?)))))), ((r21 0), .inl (cA 0, 8192, .inl (fun _ => 0))), ((r21 1), .inl (cA 0, 8192, .inl (fun _ => 0))), (q33, .inl (cA 4, 3, .inr (.inr (.inr (.inr (fun i : Nat => ([(r33 0), (r33 1), (r33 2)] : List Nat)[i]?)))))), ((r33 0), .inl (cA 0, 320, .inl (fun _ => 0))), ((r33 1), .inl (cA 0, 320, .inl (fun _ => 0))), ((r33 2), .inl (cA 0, 320, .inl (fun _ => 0))), (q44, .inl (cA 0, 320, .inl (fun _ => 0))), (q53, .inl (cA 0, 320, .inl (fun _ => 0))), (q62, .inl (cA 0, 320, .inl (fun _ => 0)))] H := hP
  have hD : va_D A [(h0, .inr (3, [.null, .int 0, .ref q9, .ref q21, .ref q33, .ref q44, .ref q53, .ref q62, .null, .int 0, .int 0, .int 0, .int 0])), (q9, .inl (cA 4, 2, .inr (.inr (.inr (.inr (fun i : Nat => ([(r9 0), (r9 1)] : List Nat)[i]?)))))), ((r9 0), .inl (cA 0, 8192, .inl (fun _ => 0))), ((r9 1), .inl (cA 0, 8192, .inl (fun _ => 0))), (q21, .inl (cA 4, 2, .inr (.inr (.inr (.inr (fun i : Nat => ([(r21 0), (r21 1)] : List Nat)[i]?)))))), ((r21 0), .inl (cA 0, 8192, .inl (fun _ => 0))), ((r21 1), .inl (cA 0, 8192, .inl (fun _ => 0))), (q33, .inl (cA 4, 3, .inr (.inr (.inr (.inr (fun i : Nat => ([(r33 0), (r33 1), (r33 2)] : List Nat)[i]?)))))), ((r33 0), .inl (cA 0, 320, .inl (fun _ => 0))), ((r33 1), .inl (cA 0, 320, .inl (fun _ => 0))), ((r33 2), .inl (cA 0, 320, .inl (fun _ => 0))), (q44, .inl (cA 0, 320, .inl (fun _ => 0))), (q53, .inl (cA 0, 320, .inl (fun _ => 0))), (q62, .inl (cA 0, 320, .inl (fun _ => 0)))] := hD
  refine lv_aload_n hx hb dq_3_67 rfl (lv_at hl 0 rfl) ?_
  refine lv_sipush (v := 320) hx hb dq_3_68 (by decide) ?_
  refine mm_newa (N' := 320) 0 hx hb (hts _ wq_ac_int) rfl hK rfl (fun _ h => h) hP hD hS hA (a0 := (320, .inl (fun _ => 0))) (fun cA => rfl) (by decide) (by decide) (by decide) (Nat.le_of_ble_eq_true rfl) (Nat.le_of_ble_eq_true rfl) dq_3_71 (fun q71 H hP hD hS => ?_)
  have hP : va_P (dC, dI) vwCl [(h0, .inr (3, [.null, .int 0, .ref q9, .ref q21, .ref q33, .ref q44, .ref q53, .ref q62, .null, .int 0, .int 0, .int 0, .int 0])), (q9, .inl (cA 4, 2, .inr (.inr (.inr (.inr (fun i : Nat => ([(r9 0), (r9 1)] : List Nat)[i]?)))))), ((r9 0), .inl (cA 0, 8192, .inl (fun _ => 0))), ((r9 1), .inl (cA 0, 8192, .inl (fun _ => 0))), (q21, .inl (cA 4, 2, .inr (.inr (.inr (.inr (fun i : Nat => ([(r21 0), (r21 1)] : List Nat)[i]?)))))), ((r21 0), .inl (cA 0, 8192, .inl (fun _ => 0))), ((r21 1), .inl (cA 0, 8192, .inl (fun _ => 0))), (q33, .inl (cA 4, 3, .inr (.inr (.inr (.inr (fun i : Nat => ([(r33 0), (r33 1), (r33 2)] : List Nat)[i]?)))))), ((r33 0), .inl (cA 0, 320, .inl (fun _ => 0))), ((r33 1), .inl (cA 0, 320, .inl (fun _ => 0))), ((r33 2), .inl (cA 0, 320, .inl (fun _ => 0))), (q44, .inl (cA 0, 320, .inl (fun _ => 0))), (q53, .inl (cA 0, 320, .inl (fun _ => 0))), (q62, .inl (cA 0, 320, .inl (fun _ => 0))), (q71, .inl (cA 0, 320, .inl (fun _ => 0)))] H := hP
  have hD : va_D A [(h0, .inr (3, [.null, .int 0, .ref q9, .ref q21, .ref q33, .ref q44, .ref q53, .ref q62, .null, .int 0, .int 0, .int 0, .int 0])), (q9, .inl (cA 4, 2, .inr (.inr (.inr (.inr (fun i : Nat => ([(r9 0), (r9 1)] : List Nat)[i]?)))))), ((r9 0), .inl (cA 0, 8192, .inl (fun _ => 0))), ((r9 1), .inl (cA 0, 8192, .inl (fun _ => 0))), (q21, .inl (cA 4, 2, .inr (.inr (.inr (.inr (fun i : Nat => ([(r21 0), (r21 1)] : List Nat)[i]?)))))), ((r21 0), .inl (cA 0, 8192, .inl (fun _ => 0))), ((r21 1), .inl (cA 0, 8192, .inl (fun _ => 0))), (q33, .inl (cA 4, 3, .inr (.inr (.inr (.inr (fun i : Nat => ([(r33 0), (r33 1), (r33 2)] : List Nat)[i]?)))))), ((r33 0), .inl (cA 0, 320, .inl (fun _ => 0))), ((r33 1), .inl (cA 0, 320, .inl (fun _ => 0))), ((r33 2), .inl (cA 0, 320, .inl (fun _ => 0))), (q44, .inl (cA 0, 320, .inl (fun _ => 0))), (q53, .inl (cA 0, 320, .inl (fun _ => 0))), (q62, .inl (cA 0, 320, .inl (fun _ => 0))), (q71, .inl (cA 0, 320, .inl (fun _ => 0)))] := hD
  refine W.widen (k := 14) (n := 35015) (by omega) (by omega) ?_
  refine va_putF (D := (dC, dI)) (ci := 3) (v := .ref q71) (ty := .array .int) (C := RX3) (T := TX3) (N := 13) hx hb hts mm_i3 tyX3 tyX3_ok nmX3 hown hK hP hD hS 0 rfl rfl 8 (by decide) (hts _ (mm_pF_ws (e := (3, 34, 3, 8, 1173)) (List.mem_of_getElem? (i := 89) rfl))) (fun _ h9 => h9) rfl hin rfl (by decide +kernel) rfl rfl (Nat.le_of_ble_eq_true rfl) dq_3_73 (fun H locs hP hD hS => ?_)
  have hP : va_P (dC, dI) vwCl [(h0, .inr (3, [.null, .int 0, .ref q9, .ref q21, .ref q33, .ref q44, .ref q53, .ref q62, .ref q71, .int 0, .int 0, .int 0, .int 0])), (q9, .inl (cA 4, 2, .inr (.inr (.inr (.inr (fun i : Nat => ([(r9 0), (r9 1)] : List Nat)[i]?)))))), ((r9 0), .inl (cA 0, 8192, .inl (fun _ => 0))), ((r9 1), .inl (cA 0, 8192, .inl (fun _ => 0))), (q21, .inl (cA 4, 2, .inr (.inr (.inr (.inr (fun i : Nat => ([(r21 0), (r21 1)] : List Nat)[i]?)))))), ((r21 0), .inl (cA 0, 8192, .inl (fun _ => 0))), ((r21 1), .inl (cA 0, 8192, .inl (fun _ => 0))), (q33, .inl (cA 4, 3, .inr (.inr (.inr (.inr (fun i : Nat => ([(r33 0), (r33 1), (r33 2)] : List Nat)[i]?)))))), ((r33 0), .inl (cA 0, 320, .inl (fun _ => 0))), ((r33 1), .inl (cA 0, 320, .inl (fun _ => 0))), ((r33 2), .inl (cA 0, 320, .inl (fun _ => 0))), (q44, .inl (cA 0, 320, .inl (fun _ => 0))), (q53, .inl (cA 0, 320, .inl (fun _ => 0))), (q62, .inl (cA 0, 320, .inl (fun _ => 0))), (q71, .inl (cA 0, 320, .inl (fun _ => 0)))] H := hP
  have hD : va_D A [(h0, .inr (3, [.null, .int 0, .ref q9, .ref q21, .ref q33, .ref q44, .ref q53, .ref q62, .ref q71, .int 0, .int 0, .int 0, .int 0])), (q9, .inl (cA 4, 2, .inr (.inr (.inr (.inr (fun i : Nat => ([(r9 0), (r9 1)] : List Nat)[i]?)))))), ((r9 0), .inl (cA 0, 8192, .inl (fun _ => 0))), ((r9 1), .inl (cA 0, 8192, .inl (fun _ => 0))), (q21, .inl (cA 4, 2, .inr (.inr (.inr (.inr (fun i : Nat => ([(r21 0), (r21 1)] : List Nat)[i]?)))))), ((r21 0), .inl (cA 0, 8192, .inl (fun _ => 0))), ((r21 1), .inl (cA 0, 8192, .inl (fun _ => 0))), (q33, .inl (cA 4, 3, .inr (.inr (.inr (.inr (fun i : Nat => ([(r33 0), (r33 1), (r33 2)] : List Nat)[i]?)))))), ((r33 0), .inl (cA 0, 320, .inl (fun _ => 0))), ((r33 1), .inl (cA 0, 320, .inl (fun _ => 0))), ((r33 2), .inl (cA 0, 320, .inl (fun _ => 0))), (q44, .inl (cA 0, 320, .inl (fun _ => 0))), (q53, .inl (cA 0, 320, .inl (fun _ => 0))), (q62, .inl (cA 0, 320, .inl (fun _ => 0))), (q71, .inl (cA 0, 320, .inl (fun _ => 0)))] := hD
  refine lv_aload_n hx hb dq_3_76 rfl (lv_at hl 0 rfl) ?_
  refine lv_aload_n hx hb dq_3_77 rfl (lv_at hl 1 rfl) ?_
  refine va_putF (D := (dC, dI)) (ci := 3) (v := .ref y0) (ty := .object "ThreeBreaths$Board") (C := RX3) (T := TX3) (N := 13) hx hb hts mm_i3 tyX3 tyX3_ok nmX3 hown hK hP hD hS 0 rfl rfl 0 (by decide) (hts _ (mm_pF_ws (e := (3, 37, 3, 0, 1165)) (List.mem_of_getElem? (i := 81) rfl))) (fun _ h9 => h9) rfl hin rfl (by decide +kernel) rfl rfl (Nat.le_of_ble_eq_true rfl) dq_3_78 (fun H locs hP hD hS => ?_)
  have hP : va_P (dC, dI) vwCl [(h0, .inr (3, [.ref y0, .int 0, .ref q9, .ref q21, .ref q33, .ref q44, .ref q53, .ref q62, .ref q71, .int 0, .int 0, .int 0, .int 0])), (q9, .inl (cA 4, 2, .inr (.inr (.inr (.inr (fun i : Nat => ([(r9 0), (r9 1)] : List Nat)[i]?)))))), ((r9 0), .inl (cA 0, 8192, .inl (fun _ => 0))), ((r9 1), .inl (cA 0, 8192, .inl (fun _ => 0))), (q21, .inl (cA 4, 2, .inr (.inr (.inr (.inr (fun i : Nat => ([(r21 0), (r21 1)] : List Nat)[i]?)))))), ((r21 0), .inl (cA 0, 8192, .inl (fun _ => 0))), ((r21 1), .inl (cA 0, 8192, .inl (fun _ => 0))), (q33, .inl (cA 4, 3, .inr (.inr (.inr (.inr (fun i : Nat => ([(r33 0), (r33 1), (r33 2)] : List Nat)[i]?)))))), ((r33 0), .inl (cA 0, 320, .inl (fun _ => 0))), ((r33 1), .inl (cA 0, 320, .inl (fun _ => 0))), ((r33 2), .inl (cA 0, 320, .inl (fun _ => 0))), (q44, .inl (cA 0, 320, .inl (fun _ => 0))), (q53, .inl (cA 0, 320, .inl (fun _ => 0))), (q62, .inl (cA 0, 320, .inl (fun _ => 0))), (q71, .inl (cA 0, 320, .inl (fun _ => 0)))] H := hP
  have hD : va_D A [(h0, .inr (3, [.ref y0, .int 0, .ref q9, .ref q21, .ref q33, .ref q44, .ref q53, .ref q62, .ref q71, .int 0, .int 0, .int 0, .int 0])), (q9, .inl (cA 4, 2, .inr (.inr (.inr (.inr (fun i : Nat => ([(r9 0), (r9 1)] : List Nat)[i]?)))))), ((r9 0), .inl (cA 0, 8192, .inl (fun _ => 0))), ((r9 1), .inl (cA 0, 8192, .inl (fun _ => 0))), (q21, .inl (cA 4, 2, .inr (.inr (.inr (.inr (fun i : Nat => ([(r21 0), (r21 1)] : List Nat)[i]?)))))), ((r21 0), .inl (cA 0, 8192, .inl (fun _ => 0))), ((r21 1), .inl (cA 0, 8192, .inl (fun _ => 0))), (q33, .inl (cA 4, 3, .inr (.inr (.inr (.inr (fun i : Nat => ([(r33 0), (r33 1), (r33 2)] : List Nat)[i]?)))))), ((r33 0), .inl (cA 0, 320, .inl (fun _ => 0))), ((r33 1), .inl (cA 0, 320, .inl (fun _ => 0))), ((r33 2), .inl (cA 0, 320, .inl (fun _ => 0))), (q44, .inl (cA 0, 320, .inl (fun _ => 0))), (q53, .inl (cA 0, 320, .inl (fun _ => 0))), (q62, .inl (cA 0, 320, .inl (fun _ => 0))), (q71, .inl (cA 0, 320, .inl (fun _ => 0)))] := hD
  have hP9 := hP.sub (ws' := w_init_3 cA h0 y0 (fun j => [h0, q9, (r9 0), (r9 1), q21, (r21 0), (r21 1), q33, (r33 0), (r33 1), (r33 2), q44, q53, q62, q71].getD j 0)) [0, 1, 2, 3, 4, 5, 6, 7, 8, 9, 10, 11, 12, 13, 14] rfl
  have hD9 := hD.sub (ws' := w_init_3 cA h0 y0 (fun j => [h0, q9, (r9 0), (r9 1), q21, (r21 0), (r21 1), q33, (r33 0), (r33 1), (r33 2), q44, q53, q62, q71].getD j 0)) [0, 1, 2, 3, 4, 5, 6, 7, 8, 9, 10, 11, 12, 13, 14] (by decide) rfl
  refine W.widen (k := 14) (n := 35015) (by omega) (by omega) ?_
  exact W.vret hx hb hr (fun t ht hW => ⟨⟨(fun j => [h0, q9, (r9 0), (r9 1), q21, (r21 0), (r21 1), q33, (r33 0), (r33 1), (r33 2), q44, q53, q62, q71].getD j 0), rfl, trivial, by rw [ht]; exact hP9, va_K.moved hW.alike hK, hD9⟩, hS.F ht⟩) hS.2.2 dq_3_81
