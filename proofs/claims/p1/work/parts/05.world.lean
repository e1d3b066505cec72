/-! the machine's memory over the heap: each cell at an address; what the rows of the kit say of it -/
def mm_tr (ad : Nat → Nat) (v : Value) : Value := match v with
  | .ref r => .ref (ad r)
  | v => v
def mm_val (ad : Nat → Nat) (σ : mmS) (r k c : Nat) (rf : List Nat) : Value := match c with
  | 0 => .int (σ.2.1 r k)
  | 1 => .long (σ.2.2 r k)
  | 2 => .ref (ad (rf.getD k 0))
  | 3 => .ref (ad (mm_ck σ.1.2.2.2.1 0))
  | 4 => .ref (ad (mm_ck σ.1.2.2.2.2.1 0))
  | _ => match mm_lv σ.1 (k - 3) with
    | true => .ref (ad (rf.getD k 0))
    | false => .null
def mm_fs (ad : Nat → Nat) (σ : mmS) (r kd : Nat) (rf : List Nat) : List Value := (List.range (mm_F.getD kd []).length).map fun k => mm_val ad σ r k ((mm_F.getD kd []).getD k 0) rf
def mm_cell (ad : Nat → Nat) (cA : Nat → ClassId) (σ : mmS) (r : Nat) : va_E := match mm_T[r]? with
  | some (_, kd, n, rf) => match Nat.blt kd 20 with
    | true => .inr (kd, mm_fs ad σ r kd rf)
    | false => match kd with
      | 20 => .inl (cA 0, n, .inl (σ.2.1 r))
      | 21 => .inl (cA 1, n, .inr (.inl (σ.2.2 r)))
      | 22 => .inl (cA 2, n, .inl (σ.2.1 r))
      | 23 => .inl (cA 3, n, .inl (σ.2.1 r))
      | _ => .inl (cA 4, n, .inr (.inr (.inr (.inr fun i => (rf[i]?).map ad))))
  | none => .inr (0, [])
/-- is the cell in the world -/
def mm_in (g : mmG) (r : Nat) : Bool := match mm_T[r]? with
  | some (reg, kd, _, _) => Nat.blt kd 30 && mm_lv g reg
  | none => false
def mm_ix (g : mmG) : List Nat := (List.range 115).filter (mm_in g)
def mm_W (ad : Nat → Nat) (cA : Nat → ClassId) (σ : mmS) : va_W := (mm_ix σ.1).map fun r => (ad r, mm_cell ad cA σ r)
theorem mm_T_len : mm_T.length = 115 := by decide +kernel
theorem mm_ix_mem {g : mmG} {r : Nat} (h : mm_in g r = true) : ∃ q : Nat, (mm_ix g)[q]? = some r := by
  have hr : r < 115 := by
    unfold mm_in at h
    cases e : mm_T[r]? with
    | none => rw [e] at h; cases h
    | some x =>
      have := (List.getElem?_eq_some_iff.mp e).1
      rw [mm_T_len] at this; exact this
  exact List.getElem?_of_mem (List.mem_filter.mpr ⟨List.mem_range.mpr hr, h⟩)
theorem mm_W_get {ad : Nat → Nat} {cA : Nat → ClassId} {σ : mmS} {r : Nat} (h : mm_in σ.1 r = true) : ∃ q : Nat, (mm_ix σ.1)[q]? = some r ∧ (mm_W ad cA σ)[q]? = some (ad r, mm_cell ad cA σ r) := by
  obtain ⟨q, hq⟩ := mm_ix_mem h
  exact ⟨q, hq, by unfold mm_W; rw [List.getElem?_map, hq]; rfl⟩
/-- one cell of the world written -/
theorem mm_W_set {ad : Nat → Nat} {cA : Nat → ClassId} {σ τ : mmS} {r q : Nat} {A : Nat → Prop} (hg : mm_ix τ.1 = mm_ix σ.1) (hD : va_D A (mm_W ad cA σ)) (hq : (mm_ix σ.1)[q]? = some r) {e : va_E} (he : mm_cell ad cA τ r = e) (ho : ∀ j, j ≠ r → mm_cell ad cA τ j = mm_cell ad cA σ j) :
    (mm_W ad cA σ).set q (ad r, e) = mm_W ad cA τ := by
  have key : ∀ i x, (mm_ix σ.1)[i]? = some x → (mm_W ad cA σ)[i]? = some (ad x, mm_cell ad cA σ x) := fun i x h => by unfold mm_W; rw [List.getElem?_map, h]; rfl
  apply List.ext_getElem?
  intro i
  rw [List.getElem?_set]
  have hr : (mm_W ad cA τ)[i]? = ((mm_ix σ.1)[i]?).map fun r => (ad r, mm_cell ad cA τ r) := by unfold mm_W; rw [List.getElem?_map, hg]
  rw [hr]
  by_cases hi : q = i
  · subst hi
    have hlt : q < (mm_W ad cA σ).length := (List.getElem?_eq_some_iff.mp (key q r hq)).1
    rw [if_pos rfl, if_pos hlt, hq, ← he]; rfl
  · rw [if_neg hi]
    cases hx : (mm_ix σ.1)[i]? with
    | none => unfold mm_W; rw [List.getElem?_map, hx]; rfl
    | some x =>
      rw [key i x hx]
      have hne : x ≠ r := by
        intro h; subst h
        exact hi (hD.1 q i _ _ (key q x hq) (key i x hx) rfl)
      show some (ad x, mm_cell ad cA σ x) = some (ad x, mm_cell ad cA τ x)
      rw [ho x hne]
theorem mm_lr_tr_int (ad : Nat → Nat) (x : Int32) : mm_tr ad (.int x) = .int x := rfl
/-- locals -/
def mm_lr (ad : Nat → Nat) (lsA : Array Slot) (ls : mmL) : Prop := lsA.size = ls.length ∧ lv_wf lsA ∧ ∀ (i : Nat) (v : Value), ls[i]? = some (some v) → lsA[i]? = some (.val (mm_tr ad v))
/-- the locals as the kit's rows have them -/
def mm_lvs (ad : Nat → Nat) (ls : mmL) : List (Nat × Value) := (List.range ls.length).filterMap fun i => match ls[i]? with
  | some (some v) => some (i, mm_tr ad v)
  | _ => none
theorem mm_lvs_mem {ad : Nat → Nat} {ls : mmL} {q : Nat × Value} : q ∈ mm_lvs ad ls ↔ ∃ v, ls[q.1]? = some (some v) ∧ q.2 = mm_tr ad v := by
  unfold mm_lvs
  rw [List.mem_filterMap]
  constructor
  · rintro ⟨i, hi, h⟩
    split at h
    · rename_i v hv
      cases h
      exact ⟨v, hv, rfl⟩
    · cases h
  · rintro ⟨v, h1, h2⟩
    refine ⟨q.1, List.mem_range.mpr (List.getElem?_eq_some_iff.mp h1).1, ?_⟩
    rw [h1]
    show some (q.1, mm_tr ad v) = some q
    rw [← h2]
theorem mm_lr.has {ad : Nat → Nat} {lsA : Array Slot} {ls : mmL} (h : mm_lr ad lsA ls) : lv_has lsA ls.length (mm_lvs ad ls) := ⟨h.1, h.2.1, fun q hq => by
  obtain ⟨v, h1, h2⟩ := mm_lvs_mem.mp hq
  rw [h2]; exact h.2.2 _ _ h1⟩
theorem mm_tr_cat (ad : Nat → Nat) (v : Value) : (mm_tr ad v).category = v.category := by cases v <;> rfl
theorem mm_kill_len (ls : mmL) (n : Nat) : (mm_kill ls n).length = ls.length := by
  unfold mm_kill; split
  · rfl
  · split
    · exact List.length_set
    · exact List.length_set
    · rfl
/-- what is left of a local behind a store at n -/
theorem mm_kill_get {ls : mmL} {n i : Nat} {v : Value} (h : (mm_kill ls n)[i]? = some (some v)) : ls[i]? = some (some v) ∧ ¬ (i + 1 = n ∧ v.category = 2) := by
  unfold mm_kill at h
  split at h
  · exact ⟨h, fun q => by omega⟩
  · rename_i m
    split at h
    · rename_i x hx
      rw [List.getElem?_set] at h
      by_cases hm : m = i
      · subst hm
        rw [if_pos rfl, if_pos (List.getElem?_eq_some_iff.mp hx).1] at h
        cases h
      · rw [if_neg hm] at h
        exact ⟨h, fun q => hm (by omega)⟩
    · rename_i x hx
      rw [List.getElem?_set] at h
      by_cases hm : m = i
      · subst hm
        rw [if_pos rfl, if_pos (List.getElem?_eq_some_iff.mp hx).1] at h
        cases h
      · rw [if_neg hm] at h
        exact ⟨h, fun q => hm (by omega)⟩
    · rename_i hx hy
      refine ⟨h, fun q => ?_⟩
      have hi : i = m := by omega
      subst hi
      cases v <;> first | (simp [Value.category] at q; done) | exact hx _ h | exact hy _ h
/-- a store of one word -/
theorem mm_lr.st1 {ad : Nat → Nat} {lsA : Array Slot} {ls : mmL} {n : Nat} {v : Value} (hn : n < ls.length) (h : lv_has lsA ls.length ((n, mm_tr ad v) :: (mm_lvs ad ls).filter (fun q => !(q.1 == n) && !(q.1 + 1 == n && q.2.category == 2)))) : mm_lr ad lsA ((mm_kill ls n).set n (some v)) := by
  refine ⟨by rw [List.length_set, mm_kill_len]; exact h.1, h.2.1, fun i u hu => ?_⟩
  rw [List.getElem?_set] at hu
  by_cases hi : n = i
  · subst hi
    rw [if_pos rfl, mm_kill_len, if_pos hn] at hu
    cases hu
    exact h.2.2 (n, mm_tr ad v) List.mem_cons_self
  · rw [if_neg hi] at hu
    obtain ⟨h1, h2⟩ := mm_kill_get hu
    refine h.2.2 (i, mm_tr ad u) (List.mem_cons_of_mem _ (List.mem_filter.mpr ⟨mm_lvs_mem.mpr ⟨u, h1, rfl⟩, ?_⟩))
    have e1 : (i == n) = false := by simpa using fun q => hi q.symm
    have e2 : (i + 1 == n && (mm_tr ad u).category == 2) = false := by
      rw [mm_tr_cat]
      by_cases q1 : i + 1 = n
      · have q2 : ¬ u.category = 2 := fun q => h2 ⟨q1, q⟩
        simp [q2]
      · simp [q1]
    show (!(i == n) && !(i + 1 == n && (mm_tr ad u).category == 2)) = true
    rw [e1, e2]; rfl
/-- a store of two words -/
theorem mm_lr.st2 {ad : Nat → Nat} {lsA : Array Slot} {ls : mmL} {n : Nat} {v : Value} (hn : n + 1 < ls.length) (h : lv_has lsA ls.length ((n, mm_tr ad v) :: (mm_lvs ad ls).filter (fun q => !(q.1 == n) && (!(q.1 == n + 1) && !(q.1 + 1 == n && q.2.category == 2))))) : mm_lr ad lsA (((mm_kill ls n).set n (some v)).set (n + 1) none) := by
  refine ⟨by rw [List.length_set, List.length_set, mm_kill_len]; exact h.1, h.2.1, fun i u hu => ?_⟩
  rw [List.getElem?_set] at hu
  by_cases hj : n + 1 = i
  · subst hj
    rw [if_pos rfl, List.length_set, mm_kill_len, if_pos hn] at hu
    cases hu
  · rw [if_neg hj, List.getElem?_set] at hu
    by_cases hi : n = i
    · subst hi
      rw [if_pos rfl, mm_kill_len, if_pos (by omega)] at hu
      cases hu
      exact h.2.2 (n, mm_tr ad v) List.mem_cons_self
    · rw [if_neg hi] at hu
      obtain ⟨h1, h2⟩ := mm_kill_get hu
      refine h.2.2 (i, mm_tr ad u) (List.mem_cons_of_mem _ (List.mem_filter.mpr ⟨mm_lvs_mem.mpr ⟨u, h1, rfl⟩, ?_⟩))
      have e1 : (i == n) = false := by simpa using fun q => hi q.symm
      have e3 : (i == n + 1) = false := by simpa using fun q => hj q.symm
      have e2 : (i + 1 == n && (mm_tr ad u).category == 2) = false := by
        rw [mm_tr_cat]
        by_cases q1 : i + 1 = n
        · have q2 : ¬ u.category = 2 := fun q => h2 ⟨q1, q⟩
          simp [q2]
        · simp [q1]
      show (!(i == n) && (!(i == n + 1) && !(i + 1 == n && (mm_tr ad u).category == 2))) = true
      rw [e1, e2, e3]; rfl
theorem mm_mask_get : ∀ {m : List Bool} {ls : mmL} {i : Nat} {v : Value}, (mm_mask m ls)[i]? = some (some v) → ls[i]? = some (some v)
  | true :: m, w :: ls, 0, v, h => h
  | true :: m, w :: ls, i + 1, v, h => by
    rw [List.getElem?_cons_succ]
    exact mm_mask_get (m := m) (by simpa [mm_mask] using h)
  | false :: m, w :: ls, 0, v, h => by simp [mm_mask] at h
  | false :: m, w :: ls, i + 1, v, h => by
    rw [List.getElem?_cons_succ]
    exact mm_mask_get (m := m) (by simpa [mm_mask] using h)
  | [], ls, i, v, h => by simpa [mm_mask] using h
  | true :: m, [], i, v, h => by simp [mm_mask] at h
  | false :: m, [], i, v, h => by simp [mm_mask] at h
theorem mm_mask_len : ∀ (m : List Bool) (ls : mmL), (mm_mask m ls).length = ls.length
  | true :: m, w :: ls => by simp [mm_mask, mm_mask_len m ls]
  | false :: m, w :: ls => by simp [mm_mask, mm_mask_len m ls]
  | [], ls => by simp [mm_mask]
  | true :: m, [] => by simp [mm_mask]
  | false :: m, [] => by simp [mm_mask]
theorem mm_lr.mask {ad : Nat → Nat} {lsA : Array Slot} {ls : mmL} (m : List Bool) (h : mm_lr ad lsA ls) : mm_lr ad lsA (mm_mask m ls) :=
  ⟨by rw [mm_mask_len]; exact h.1, h.2.1, fun i v hv => h.2.2 i v (mm_mask_get hv)⟩
