/-! each instruction of the small machine is one of the real one's -/
def mm_tys (cA : Nat → ClassId) : List (ClassId × FieldType) := [(cA 0, .int), (cA 1, .long), (cA 2, .byte), (cA 3, .boolean), (cA 4, .array .int)]
def mm_wx : List Int32 := [1, 2, 1, 1, 0, -1, -1, -2, -1, -2, -1, -1, 0, 1, 1, 2]
def mm_wy : List Int32 := [0, 1, 1, 2, 1, 2, 1, 1, 0, -1, -1, -2, -1, -2, -1, -1]
/-- the String constants: their lengths, their letters -/
def mm_txt : List String := ["cake", "near", "wax", "candle", "place", "spot", "person", "shaky", "left", "none", "at", "plain", "tall", "again", "trick", "reach", "spread"]
def mm_sl : List Nat := [4, 4, 3, 6, 5, 4, 6, 5, 4, 4, 2, 5, 4, 5, 5, 5, 6]
def mm_sb : List (List Int32) := [[99, 97, 107, 101], [110, 101, 97, 114], [119, 97, 120], [99, 97, 110, 100, 108, 101], [112, 108, 97, 99, 101], [115, 112, 111, 116], [112, 101, 114, 115, 111, 110], [115, 104, 97, 107, 121], [108, 101, 102, 116], [110, 111, 110, 101], [97, 116], [112, 108, 97, 105, 110], [116, 97, 108, 108], [97, 103, 97, 105, 110], [116, 114, 105, 99, 107], [114, 101, 97, 99, 104], [115, 112, 114, 101, 97, 100]]
/-- static fields: owner, entry, cell, name -/
def mm_pG : List (Nat × Nat × Nat × String) := [(0, 103, 66, "WAY_X"), (0, 106, 67, "WAY_Y")]
/-- what lies outside the world and stays: the two static arrays, the script, the String constants, the links between nest mates -/
def mm_env (ad adV : Nat → Nat) (A : Nat → Prop) (L : Nat) (xs : Nat → Int32) (U : State) : Prop :=
  (va_Z RX9 "WAY_X" "[I" (.ref (ad 66)) A U U.heap ∧ va_Z RX9 "WAY_Y" "[I" (.ref (ad 67)) A U U.heap ∧ va_T .int (ad 66) 16 (fun j => .int (mm_wx.getD j 0)) A U U.heap ∧ va_T .int (ad 67) 16 (fun j => .int (mm_wy.getD j 0)) A U U.heap) ∧
  (va_X (ad 68) L xs U U.heap ∧ ad 68 < U.heap.size ∧ ¬ A (ad 68)) ∧ (vk_S 17 mm_sl mm_sb (fun i => ad (98 + i)) adV A U U.heap ∧ va_Z "java/lang/String" "COMPACT_STRINGS" "Z" (.int 1) A U U.heap ∧ va_Zq "jdk/internal/util/Preconditions" "SIOOBE_FORMATTER" "Ljava/util/function/BiFunction;" A U U.heap ∧ vx_Zq Bundle.tN "UNASSIGNED_STACK" Bundle.steD A U U.heap ∧ vx_Zq Bundle.tN "SUPPRESSED_SENTINEL" Bundle.listD A U U.heap ∧ mm_thr U) ∧ (∀ e ∈ mm_pS, vk_R (mm_nm e.1) e.2.1 (mm_txt.getD (e.2.2.1 - 98) "") (ad e.2.2.1) U) ∧
  (∀ e ∈ mm_pN, va_Nw (mm_pNw e) U) ∧ ∀ e ∈ mm_pG, va_Nw (.fieldLinkNest (mm_nm e.1) e.2.1 RX9 e.2.2.2 "[I" RX9) U
/-- what holds all through a method -/
def mm_c (p : Program) (s : State) (m : MethodId) (args : Array Value) (c : Code) (own : Nat) (cc : ByteArray) (D : va_G) (cA : Nat → ClassId) (ad adV : Nat → Nat) (A : Nat → Prop) (L : Nat) (xs : Nat → Int32) : Prop :=
  p.tables.exec = Jvm.exec ∧ c.code = cc ∧ s.vm.findClass (mm_nm own) = some m.cls ∧ (∀ w ∈ mm_ws, w.before args s = true) ∧ va_K D vwCl (mm_tys cA) s ∧ mm_env ad adV A L xs s ∧ L < 2 ^ 31
/-- rows of the memory that nobody writes -/
def mm_cst (L : Nat) (xs : Nat → Int32) (σ : mmS) : Prop := (∀ j, j < 16 → σ.2.1 66 j = mm_wx.getD j 0) ∧ (∀ j, j < 16 → σ.2.1 67 j = mm_wy.getD j 0) ∧ (∀ j, j < L → σ.2.1 68 j = xs j) ∧ σ.2.1 69 0 = nI L
/-- the real machine at a point of a method, with any heap that holds the memory -/
def mm_g (p : Program) (l : Launch) (e : Env) (R : Room) (s : State) (m : MethodId) (args : Array Value) (below : List Frame) (meth : Method) (c : Code) (D : va_G) (cA : Nat → ClassId) (ad : Nat → Nat) (A : Nat → Prop) (L : Nat) (xs : Nat → Int32) (mc ms : Nat) (Q : State → Prop) (pc : Nat) (ls : mmL) (st : List Value) (σ : mmS) : Prop :=
  ∀ (lsA : Array Slot) (H : Heap) (locs : List Loc) (cells slots : Nat), mm_lr ad lsA ls → va_P D vwCl (mm_W ad cA σ) H → va_D A (mm_W ad cA σ) → va_S A s.heap H locs → mm_cst L xs σ → cells + σ.1.2.1 = mc → slots + σ.1.2.2.1 = ms → σ.1.2.2.2.2.2 = ad → lsA.size = c.maxLocals →
    W p l e R s m args below meth c H locs cells slots Q (F0 m pc lsA (st.map (mm_tr ad)))
section MMS
variable {p : Program} {l : Launch} {e : Env} {R : Room} {s : State} {m : MethodId} {args : Array Value} {below : List Frame} {meth : Method} {c : Code} {own : Nat} {cc : ByteArray} {D : va_G} {cA : Nat → ClassId} {ad adV : Nat → Nat} {A : Nat → Prop} {L : Nat} {xs : Nat → Int32} {mc ms : Nat} {Q : State → Prop} {pc : Nat} {ls : mmL} {st : List Value} {σ : mmS}
theorem mm_lr.int {lsA : Array Slot} {i : Nat} {x : Int32} (h : mm_lr ad lsA ls) (hx : ls[i]? = some (some (.int x))) : lsA[i]? = some (.val (.int x)) := h.2.2 i _ hx
theorem mm_lr.long {lsA : Array Slot} {i : Nat} {x : Int64} (h : mm_lr ad lsA ls) (hx : ls[i]? = some (some (.long x))) : lsA[i]? = some (.val (.long x)) := h.2.2 i _ hx
theorem mm_lr.ref {lsA : Array Slot} {i : Nat} {x : Nat} (h : mm_lr ad lsA ls) (hx : ls[i]? = some (some (.ref x))) : lsA[i]? = some (.val (.ref (ad x))) := h.2.2 i _ hx
/-- a cell that is there is in the world -/
theorem mm_at_in {g : mmG} {r : Nat} {k : Nat → Nat → List Nat → Prop} (h : mm_at g r k) : ∃ reg kd n rf, mm_T[r]? = some (reg, kd, n, rf) ∧ mm_lv g reg = true ∧ k kd n rf := by
  unfold mm_at at h
  split at h
  · rename_i reg kd n rf e
    split at h
    · rename_i e2
      exact ⟨reg, kd, n, rf, e, e2, h⟩
    · exact h.elim
  · exact h.elim
theorem mm_in_of {g : mmG} {r reg kd n : Nat} {rf : List Nat} (h : mm_T[r]? = some (reg, kd, n, rf)) (h2 : mm_lv g reg = true) (h3 : kd < 30) : mm_in g r = true := by
  unfold mm_in
  rw [h]
  show (Nat.blt kd 30 && mm_lv g reg) = true
  rw [h2, Bool.and_true]
  exact Nat.ble_eq_true_of_le (by omega)
theorem mm_cell_obj {r reg kd n : Nat} {rf : List Nat} (h : mm_T[r]? = some (reg, kd, n, rf)) (h3 : kd < 20) : mm_cell ad cA σ r = .inr (kd, mm_fs ad σ r kd rf) := by
  unfold mm_cell
  rw [h]
  have : Nat.blt kd 20 = true := Nat.ble_eq_true_of_le (by omega)
  simp only [this]
theorem mm_fs_get {r kd k : Nat} {rf : List Nat} (hk : k < (mm_F.getD kd []).length) : (mm_fs ad σ r kd rf)[k]? = some (mm_val ad σ r k ((mm_F.getD kd []).getD k 0) rf) := by
  unfold mm_fs
  rw [List.getElem?_map, List.getElem?_range hk]; rfl
theorem mm_fs_len {r kd : Nat} {rf : List Nat} : (mm_fs ad σ r kd rf).length = (mm_F.getD kd []).length := by
  unfold mm_fs; rw [List.length_map, List.length_range]
theorem mm_fs_set {τ : mmS} {r kd k : Nat} {rf : List Nat} {v : Value} (hv : mm_val ad τ r k ((mm_F.getD kd []).getD k 0) rf = v) (ho : ∀ j, j ≠ k → mm_val ad τ r j ((mm_F.getD kd []).getD j 0) rf = mm_val ad σ r j ((mm_F.getD kd []).getD j 0) rf) : (mm_fs ad σ r kd rf).set k v = mm_fs ad τ r kd rf := by
  apply List.ext_getElem?
  intro i
  rw [List.getElem?_set]
  by_cases hi : k = i
  · subst hi
    rw [if_pos rfl, mm_fs_len]
    split
    · rename_i h; rw [mm_fs_get h, hv]
    · rename_i h
      exact (List.getElem?_eq_none (by rw [mm_fs_len]; omega)).symm
  · rw [if_neg hi]
    by_cases hl : i < (mm_F.getD kd []).length
    · rw [mm_fs_get hl, mm_fs_get hl, ho i (Ne.symm hi)]
    · rw [List.getElem?_eq_none (by rw [mm_fs_len]; omega), List.getElem?_eq_none (by rw [mm_fs_len]; omega)]
/-- the memory written at one place: which cells change -/
theorem mm_cell_up {r k j : Nat} {x : Int32} (h : j ≠ r) : mm_cell ad cA (σ.1, mm_up σ.2.1 r k x, σ.2.2) j = mm_cell ad cA σ j := by
  have e : mm_up σ.2.1 r k x j = σ.2.1 j := if_neg h
  unfold mm_cell mm_fs mm_val
  simp only [e]
theorem mm_cell_upJ {r k j : Nat} {x : Int64} (h : j ≠ r) : mm_cell ad cA (σ.1, σ.2.1, mm_upJ σ.2.2 r k x) j = mm_cell ad cA σ j := by
  have e : mm_upJ σ.2.2 r k x j = σ.2.2 j := if_neg h
  unfold mm_cell mm_fs mm_val
  simp only [e]
theorem mm_cst_up {r k reg kd n : Nat} {rf : List Nat} {x : Int32} (h : mm_cst L xs σ) (ht : mm_T[r]? = some (reg, kd, n, rf)) (hk : kd < 30) : mm_cst L xs (σ.1, mm_up σ.2.1 r k x, σ.2.2) := by
  have e : ∀ q, q = 66 ∨ q = 67 ∨ q = 68 ∨ q = 69 → mm_up σ.2.1 r k x q = σ.2.1 q := by
    intro q hq
    refine if_neg fun e => ?_
    subst e
    rcases hq with rfl | rfl | rfl | rfl <;> (simp [mm_T] at ht; omega)
  obtain ⟨h1, h2, h3, h4⟩ := h
  refine ⟨fun j hj => ?_, fun j hj => ?_, fun j hj => ?_, ?_⟩
  · show mm_up σ.2.1 r k x 66 j = _; rw [e 66 (by omega)]; exact h1 j hj
  · show mm_up σ.2.1 r k x 67 j = _; rw [e 67 (by omega)]; exact h2 j hj
  · show mm_up σ.2.1 r k x 68 j = _; rw [e 68 (by omega)]; exact h3 j hj
  · show mm_up σ.2.1 r k x 69 0 = _; rw [e 69 (by omega)]; exact h4
end MMS
