/-! the law's beginning and its end -/
/- needs: 0 1 20 21 22 23 24 25 26 27 28 29 30 40 41 -/
theorem mm_lt_cases17 : ∀ j, j < 17 → j = 0 ∨ j = 1 ∨ j = 2 ∨ j = 3 ∨ j = 4 ∨ j = 5 ∨ j = 6 ∨ j = 7 ∨ j = 8 ∨ j = 9 ∨ j = 10 ∨ j = 11 ∨ j = 12 ∨ j = 13 ∨ j = 14 ∨ j = 15 ∨ j = 16 := by omega
theorem mm_lt_cases11 : ∀ j, j < 11 → j = 0 ∨ j = 1 ∨ j = 2 ∨ j = 3 ∨ j = 4 ∨ j = 5 ∨ j = 6 ∨ j = 7 ∨ j = 8 ∨ j = 9 ∨ j = 10 := by omega
theorem dq_L_0 : decode code 0 = .ok (.new 8, 3) := by decide +kernel
theorem dq_L_3 : decode code 3 = .ok (.dup, 1) := by decide +kernel
theorem dq_L_4 : decode code 4 = .ok (.invokespecial 15, 3) := by decide +kernel
theorem dq_L_7 : decode code 7 = .ok (.astore_n 1, 1) := by decide +kernel
theorem dq_L_8 : decode code 8 = .ok (.new 16, 3) := by decide +kernel
theorem dq_L_11 : decode code 11 = .ok (.dup, 1) := by decide +kernel
theorem dq_L_12 : decode code 12 = .ok (.invokespecial 18, 3) := by decide +kernel
theorem dq_L_15 : decode code 15 = .ok (.astore_n 2, 1) := by decide +kernel
theorem dq_L_16 : decode code 16 = .ok (.iconst 1, 1) := by decide +kernel
theorem dq_L_17 : decode code 17 = .ok (.newarray .long, 2) := by decide +kernel
theorem dq_L_19 : decode code 19 = .ok (.astore_n 3, 1) := by decide +kernel
theorem dq_L_20 : decode code 20 = .ok (.iconst 0, 1) := by decide +kernel
theorem dq_L_21 : decode code 21 = .ok (.istore 4, 2) := by decide +kernel
theorem mm_l_nx_0_13 : lw_tbl[334]? = some (.methodLinkNest RX0 13 yX1_init RX9) := by decide +kernel
theorem mm_l_nx_6_28 : lw_tbl[173]? = some (.methodLinkNest RX6 28 yX1_init RX9) := by decide +kernel
theorem mm_l_nx_9_11 : lw_tbl[167]? = some (.methodLinkNest RX9 11 yX6_init RX9) := by decide +kernel
theorem mm_l_nx_9_18 : lw_tbl[329]? = some (.methodLinkNest RX9 18 yX0_init RX9) := by decide +kernel
theorem mm_l_nx_9_25 : lw_tbl[405]? = some (.methodLinkNest RX9 25 yX4_init RX9) := by decide +kernel
theorem mm_ac {args : Array Value} {s : State} {ty : FieldType} (h : (Cond.arrayClass ty).before args s = true) : ∃ c : ClassId, ArrOfT s c ty ∧ s.vm.findClass ("[" ++ ty.toString) = some c := by
  obtain ⟨c, k, comp, h1, h2, h3⟩ := Cond.arrayClass_spec h
  exact ⟨c, fun n z => ⟨fun k h => (by cases h), k, h2, comp, h3⟩, h1⟩
theorem mm_ao {args : Array Value} {s : State} {ty : FieldType} (h : (Cond.arrayOver (.array ty)).before args s = true) : ∃ c : ClassId, ArrOfT s c (.array ty) ∧ s.vm.findClass ("[" ++ (FieldType.array ty).toString) = some c := by
  obtain ⟨comp, c, k, h1, h2, h3, h4, h5⟩ := arrayOverA_spec h
  exact ⟨c, fun n z => ⟨fun k h => (by cases h), k, h3, comp, h4⟩, h5⟩
theorem mm_K0 {args : Array Value} {s : State} (hts : ∀ w ∈ mm_ws, w.before args s = true) (hao : mm_AO s) : ∃ (dC : Nat → ClassId) (dI : Nat → Nat → Nat) (cA : Nat → ClassId), va_K (dC, dI) vwCl (mm_tys cA) s := by
  obtain ⟨c0, i0, h0⟩ := u_known (T := TX0) hts mm_i0 (hts _ wq_in_0)
  obtain ⟨c1, i1, h1⟩ := u_known (T := TX1) hts mm_i1 (hts _ wq_in_1)
  obtain ⟨c2, i2, h2⟩ := u_known (T := TX2) hts mm_i2 (hts _ wq_in_2)
  obtain ⟨c3, i3, h3⟩ := u_known (T := TX3) hts mm_i3 (hts _ wq_in_3)
  obtain ⟨c4, i4, h4⟩ := u_known (T := TX4) hts mm_i4 (hts _ wq_in_4)
  obtain ⟨c5, i5, h5⟩ := u_known (T := TX5) hts mm_i5 (hts _ wq_in_5)
  obtain ⟨c6, i6, h6⟩ := u_known (T := TX6) hts mm_i6 (hts _ wq_in_6)
  obtain ⟨c7, i7, h7⟩ := u_known (T := TX7) hts mm_i7 (hts _ wq_in_7)
  obtain ⟨c8, i8, h8⟩ := u_known (T := TX8) hts mm_i8 (hts _ wq_in_8)
  obtain ⟨c9, i9, h9⟩ := u_known (T := TX9) hts mm_i9 (hts _ wq_in_9)
  obtain ⟨c10, i10, h10⟩ := u_known (T := TX10) hts mm_i10 (hts _ wq_in_10)
  obtain ⟨a0, ha0, hf0⟩ := mm_ac (hts _ wq_ac_int)
  obtain ⟨a1, ha1, hf1⟩ := mm_ac (hts _ wq_ac_long)
  obtain ⟨a2, ha2, hf2⟩ := mm_ac (hts _ wq_ac_byte)
  obtain ⟨a3, ha3, hf3⟩ := mm_ac (hts _ wq_ac_boolean)
  obtain ⟨a4, ha4, hf4⟩ := mm_ao (hao.use (A := args))
  refine ⟨fun k => [c0, c1, c2, c3, c4, c5, c6, c7, c8, c9, c10].getD k 0, fun k => [i0, i1, i2, i3, i4, i5, i6, i7, i8, i9, i10].getD k (fun _ => 0), fun k => [a0, a1, a2, a3, a4].getD k 0, fun c q hq => ?_, fun k q hq => ?_⟩
  · have hc : c < 11 := (List.getElem?_eq_some_iff.mp hq).1
    have := mm_lt_cases11 c hc
    rcases this with rfl | rfl | rfl | rfl | rfl | rfl | rfl | rfl | rfl | rfl | rfl
    · cases hq; exact h0
    · cases hq; exact h1
    · cases hq; exact h2
    · cases hq; exact h3
    · cases hq; exact h4
    · cases hq; exact h5
    · cases hq; exact h6
    · cases hq; exact h7
    · cases hq; exact h8
    · cases hq; exact h9
    · cases hq; exact h10
  · have hk : k < 5 := (List.getElem?_eq_some_iff.mp hq).1
    have := mm_lt_cases5 k hk
    rcases this with rfl | rfl | rfl | rfl | rfl
    · cases hq; exact ⟨ha0, hf0⟩
    · cases hq; exact ⟨ha1, hf1⟩
    · cases hq; exact ⟨ha2, hf2⟩
    · cases hq; exact ⟨ha3, hf3⟩
    · cases hq; exact ⟨ha4, hf4⟩

/-- the ints at the start -/
def mm_I0 (L : Nat) (xs : Nat → Int32) : mmI := fun r j => bif Nat.beq r 68 then xs j else bif Nat.beq r 69 then nI L else bif Nat.beq r 66 then mm_wx.getD j 0 else bif Nat.beq r 67 then mm_wy.getD j 0 else bif Nat.beq r 55 then (upd (upd (upd (upd (upd (upd (upd (upd (upd (upd (upd (upd (upd (upd (upd (upd (fun _ => 0) 0 1) 1 2) 2 1) 3 1) 4 0) 5 (-1)) 6 (-1)) 7 (-2)) 8 (-1)) 9 (-2)) 10 (-1)) 11 (-1)) 12 0) 13 1) 14 1) 15 2) j else bif Nat.beq r 56 then (upd (upd (upd (upd (upd (upd (upd (upd (upd (upd (upd (upd (upd (upd (upd (upd (fun _ => 0) 0 0) 1 1) 2 1) 3 2) 4 1) 5 2) 6 1) 7 1) 8 0) 9 (-1)) 10 (-1)) 11 (-2)) 12 (-1)) 13 (-2)) 14 (-1)) 15 (-1)) j else bif (Nat.beq r 19 || Nat.beq r 33) then (bif Nat.beq j 0 then 10 else 0) else bif (Nat.beq r 23 || Nat.beq r 37) then (bif Nat.beq j 0 then 5 else 0) else bif (Nat.beq r 26 || Nat.beq r 40) then (bif Nat.beq j 0 then 4 else 0) else bif (Nat.beq r 46) then (bif Nat.beq j 10 then (-1) else 0) else 0
def mm_s0 (ad : Nat → Nat) (L : Nat) (xs : Nat → Int32) : mmS := ((fun _ => false, 600958, 6860228, true, false, ad), mm_I0 L xs, fun _ _ => 0)
theorem mm_stand_room {p : Program} {l : Launch} {e : Env} {R R' : Room} {s : State} {m : MethodId} {args : Array Value} {below : List Frame} {meth : Method} {c : Code} {T : State} {locs : List Loc} {cells slots : Nat} (hf : R'.frames ≤ R.frames) (hl : R'.locals ≤ R.locals) (hc : R'.cells ≤ R.cells) (hs : R'.slots ≤ R.slots) (X : Stand p l e R s m args below meth c T locs cells slots) : Stand p l e R' s m args below meth c T locs cells slots := by
  refine { X with room := ?_ }
  have h := X.room
  simp only [State.hasRoom, Bool.and_eq_true, decide_eq_true_eq] at h ⊢
  obtain ⟨⟨⟨⟨h1, h2, h3, h4, h5, h6⟩, h7⟩, h8⟩, h9⟩ := h
  exact ⟨⟨⟨⟨by omega, by omega, by omega, by omega, by omega, h6⟩, by omega⟩, by omega⟩, h9⟩
theorem mm_W_room {p : Program} {l : Launch} {e : Env} {R R' : Room} {s : State} {m : MethodId} {args : Array Value} {below : List Frame} {meth : Method} {c : Code} {H : Heap} {locs : List Loc} {cells slots : Nat} {Q : State → Prop} {g : JFrame} (hf : R'.frames ≤ R.frames) (hl : R'.locals ≤ R.locals) (hc : R'.cells ≤ R.cells) (hs : R'.slots ≤ R.slots) (h : W p l e R' s m args below meth c H locs cells slots Q g) : W p l e R s m args below meth c H locs cells slots Q g :=
  fun T hT X => h T hT (mm_stand_room hf hl hc hs X)
theorem mm_ix0 {g : mmG} (hg : ∀ k, g.1 k = false) {RL : List Nat} (hRL : ∀ r, r < 115 → (match mm_T[r]? with | some (reg, kd, _, _) => !(Nat.blt kd 30 && Nat.beq reg 0) || RL.contains r | none => true) = true) : ∀ r, r ∈ mm_ix g → r ∈ RL := by
  intro r hr
  unfold mm_ix at hr
  rw [List.mem_filter] at hr
  obtain ⟨h1, h2⟩ := hr
  have h3 := hRL r (List.mem_range.mp h1)
  unfold mm_in at h2
  cases hT : mm_T[r]? with
  | none => rw [hT] at h2; cases h2
  | some z =>
    obtain ⟨reg, kd, n, rf⟩ := z
    rw [hT] at h2 h3
    simp only [Bool.and_eq_true] at h2
    dsimp only at h3
    cases reg with
    | succ j =>
      have := h2.2
      unfold mm_lv at this
      dsimp only at this
      rw [hg j] at this; cases this
    | zero =>
      rw [h2.1, Bool.true_and] at h3
      have : Nat.beq 0 0 = true := rfl
      rw [this, Bool.not_true, Bool.false_or] at h3
      exact List.contains_iff_mem.mp h3
def mm_adS (q0 q8 q17 e66 e67 b : Nat) (u4 u12 adK : Nat → Nat) : Nat → Nat := fun r => ([q0, u4 1, u4 2, u4 3, u4 4, u4 5, u4 20, u4 35, u4 36, u4 37, u4 38, u4 39, u4 40, u4 41, u4 42, u4 43, u4 44, u4 45, u4 21, u4 22, u4 23, u4 24, u4 25, u4 26, u4 27, u4 28, u4 29, u4 30, u4 31, u4 32, u4 33, u4 34, u4 6, u4 7, u4 8, u4 9, u4 10, u4 11, u4 12, u4 13, u4 14, u4 15, u4 16, u4 17, u4 18, u4 19, q8, u12 1, u12 2, u12 3, u12 4, u12 5, u12 6, u12 7, u12 8, u12 9, u12 10, u12 11, u12 12, u12 13, u12 14, u12 15, u12 16, u12 17, u12 18, q17, e66, e67, b, 0, 0, 0, 0, 0, 0, 0, 0, 0, 0, 0, 0, 0, 0, 0, 0, 0, 0, 0, 0, 0, 0, 0, 0, 0, 0, 0, 0, 0, adK 0, adK 1, adK 2, adK 3, adK 4, adK 5, adK 6, adK 7, adK 8, adK 9, adK 10, adK 11, adK 12, adK 13, adK 14, adK 15, adK 16] : List Nat).getD r 0
theorem mm_cons {α : Type} {a b : α} {x y : List α} (h : a = b) (k : x = y) : a :: x = b :: y := by rw [h, k]
set_option maxRecDepth 20000 in
theorem mm_hw9 (cA : Nat → ClassId) (q0 q8 q17 e66 e67 b L : Nat) (u4 u12 adK : Nat → Nat) (xs : Nat → Int32) : w_init_9 cA q0 u4 = ([0, 1, 2, 3, 4, 5, 32, 33, 34, 35, 36, 37, 38, 39, 40, 41, 42, 43, 44, 45, 6, 18, 19, 20, 21, 22, 23, 24, 25, 26, 27, 28, 29, 30, 31, 7, 8, 9, 10, 11, 12, 13, 14, 15, 16, 17] : List Nat).map (fun r => ((mm_adS q0 q8 q17 e66 e67 b u4 u12 adK) r, mm_cell (mm_adS q0 q8 q17 e66 e67 b u4 u12 adK) cA (mm_s0 (mm_adS q0 q8 q17 e66 e67 b u4 u12 adK) L xs) r)) := by
  simp only [List.map_cons, List.map_nil]
  refine mm_cons rfl (mm_cons rfl (mm_cons rfl (mm_cons rfl (mm_cons rfl (mm_cons rfl (mm_cons rfl (mm_cons rfl (mm_cons rfl (mm_cons rfl (mm_cons rfl (mm_cons rfl (mm_cons rfl (mm_cons rfl (mm_cons rfl (mm_cons rfl (mm_cons rfl (mm_cons rfl (mm_cons rfl (mm_cons rfl (mm_cons rfl (mm_cons rfl (mm_cons rfl (mm_cons rfl (mm_cons rfl (mm_cons rfl (mm_cons rfl (mm_cons rfl (mm_cons rfl (mm_cons rfl (mm_cons rfl (mm_cons rfl (mm_cons rfl (mm_cons rfl (mm_cons rfl (mm_cons rfl (mm_cons rfl (mm_cons rfl (mm_cons rfl (mm_cons rfl (mm_cons rfl (mm_cons rfl (mm_cons rfl (mm_cons rfl (mm_cons rfl (mm_cons rfl (rfl))))))))))))))))))))))))))))))))))))))))))))))
set_option maxRecDepth 20000 in
theorem mm_hw10 (cA : Nat → ClassId) (q0 q8 q17 e66 e67 b L : Nat) (u4 u12 adK : Nat → Nat) (xs : Nat → Int32) : w_init_10 cA q8 u12 = ([46, 47, 48, 49, 50, 51, 52, 53, 54, 55, 56, 57, 58, 59, 60, 61, 62, 63, 64] : List Nat).map (fun r => ((mm_adS q0 q8 q17 e66 e67 b u4 u12 adK) r, mm_cell (mm_adS q0 q8 q17 e66 e67 b u4 u12 adK) cA (mm_s0 (mm_adS q0 q8 q17 e66 e67 b u4 u12 adK) L xs) r)) := by
  simp only [List.map_cons, List.map_nil]
  refine mm_cons rfl (mm_cons rfl (mm_cons rfl (mm_cons rfl (mm_cons rfl (mm_cons rfl (mm_cons rfl (mm_cons rfl (mm_cons rfl (mm_cons rfl (mm_cons rfl (mm_cons rfl (mm_cons rfl (mm_cons rfl (mm_cons rfl (mm_cons rfl (mm_cons rfl (mm_cons rfl (mm_cons rfl (rfl)))))))))))))))))))
theorem mm_hw (cA : Nat → ClassId) (q0 q8 q17 e66 e67 b L : Nat) (u4 u12 adK : Nat → Nat) (xs : Nat → Int32) : (w_init_9 cA q0 u4 ++ w_init_10 cA q8 u12) ++ [(q17, .inl (cA 1, (1, .inr (.inl (fun _ => 0)))))] = ([0, 1, 2, 3, 4, 5, 32, 33, 34, 35, 36, 37, 38, 39, 40, 41, 42, 43, 44, 45, 6, 18, 19, 20, 21, 22, 23, 24, 25, 26, 27, 28, 29, 30, 31, 7, 8, 9, 10, 11, 12, 13, 14, 15, 16, 17] ++ [46, 47, 48, 49, 50, 51, 52, 53, 54, 55, 56, 57, 58, 59, 60, 61, 62, 63, 64] ++ [65] : List Nat).map fun r => ((mm_adS q0 q8 q17 e66 e67 b u4 u12 adK) r, mm_cell (mm_adS q0 q8 q17 e66 e67 b u4 u12 adK) cA (mm_s0 (mm_adS q0 q8 q17 e66 e67 b u4 u12 adK) L xs) r) := by
  rw [List.map_append, List.map_append, ← mm_hw9, ← mm_hw10]; rfl
set_option maxHeartbeats 4000000 in
set_option maxRecDepth 100000 in
theorem mm_start {p : Program} {e : Env} {s : State} {m : MethodId} {below : List Frame} {meth : Method} {c : Code} (l : Launch) {b L : Nat} {xs : Nat → Int32} (hL : L ≤ 3072) (C0 : lw_At p s m meth c b L xs) (K : ∀ (D : va_G) (cA : Nat → ClassId) (ad adV : Nat → Nat), (∀ ad', mm_ag ad ad' → mm_c p s m #[Value.ref b] c 11 code D cA ad' adV (fun q : Nat => s.heap.size ≤ q) L xs) →
      mm_g p l e (mm_rm 210 601024 7293034) s m #[Value.ref b] below meth c D cA ad (fun q : Nat => s.heap.size ≤ q) L xs 601024 7293034 (lw_Z below #[Value.ref b] s) 23 [some (.ref 68), some (.ref 0), some (.ref 46), some (.ref 65), some (.int 0), none, none] [] (mm_s0 ad L xs)) :
    W p l e room_1 s m #[Value.ref b] below meth c s.heap [] 0 0 (lw_Z below #[Value.ref b] s) (entryFrame m ([Value.ref b] : List Value).toArray 7) := by
  obtain ⟨hx, hb, hr, hml, hown, hts0, hXv, hbl, hlocks, hgv⟩ := C0
  have hts : ∀ w ∈ mm_ws, w.before #[Value.ref b] s = true := fun w hw => hts0 w (List.mem_filter.mp hw).1
  have at_ : ∀ {w : Cond} {i : Nat}, lw_tbl[i]? = some w → w.before #[Value.ref b] s = true := fun h => hts0 _ (List.mem_of_getElem? h)
  have hown : s.vm.findClass RL = some m.cls := hown
  obtain ⟨e66, e67, adK, adV, hE⟩ := mm_env0 hts0 hgv hXv hbl
  have hao : mm_AO s := at_ mm_l_ao
  obtain ⟨dC, dI, cA, hK⟩ := mm_K0 hts hao
  have hN : mm_nx s := ⟨va_Nw.of rfl (at_ mm_l_nx_0_13), va_Nw.of rfl (at_ mm_l_nx_6_28), va_Nw.of rfl (at_ mm_l_nx_9_11), va_Nw.of rfl (at_ mm_l_nx_9_18), va_Nw.of rfl (at_ mm_l_nx_9_25)⟩
  refine mm_W_room (R' := mm_rm 210 601024 7293034) (by decide) (by decide) (by decide) (by decide) ?_
  have hl := lv_entry ([Value.ref b]) (n := 7) (Nat.le_of_ble_eq_true rfl)
  rw [lg_entry_eq]
  generalize (lg_sl ([Value.ref b]) ++ List.replicate (7 - (lg_sl ([Value.ref b])).length) Slot.unset).toArray = ls at hl ⊢
  have hl : lv_has ls 7 [(0, .ref b)] := hl
  have hA : ∀ q : Nat, s.heap.size ≤ q → (fun q : Nat => s.heap.size ≤ q) q := fun q h => h
  generalize hAe : (fun q : Nat => s.heap.size ≤ q) = A at hA hE K
  have hS : va_S A s.heap s.heap [] := va_S.rf
  have hP : va_P (dC, dI) vwCl [] s.heap := fun k q h => by cases h
  have hD : va_D A [] := ⟨fun i j p q h => (by cases h), fun k q h => (by cases h)⟩
  refine va_new (ci := 9) (fs := [.null, .int 0, .null, .null, .null, .null, .null, .int 0, .int 0, .int 0]) (C := RX9) (T := TX9) (N := 10) hx hb hts mm_i9 tyX9 tyX9_ok hown (hts _ wq_cl_11_8) (hts _ wq_in_9) (hts _ wq_it_9) hK hP hD hS hA rfl (fun j hj => by have := mm_lt_cases10 j hj; rcases this with rfl | rfl | rfl | rfl | rfl | rfl | rfl | rfl | rfl | rfl <;> rfl) (Nat.le_of_ble_eq_true rfl) (Nat.le_of_ble_eq_true rfl) dq_L_0 (fun q0 H hP hD hS => ?_)
  have hP : va_P (dC, dI) vwCl [(q0, .inr (9, [.null, .int 0, .null, .null, .null, .null, .null, .int 0, .int 0, .int 0]))] H := hP
  have hD : va_D A [(q0, .inr (9, [.null, .int 0, .null, .null, .null, .null, .null, .int 0, .int 0, .int 0]))] := hD
  refine W.widen (k := 1) (n := 10) (by omega) (by omega) ?_
  refine lv_dup hx hb dq_L_3 rfl ?_
  have hFc := va_free (wc := [(q0, .inr (9, [.null, .int 0, .null, .null, .null, .null, .null, .int 0, .int 0, .int 0]))]) hD hS hA [0] rfl
  refine va_callv (va_runI (As := []) (rest := [.ref q0]) (Ts := mm_ws) ⟨hx, hb, hml, hown, hts⟩ (c_init_9 l dC dI cA q0 H.size) ⟨mm_cb2 hts wq_ic_9 wq_it_9 wq_mi_11_15 rfl rfl (by decide) (by show _ = some 0; decide +kernel) ⟨Nat.le_of_ble_eq_true rfl, Nat.le_of_ble_eq_true rfl⟩, rfl, hts _ wq_ii_9⟩ ⟨mm_pi_blind, fun U hU hW => ⟨rfl, by rw [hU], by rw [hU]; exact hP, va_K.moved hW.alike hK, hD.weaken (fun _ _ _ _ => trivial), mm_nx_warm hN hW⟩⟩ rfl rfl hl.1 rfl (lv_room (Nat.le_of_ble_eq_true rfl)) dq_L_4 ⟨Nat.le_of_ble_eq_true rfl, Nat.le_of_ble_eq_true rfl⟩) hS (fun q _ h => hFc q h) hFc (fun u4 t H1 locs ht hvm hw hB hz1 hk1 hS => ?_)
  obtain ⟨hP1, hK1, hD1⟩ := hB
  rw [ht] at hP1
  have hD1 := hD1.weaken (fun k q hk hq => hFc q.1 hq)
  generalize H1 = H at hP1 hS ⊢
  refine lv_astore_n hx hb dq_L_7 rfl hl (by decide) rfl (fun ls hl => ?_)
  refine va_new (ci := 10) (fs := [.int 0, .null, .int 0, .int 0, .int 0, .int 0, .int 0, .int 0, .int 0, .int 0, .int 0, .int 0, .null, .int 0, .int 0, .null, .null, .int 0, .int 0, .int 0, .int 0, .null, .null, .null, .null, .null, .null, .int 0, .null, .null, .null, .null, .int 0, .int 0, .int 0, .int 0, .null, .null, .null, .null]) (C := RX10) (T := TX10) (N := 40) hx hb hts mm_i10 tyX10 tyX10_ok hown (hts _ wq_cl_11_16) (hts _ wq_in_10) (hts _ wq_it_10) hK hP1 hD1 hS hA rfl (fun j hj => by have := mm_lt_cases40 j hj; rcases this with rfl | rfl | rfl | rfl | rfl | rfl | rfl | rfl | rfl | rfl | rfl | rfl | rfl | rfl | rfl | rfl | rfl | rfl | rfl | rfl | rfl | rfl | rfl | rfl | rfl | rfl | rfl | rfl | rfl | rfl | rfl | rfl | rfl | rfl | rfl | rfl | rfl | rfl | rfl | rfl <;> rfl) (Nat.le_of_ble_eq_true rfl) (Nat.le_of_ble_eq_true rfl) dq_L_8 (fun q8 H hP hD hS => ?_)
  refine lv_dup hx hb dq_L_11 rfl ?_
  have hPc := hP.sub (ws' := [(q8, .inr (10, [.int 0, .null, .int 0, .int 0, .int 0, .int 0, .int 0, .int 0, .int 0, .int 0, .int 0, .int 0, .null, .int 0, .int 0, .null, .null, .int 0, .int 0, .int 0, .int 0, .null, .null, .null, .null, .null, .null, .int 0, .null, .null, .null, .null, .int 0, .int 0, .int 0, .int 0, .null, .null, .null, .null]))]) [(w_init_9 cA q0 u4).length] mm_lastF
  have hDc := hD.sub (ws' := [(q8, .inr (10, [.int 0, .null, .int 0, .int 0, .int 0, .int 0, .int 0, .int 0, .int 0, .int 0, .int 0, .int 0, .null, .int 0, .int 0, .null, .null, .int 0, .int 0, .int 0, .int 0, .null, .null, .null, .null, .null, .null, .int 0, .null, .null, .null, .null, .int 0, .int 0, .int 0, .int 0, .null, .null, .null, .null]))]) [(w_init_9 cA q0 u4).length] rfl mm_last
  have hFc := va_free (wc := [(q8, .inr (10, [.int 0, .null, .int 0, .int 0, .int 0, .int 0, .int 0, .int 0, .int 0, .int 0, .int 0, .int 0, .null, .int 0, .int 0, .null, .null, .int 0, .int 0, .int 0, .int 0, .null, .null, .null, .null, .null, .null, .int 0, .null, .null, .null, .null, .int 0, .int 0, .int 0, .int 0, .null, .null, .null, .null]))]) hD hS hA [(w_init_9 cA q0 u4).length] mm_last
  refine va_callv (va_runI (As := []) (rest := [.ref q8]) (Ts := mm_ws) ⟨hx, hb, hml, hown, hts⟩ (c_init_10 l dC dI cA q8 H.size) ⟨mm_cb2 hts wq_ic_10 wq_it_10 wq_mi_11_18 rfl rfl (by decide) (by show _ = some 0; decide +kernel) ⟨Nat.le_of_ble_eq_true rfl, Nat.le_of_ble_eq_true rfl⟩, rfl, hts _ wq_ii_10⟩ ⟨mm_pi_blind, fun U hU hW => ⟨rfl, by rw [hU], by rw [hU]; exact hPc, va_K.moved hW.alike hK, hDc.weaken (fun _ _ _ _ => trivial), mm_nx_warm hN hW⟩⟩ rfl rfl hl.1 rfl (lv_room (Nat.le_of_ble_eq_true rfl)) dq_L_12 ⟨Nat.le_of_ble_eq_true rfl, Nat.le_of_ble_eq_true rfl⟩) hS (fun q _ h => hFc q h) hFc (fun u12 t H1 locs ht hvm hw hB hz1 hk1 hS => ?_)
  obtain ⟨hP1, hK1, hD1⟩ := hB
  rw [ht] at hP1
  obtain ⟨hP, hD⟩ := va_join (wr := w_init_9 cA q0 u4) (w1 := w_init_10 cA q8 u12) hP hD [(w_init_9 cA q0 u4).length] (List.range (w_init_9 cA q0 u4).length) mm_last mm_rng mm_nd_rng (fun i hi => by have := List.mem_range.mp hi; simp only [List.mem_singleton]; omega) hk1 hFc hP1 hD1
  generalize H1 = H at hP hS ⊢
  refine lv_astore_n hx hb dq_L_15 rfl hl (by decide) rfl (fun ls hl => ?_)
  refine lv_iconst (v := 1) hx hb dq_L_16 (by decide) ?_
  refine mm_newa (N' := 1) 1 hx hb (hts _ wq_ac_long) rfl hK rfl (fun _ h => h) hP hD hS hA (a0 := (1, .inr (.inl (fun _ => 0)))) (fun cA => rfl) (by decide) (by decide) (by decide) (Nat.le_of_ble_eq_true rfl) (Nat.le_of_ble_eq_true rfl) dq_L_17 (fun q17 H hP hD hS => ?_)
  refine lv_astore_n hx hb dq_L_19 rfl hl (by decide) rfl (fun ls hl => ?_)
  refine lv_iconst (v := 0) hx hb dq_L_20 (by decide) ?_
  refine lv_istore hx hb dq_L_21 hl (by decide) rfl (fun ls hl => ?_)
  have hl : lv_has ls 7 [(4, .int 0), (3, .ref q17), (2, .ref q8), (1, .ref q0), (0, .ref b)] := hl
  have hEa : ∀ ad', mm_ag (mm_adS q0 q8 q17 e66 e67 b u4 u12 adK) ad' → mm_env ad' adV A L xs s := fun ad' h => mm_env_ag (hE (mm_adS q0 q8 q17 e66 e67 b u4 u12 adK) rfl rfl rfl (fun i hi => by have := mm_lt_cases17 i hi; rcases this with rfl | rfl | rfl | rfl | rfl | rfl | rfl | rfl | rfl | rfl | rfl | rfl | rfl | rfl | rfl | rfl | rfl <;> rfl)) h
  have hw := mm_hw cA q0 q8 q17 e66 e67 b L u4 u12 adK xs
  generalize had : mm_adS q0 q8 q17 e66 e67 b u4 u12 adK = ad at *
  rw [hw] at hP hD
  obtain ⟨hP, hD⟩ := mm_world (S := mm_ix (mm_s0 ad L xs).1) mm_ix_nd (mm_ix0 (fun _ => rfl) (by decide +kernel)) hP hD
  have e0 : ad 68 = b ∧ ad 0 = q0 ∧ ad 46 = q8 ∧ ad 65 = q17 := by rw [← had]; exact ⟨rfl, rfl, rfl, rfl⟩
  have hlr : mm_lr ad ls [some (.ref 68), some (.ref 0), some (.ref 46), some (.ref 65), some (.int 0), none, none] := by
    refine ⟨hl.1, hl.2.1, fun i v hv => ?_⟩
    have hi : i < 7 := (List.getElem?_eq_some_iff.mp hv).1
    have hi : i = 0 ∨ i = 1 ∨ i = 2 ∨ i = 3 ∨ i = 4 ∨ i = 5 ∨ i = 6 := by omega
    rcases hi with rfl | rfl | rfl | rfl | rfl | rfl | rfl
    · cases hv; show _ = some (Slot.val (.ref (ad 68))); rw [e0.1]; exact lv_at hl 4 rfl
    · cases hv; show _ = some (Slot.val (.ref (ad 0))); rw [e0.2.1]; exact lv_at hl 3 rfl
    · cases hv; show _ = some (Slot.val (.ref (ad 46))); rw [e0.2.2.1]; exact lv_at hl 2 rfl
    · cases hv; show _ = some (Slot.val (.ref (ad 65))); rw [e0.2.2.2]; exact lv_at hl 1 rfl
    · cases hv; exact lv_at hl 0 rfl
    · cases hv
    · cases hv
  have hcst : mm_cst L xs (mm_s0 ad L xs) := ⟨fun j hj => rfl, fun j hj => rfl, fun j hj => rfl, rfl⟩
  refine W.widen (k := 66) (n := 432806) (by decide) (by decide) ?_
  exact K (dC, dI) cA ad adV (fun ad' h => ⟨hx, hb, hown, hts, hK, hEa ad' h, by omega⟩) ls H locs 66 432806 hlr hP hD hS hcst (show 66 + 600958 = 601024 from Nat.eq_of_beq_eq_true rfl) (show 432806 + 6860228 = 7293034 from Nat.eq_of_beq_eq_true rfl) rfl (by rw [hml]; exact hl.1.symm ▸ rfl)
