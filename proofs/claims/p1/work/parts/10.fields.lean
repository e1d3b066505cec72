/-! one instruction of the small machine is one of the real one -/
theorem mm_p1_inv {st : List Value} {k : Int32 → List Value → Prop} (h : mm_p1 st k) : ∃ x r, st = .int x :: r ∧ k x r := by
  unfold mm_p1 at h; split at h
  · exact ⟨_, _, rfl, h⟩
  · exact h.elim
theorem mm_p2_inv {st : List Value} {k : Int32 → Int32 → List Value → Prop} (h : mm_p2 st k) : ∃ x y r, st = .int y :: .int x :: r ∧ k x y r := by
  unfold mm_p2 at h; split at h
  · exact ⟨_, _, _, rfl, h⟩
  · exact h.elim
theorem mm_l1_inv {st : List Value} {k : Int64 → List Value → Prop} (h : mm_l1 st k) : ∃ x r, st = .long x :: r ∧ k x r := by
  unfold mm_l1 at h; split at h
  · exact ⟨_, _, rfl, h⟩
  · exact h.elim
theorem mm_l2_inv {st : List Value} {k : Int64 → Int64 → List Value → Prop} (h : mm_l2 st k) : ∃ x y r, st = .long y :: .long x :: r ∧ k x y r := by
  unfold mm_l2 at h; split at h
  · exact ⟨_, _, _, rfl, h⟩
  · exact h.elim
theorem mm_a1_inv {st : List Value} {k : Nat → List Value → Prop} (h : mm_a1 st k) : ∃ x r, st = .ref x :: r ∧ k x r := by
  unfold mm_a1 at h; split at h
  · exact ⟨_, _, rfl, h⟩
  · exact h.elim
theorem mm_ldI_inv {ls : mmL} {n : Nat} {k : Int32 → Prop} (h : mm_ldI ls n k) : ∃ x, ls[n]? = some (some (.int x)) ∧ k x := by
  unfold mm_ldI at h; split at h
  · rename_i e; exact ⟨_, e, h⟩
  · exact h.elim
theorem mm_ldL_inv {ls : mmL} {n : Nat} {k : Int64 → Prop} (h : mm_ldL ls n k) : ∃ x, ls[n]? = some (some (.long x)) ∧ k x := by
  unfold mm_ldL at h; split at h
  · rename_i e; exact ⟨_, e, h⟩
  · exact h.elim
theorem mm_ldA_inv {ls : mmL} {n : Nat} {k : Nat → Prop} (h : mm_ldA ls n k) : ∃ x, ls[n]? = some (some (.ref x)) ∧ k x := by
  unfold mm_ldA at h; split at h
  · rename_i e; exact ⟨_, e, h⟩
  · exact h.elim
theorem mm_st1_inv {ls : mmL} {n : Nat} {v : Value} {k : mmL → Prop} (h : mm_st1 ls n v k) : n < ls.length ∧ k ((mm_kill ls n).set n (some v)) := by
  unfold mm_st1 at h; split at h
  · rename_i e; exact ⟨Nat.le_of_ble_eq_true e, h⟩
  · exact h.elim
theorem mm_st2_inv {ls : mmL} {n : Nat} {v : Value} {k : mmL → Prop} (h : mm_st2 ls n v k) : n + 1 < ls.length ∧ k (((mm_kill ls n).set n (some v)).set (n + 1) none) := by
  unfold mm_st2 at h; split at h
  · rename_i e; exact ⟨Nat.le_of_ble_eq_true e, h⟩
  · exact h.elim
/-- the end of a method fits its answer -/
def mm_rk (q : mmE) (v : Option Value) : Prop := match q.1, v with
  | .ireturn, some (.int x) => q.2.2.2.2.1 = 5 → x = 0 ∨ x = 1
  | .lreturn, some (.long _) => True
  | .return_, none => True
  | _, _ => False
def mm_isI (i : Instr) : Prop := match i with
  | .invokevirtual _ => True
  | .invokestatic _ => True
  | _ => False

section MMX
variable {p : Program} {l : Launch} {e : Env} {R : Room} {s : State} {m : MethodId} {args : Array Value} {below : List Frame} {meth : Method} {c : Code} {own : Nat} {cc : ByteArray} {D : va_G} {cA : Nat → ClassId} {ad adV : Nat → Nat} {A : Nat → Prop} {L : Nat} {xs : Nat → Int32} {mc ms : Nat} {Q : State → Prop} {pc : Nat} {ls : mmL} {st : List Value} {σ : mmS}
theorem mm_lv_g {σ τ : mmS} (h : τ.1.1 = σ.1.1) (reg : Nat) : mm_lv τ.1 reg = mm_lv σ.1 reg := by
  unfold mm_lv; rw [h]
theorem mm_ix_g {σ τ : mmS} (h : τ.1.1 = σ.1.1) : mm_ix τ.1 = mm_ix σ.1 := by
  unfold mm_ix mm_in; simp only [mm_lv_g h]
theorem mm_fld0 : ∀ kd, kd < 11 → ∀ k, k < (mm_F.getD kd []).length → (mm_F.getD kd []).getD k 0 = 3 → kd = 0 ∧ k = 0 := by decide +kernel
theorem mm_fld4 : ∀ kd, kd < 11 → ∀ k, k < (mm_F.getD kd []).length → (mm_F.getD kd []).getD k 0 = 4 → kd = 6 ∧ k = 13 := by decide +kernel
theorem mm_bdo : ∀ r, r < 115 → (mm_T[r]?.map fun q => decide (q.2.1 = 0)) = some true → r = 6 := by decide +kernel
theorem mm_rdo : ∀ r, r < 115 → (mm_T[r]?.map fun q => decide (q.2.1 = 6)) = some true → r = 1 := by decide +kernel
theorem mm_Fout {kd k : Nat} (h : ¬ k < (mm_F.getD kd []).length) : (mm_F.getD kd []).getD k 0 = 0 := by
  rw [List.getD_eq_getElem?_getD, List.getElem?_eq_none (by omega)]; rfl
theorem mm_Fbig : ∀ kd, 11 ≤ kd → mm_F.getD kd [] = [] := by
  intro kd h
  rw [List.getD_eq_getElem?_getD, List.getElem?_eq_none]; · rfl
  · exact h

theorem mm_s_gf (X : mm_c p s m args c own cc D cA ad adV A L xs) {x r a b cd : Nat} (hd : decode cc pc = .ok (.getfield x, 3)) (ha : a < 11) (hb : b < (mm_F.getD a []).length) (hc : (mm_F.getD a []).getD b 0 = cd) (hl : mm_lk own x a b) (h : mm_gf r a b cd st σ fun s' => mm_g p l e R s m args below meth c D cA ad A L xs mc ms Q (pc + 3) ls s' σ) : mm_g p l e R s m args below meth c D cA ad A L xs mc ms Q pc ls (.ref r :: st) σ := by
  have h0 := mm_at_in h
  clear h
  obtain ⟨reg, kd, n, rf, ht, hv, h⟩ := h0
  split at h
  · exact h.elim
  · rename_i hq
    have hkd := Nat.eq_of_beq_eq_true hq
    subst hkd
    split at h
    · exact mm_s_get X hd hl ht hv ha hb (fun _ => True) (by rw [hc]; rfl) h
    · exact mm_s_get X hd hl ht hv ha hb (fun _ => True) (by rw [hc]; rfl) h
    · exact mm_s_get X hd hl ht hv ha hb (fun _ => True) (by rw [hc]; rfl) h
    · exact mm_s_get X hd hl ht hv ha hb (fun _ => True) (by rw [hc]; rfl) h
    · exact mm_s_get X hd hl ht hv ha hb (fun _ => True) (by rw [hc]; rfl) h
    · exact h.elim

theorem mm_s_pf (X : mm_c p s m args c own cc D cA ad adV A L xs) {x r a b cd : Nat} {v : Value} (hd : decode cc pc = .ok (.putfield x, 3)) (ha : a < 11) (hb : b < (mm_F.getD a []).length) (hl : mm_lk own x a b) (hfin : (mm_fn a b).2.2.2 = false)
    (hc : (cd = 0 ∧ mm_fty a b = some .int ∧ (mm_F.getD a []).getD b 0 = 0) ∨ (cd = 1 ∧ mm_fty a b = some .long ∧ (mm_F.getD a []).getD b 0 = 1) ∨ (cd = 5 ∧ mm_fty a b = some .boolean ∧ (mm_F.getD a []).getD b 0 = 0) ∨ (cd = 3 ∧ mm_fty a b = some (.object "ThreeBreaths$Cake") ∧ (mm_F.getD a []).getD b 0 = 3) ∨ (cd = 4 ∧ mm_fty a b = some (.object "ThreeBreaths$Cake") ∧ (mm_F.getD a []).getD b 0 = 4))
    (h : mm_pf r a b cd v σ fun τ => mm_g p l e R s m args below meth c D cA ad A L xs mc ms Q (pc + 3) ls st τ) : mm_g p l e R s m args below meth c D cA ad A L xs mc ms Q pc ls (v :: .ref r :: st) σ := by
  have h0 := mm_at_in h
  clear h
  obtain ⟨reg, kd, n, rf, ht, hv, h⟩ := h0
  split at h
  · exact h.elim
  rename_i hq
  have hkd := Nat.eq_of_beq_eq_true hq
  subst hkd
  have hr := (List.getElem?_eq_some_iff.mp ht).1
  rw [mm_T_len] at hr
  have oi : ∀ (y : Int32) (j : Nat), j ≠ b → mm_val ad (σ.1, mm_up σ.2.1 r b y, σ.2.2) r j ((mm_F.getD kd []).getD j 0) rf = mm_val ad σ r j ((mm_F.getD kd []).getD j 0) rf := by
    intro y j hj
    have e1 : mm_up σ.2.1 r b y r j = σ.2.1 r j := by rw [mm_up_at]; exact if_neg hj
    unfold mm_val; simp only [e1]
  have oj : ∀ (y : Int64) (j : Nat), j ≠ b → mm_val ad (σ.1, σ.2.1, mm_upJ σ.2.2 r b y) r j ((mm_F.getD kd []).getD j 0) rf = mm_val ad σ r j ((mm_F.getD kd []).getD j 0) rf := by
    intro y j hj
    have e1 : mm_upJ σ.2.2 r b y r j = σ.2.2 r j := by rw [mm_upJ_at]; exact if_neg hj
    unfold mm_val; simp only [e1]
  rcases hc with ⟨rfl, h1, h2⟩ | ⟨rfl, h1, h2⟩ | ⟨rfl, h1, h2⟩ | ⟨rfl, h1, h2⟩ | ⟨rfl, h1, h2⟩
  · cases v <;> dsimp only at h <;> first | exact h.elim | skip
    rename_i y
    refine mm_s_put X hd hl ht hv ha hb hfin (ty := .int) (τ := (σ.1, mm_up σ.2.1 r b y, σ.2.2)) h1 rfl rfl rfl ?_ (fun j hj => mm_cell_up hj) (fun q => mm_cst_up q ht (by omega)) rfl rfl rfl h
    exact (mm_fs_set (by rw [h2]; show Value.int (mm_up σ.2.1 r b y r b) = _; rw [mm_up_at]; simp [upd, mm_tr]) (oi y)).symm
  · cases v <;> dsimp only at h <;> first | exact h.elim | skip
    rename_i y
    refine mm_s_put X hd hl ht hv ha hb hfin (ty := .long) (τ := (σ.1, σ.2.1, mm_upJ σ.2.2 r b y)) h1 rfl rfl rfl ?_ (fun j hj => mm_cell_upJ hj) (fun q => q) rfl rfl rfl h
    exact (mm_fs_set (by rw [h2]; show Value.long (mm_upJ σ.2.2 r b y r b) = _; rw [mm_upJ_at]; simp [vp_updL, mm_tr]) (oj y)).symm
  · cases v <;> dsimp only at h <;> first | exact h.elim | skip
    rename_i y
    obtain ⟨h01, h⟩ := h
    refine mm_s_put X hd hl ht hv ha hb hfin (ty := .boolean) (τ := (σ.1, mm_up σ.2.1 r b y, σ.2.2)) h1 (by rcases h01 with rfl | rfl <;> rfl) (by rcases h01 with rfl | rfl <;> rfl) rfl ?_ (fun j hj => mm_cell_up hj) (fun q => mm_cst_up q ht (by omega)) rfl rfl rfl h
    exact (mm_fs_set (by rw [h2]; show Value.int (mm_up σ.2.1 r b y r b) = _; rw [mm_up_at]; simp [upd, mm_tr]) (oi y)).symm
  · cases v <;> dsimp only at h <;> first | exact h.elim | skip
    rename_i y
    obtain ⟨h01, h⟩ := h
    obtain ⟨e1, e2⟩ := mm_fld0 kd ha b hb h2
    subst e1; subst e2
    have hrb : r = 6 := mm_bdo r hr (by rw [ht]; rfl)
    have hy : mm_ck (Nat.beq y mm_cA) 0 = y := by rcases h01 with rfl | rfl <;> rfl
    refine mm_s_put X hd hl ht hv ha hb hfin (ty := .object "ThreeBreaths$Cake") (τ := ((σ.1.1, σ.1.2.1, σ.1.2.2.1, Nat.beq y mm_cA, σ.1.2.2.2.2), σ.2.1, σ.2.2)) h1 rfl rfl (mm_ix_g rfl) ?_ ?_ (fun q => q) rfl rfl rfl h
    · refine (mm_fs_set ?_ fun j hj => ?_).symm
      · rw [h2]; show Value.ref (ad (mm_ck (Nat.beq y mm_cA) 0)) = _; rw [hy]; rfl
      · have hj3 : (mm_F.getD 0 []).getD j 0 ≠ 3 := fun q => by
          by_cases hjl : j < (mm_F.getD 0 []).length
          · exact hj (mm_fld0 0 (by omega) j hjl q).2
          · rw [mm_Fout hjl] at q; omega
        unfold mm_val; split <;> first | rfl | (exact absurd (by assumption) hj3)
    · intro j hj
      unfold mm_cell
      cases hT : mm_T[j]? with
      | none => rfl
      | some z =>
        obtain ⟨reg', kd', n', rf'⟩ := z
        have hjl := (List.getElem?_eq_some_iff.mp hT).1
        rw [mm_T_len] at hjl
        have hkd' : kd' ≠ 0 := fun q => hj (by rw [hrb]; exact mm_bdo j hjl (by rw [hT, q]; rfl))
        have : mm_fs ad ((σ.1.1, σ.1.2.1, σ.1.2.2.1, Nat.beq y mm_cA, σ.1.2.2.2.2), σ.2.1, σ.2.2) j kd' rf' = mm_fs ad σ j kd' rf' := by
          unfold mm_fs
          refine List.map_congr_left fun k hk => ?_
          have hk := List.mem_range.mp hk
          have h3 : (mm_F.getD kd' []).getD k 0 ≠ 3 := fun q => by
            by_cases hkk : kd' < 11
            · exact hkd' (mm_fld0 kd' hkk k hk q).1
            · rw [mm_Fbig kd' (by omega)] at hk; simp at hk
          unfold mm_val; split <;> first | rfl | (exact absurd (by assumption) h3)
        simp only [this]
  · cases v <;> dsimp only at h <;> first | exact h.elim | skip
    rename_i y
    obtain ⟨h01, h⟩ := h
    obtain ⟨e1, e2⟩ := mm_fld4 kd ha b hb h2
    subst e1; subst e2
    have hrb : r = 1 := mm_rdo r hr (by rw [ht]; rfl)
    have hy : mm_ck (Nat.beq y mm_cA) 0 = y := by rcases h01 with rfl | rfl <;> rfl
    refine mm_s_put X hd hl ht hv ha hb hfin (ty := .object "ThreeBreaths$Cake") (τ := ((σ.1.1, σ.1.2.1, σ.1.2.2.1, σ.1.2.2.2.1, Nat.beq y mm_cA, σ.1.2.2.2.2.2), σ.2.1, σ.2.2)) h1 rfl rfl (mm_ix_g rfl) ?_ ?_ (fun q => q) rfl rfl rfl h
    · refine (mm_fs_set ?_ fun j hj => ?_).symm
      · rw [h2]; show Value.ref (ad (mm_ck (Nat.beq y mm_cA) 0)) = _; rw [hy]; rfl
      · have hj3 : (mm_F.getD 6 []).getD j 0 ≠ 4 := fun q => by
          by_cases hjl : j < (mm_F.getD 6 []).length
          · exact hj (mm_fld4 6 (by omega) j hjl q).2
          · rw [mm_Fout hjl] at q; omega
        unfold mm_val; split <;> first | rfl | (exact absurd (by assumption) hj3)
    · intro j hj
      unfold mm_cell
      cases hT : mm_T[j]? with
      | none => rfl
      | some z =>
        obtain ⟨reg', kd', n', rf'⟩ := z
        have hjl := (List.getElem?_eq_some_iff.mp hT).1
        rw [mm_T_len] at hjl
        have hkd' : kd' ≠ 6 := fun q => hj (by rw [hrb]; exact mm_rdo j hjl (by rw [hT, q]; rfl))
        have : mm_fs ad ((σ.1.1, σ.1.2.1, σ.1.2.2.1, σ.1.2.2.2.1, Nat.beq y mm_cA, σ.1.2.2.2.2.2), σ.2.1, σ.2.2) j kd' rf' = mm_fs ad σ j kd' rf' := by
          unfold mm_fs
          refine List.map_congr_left fun k hk => ?_
          have hk := List.mem_range.mp hk
          have h3 : (mm_F.getD kd' []).getD k 0 ≠ 4 := fun q => by
            by_cases hkk : kd' < 11
            · exact hkd' (mm_fld4 kd' hkk k hk q).1
            · rw [mm_Fbig kd' (by omega)] at hk; simp at hk
          unfold mm_val; split <;> first | rfl | (exact absurd (by assumption) h3)
        simp only [this]

end MMX
