theorem sx_abs {d : Nat} {x : Int32} {σ : mmS} {Q : mmQ} (h : Q (some (.int (if 0 ≤ x then x else 0 - x))) σ) : mm_wc (d + 1) 1000 [.int x] σ Q := h
theorem sx_max {d : Nat} {x y : Int32} {σ : mmS} {Q : mmQ} (h : Q (some (.int (if x < y then y else x))) σ) : mm_wc (d + 1) 1001 [.int x, .int y] σ Q := h
theorem sx_min {d : Nat} {x y : Int32} {σ : mmS} {Q : mmQ} (h : Q (some (.int (if y < x then y else x))) σ) : mm_wc (d + 1) 1002 [.int x, .int y] σ Q := h
/- 49 ThreeBreaths$Past.begin(I)V -/
def s_49 (x0 : Int32) (I : mmI) (J : mmJ) : mmI := (mm_up (mm_up (mm_up I 15 0 x0) 15 2 0) 15 4 0)
theorem sp_49 {d : Nat} {x0 : Int32} {g : mmG} {I : mmI} {J : mmJ} {Q : mmQ} (h : Q none (g, (s_49 x0 I J), J)) : mm_wc (d + 1) 49 [.ref 15, .int x0] (g, I, J) Q := by
  refine mm_call (c := 49) rfl rfl ?_
  refine mm_go [] 40 ?_
  exact h
/- 51 ThreeBreaths$Past.takeBack()Z -/
def p_51 (I : mmI) (J : mmJ) : Prop := (0 < (I 15 2) → (vp_in ((I 15 2) - 1) 20))
def v_51 (I : mmI) (J : mmJ) : Int32 := (if 0 < (I 15 2) then 1 else 0)
def s_51 (I : mmI) (J : mmJ) : mmI := (if 0 < (I 15 2) then (mm_up (mm_up I 15 2 ((I 15 2) - 1)) 15 0 (I 16 (((I 15 2) - 1)).toNatClampNeg)) else I)
theorem sp_51 {d : Nat} {g : mmG} {I : mmI} {J : mmJ} {Q : mmQ} (hp : p_51 I J) (h : Q (some (.int (v_51 I J))) (g, (s_51 I J), J)) : mm_wc (d + 1) 51 [.ref 15] (g, I, J) Q := by
  refine mm_call (c := 51) rfl rfl ?_
  refine mm_go [] 40 ?_
  show (0 < (I 15 2) → _) ∧ (¬ 0 < (I 15 2) → _)
  refine ⟨fun c0 => ?_, fun c0 => ?_⟩
  · show vp_in ((I 15 2) - 1) 20 ∧ _
    refine ⟨(hp c0), ?_⟩
    show ((1 : Int32) = 0 ∨ (1 : Int32) = 1) ∧ _
    refine ⟨(by decide), ?_⟩
    unfold v_51 at h
    unfold s_51 at h
    simp only [if_pos c0] at h
    exact h
  · show ((0 : Int32) = 0 ∨ (0 : Int32) = 1) ∧ _
    refine ⟨(by decide), ?_⟩
    unfold v_51 at h
    unfold s_51 at h
    simp only [if_neg c0] at h
    exact h
/- 52 ThreeBreaths$Past.keepImage()I -/
def p_52 (I : mmI) (J : mmJ) : Prop := ((I 15 4) < 3 → (vp_in (I 15 4) 3))
def v_52 (I : mmI) (J : mmJ) : Int32 := (if (I 15 4) < 3 then (((I 15 4) + 1) - 1) else (-1))
def s_52 (I : mmI) (J : mmJ) : mmI := (if (I 15 4) < 3 then (mm_up (mm_up I 17 ((I 15 4)).toNatClampNeg (I 15 0)) 15 4 ((I 15 4) + 1)) else I)
theorem sp_52 {d : Nat} {g : mmG} {I : mmI} {J : mmJ} {Q : mmQ} (hp : p_52 I J) (h : Q (some (.int (v_52 I J))) (g, (s_52 I J), J)) : mm_wc (d + 1) 52 [.ref 15] (g, I, J) Q := by
  refine mm_call (c := 52) rfl rfl ?_
  refine mm_go [] 40 ?_
  show ((I 15 4) < 3 → _) ∧ (¬ (I 15 4) < 3 → _)
  refine ⟨fun c0 => ?_, fun c0 => ?_⟩
  · show vp_in (I 15 4) 3 ∧ _
    refine ⟨(hp c0), ?_⟩
    unfold v_52 at h
    unfold s_52 at h
    simp only [if_pos c0] at h
    exact h
  · unfold v_52 at h
    unfold s_52 at h
    simp only [if_neg c0] at h
    exact h
/- 53 ThreeBreaths$Past.returnTo(I)Z -/
def p_53 (x0 : Int32) (I : mmI) (J : mmJ) : Prop := (¬ x0 < 0 → (x0 < (I 15 4) → (vp_in x0 3)))
def v_53 (x0 : Int32) (I : mmI) (J : mmJ) : Int32 := (if x0 < 0 then 0 else (if x0 < (I 15 4) then 1 else 0))
def s_53 (x0 : Int32) (I : mmI) (J : mmJ) : mmI := (if x0 < 0 then I else (if x0 < (I 15 4) then (mm_up (mm_up I 15 0 (I 17 x0.toNatClampNeg)) 15 2 0) else I))
theorem sp_53 {d : Nat} {x0 : Int32} {g : mmG} {I : mmI} {J : mmJ} {Q : mmQ} (hp : p_53 x0 I J) (h : Q (some (.int (v_53 x0 I J))) (g, (s_53 x0 I J), J)) : mm_wc (d + 1) 53 [.ref 15, .int x0] (g, I, J) Q := by
  refine mm_call (c := 53) rfl rfl ?_
  refine mm_go [] 40 ?_
  show (x0 < 0 → _) ∧ (¬ x0 < 0 → _)
  refine ⟨fun c0 => ?_, fun c0 => ?_⟩
  · show ((0 : Int32) = 0 ∨ (0 : Int32) = 1) ∧ _
    refine ⟨(by decide), ?_⟩
    unfold v_53 at h
    unfold s_53 at h
    simp only [if_pos c0] at h
    exact h
  · show (x0 < (I 15 4) → _) ∧ (¬ x0 < (I 15 4) → _)
    refine ⟨fun c1 => ?_, fun c1 => ?_⟩
    · show vp_in x0 3 ∧ _
      refine ⟨((hp c0) c1), ?_⟩
      show ((1 : Int32) = 0 ∨ (1 : Int32) = 1) ∧ _
      refine ⟨(by decide), ?_⟩
      unfold v_53 at h
      unfold s_53 at h
      simp only [if_neg c0] at h
      simp only [if_pos c1] at h
      exact h
    · show ((0 : Int32) = 0 ∨ (0 : Int32) = 1) ∧ _
      refine ⟨(by decide), ?_⟩
      unfold v_53 at h
      unfold s_53 at h
      simp only [if_neg c0] at h
      simp only [if_neg c1] at h
      exact h
/- 165 ThreeBreathsModel.thrown()I -/
def v_165 (I : mmI) (J : mmJ) : Int32 := (I 46 0)
theorem sp_165 {d : Nat} {g : mmG} {I : mmI} {J : mmJ} {Q : mmQ} (h : Q (some (.int (v_165 I J))) (g, I, J)) : mm_wc (d + 1) 165 [.ref 46] (g, I, J) Q := by
  refine mm_call (c := 165) rfl rfl ?_
  refine mm_go [] 40 ?_
  exact h
/- 166 ThreeBreathsModel.good()V -/
def s_166 (I : mmI) (J : mmJ) : mmI := (mm_up (mm_up I 46 0 0) 46 11 0)
theorem sp_166 {d : Nat} {g : mmG} {I : mmI} {J : mmJ} {Q : mmQ} (h : Q none (g, (s_166 I J), J)) : mm_wc (d + 1) 166 [.ref 46] (g, I, J) Q := by
  refine mm_call (c := 166) rfl rfl ?_
  refine mm_go [] 40 ?_
  exact h
/- 167 ThreeBreathsModel.no(I)I -/
def v_167 (x0 : Int32) (I : mmI) (J : mmJ) : Int32 := (-1)
def s_167 (x0 : Int32) (I : mmI) (J : mmJ) : mmI := (mm_up I 46 11 x0)
theorem sp_167 {d : Nat} {x0 : Int32} {g : mmG} {I : mmI} {J : mmJ} {Q : mmQ} (h : Q (some (.int (v_167 x0 I J))) (g, (s_167 x0 I J), J)) : mm_wc (d + 1) 167 [.ref 46, .int x0] (g, I, J) Q := by
  refine mm_call (c := 167) rfl rfl ?_
  refine mm_go [] 40 ?_
  exact h
/- 168 ThreeBreathsModel.isNot(I)Z -/
def v_168 (x0 : Int32) (I : mmI) (J : mmJ) : Int32 := 0
def s_168 (x0 : Int32) (I : mmI) (J : mmJ) : mmI := (mm_up I 46 11 x0)
theorem sp_168 {d : Nat} {x0 : Int32} {g : mmG} {I : mmI} {J : mmJ} {Q : mmQ} (h : Q (some (.int (v_168 x0 I J))) (g, (s_168 x0 I J), J)) : mm_wc (d + 1) 168 [.ref 46, .int x0] (g, I, J) Q := by
  refine mm_call (c := 168) rfl rfl ?_
  refine mm_go [] 40 ?_
  show ((0 : Int32) = 0 ∨ (0 : Int32) = 1) ∧ _
  refine ⟨(by decide), ?_⟩
  exact h
/- 169 ThreeBreathsModel.within(III)Z -/
def v_169 (x0 : Int32) (x1 : Int32) (x2 : Int32) (I : mmI) (J : mmJ) : Int32 := (if x0 < x1 then 0 else (if x2 < x0 then 0 else 1))
theorem sp_169 {d : Nat} {x0 : Int32} {x1 : Int32} {x2 : Int32} {g : mmG} {I : mmI} {J : mmJ} {Q : mmQ} (h : Q (some (.int (v_169 x0 x1 x2 I J))) (g, I, J)) : mm_wc (d + 1) 169 [.int x0, .int x1, .int x2] (g, I, J) Q := by
  refine mm_call (c := 169) rfl rfl ?_
  refine mm_go [] 40 ?_
  show (x0 < x1 → _) ∧ (¬ x0 < x1 → _)
  refine ⟨fun c0 => ?_, fun c0 => ?_⟩
  · show ((0 : Int32) = 0 ∨ (0 : Int32) = 1) ∧ _
    refine ⟨(by decide), ?_⟩
    unfold v_169 at h
    simp only [if_pos c0] at h
    exact h
  · show (x2 < x0 → _) ∧ (¬ x2 < x0 → _)
    refine ⟨fun c1 => ?_, fun c1 => ?_⟩
    · show ((0 : Int32) = 0 ∨ (0 : Int32) = 1) ∧ _
      refine ⟨(by decide), ?_⟩
      unfold v_169 at h
      simp only [if_neg c0] at h
      simp only [if_pos c1] at h
      exact h
    · show ((1 : Int32) = 0 ∨ (1 : Int32) = 1) ∧ _
      refine ⟨(by decide), ?_⟩
      unfold v_169 at h
      simp only [if_neg c0] at h
      simp only [if_neg c1] at h
      exact h
/- 170 ThreeBreathsModel.has(II)Z -/
def v_170 (x0 : Int32) (x1 : Int32) (I : mmI) (J : mmJ) : Int32 := (if ((x0 >>> (x1 &&& 31)) &&& 1) = 1 then 1 else 0)
theorem sp_170 {d : Nat} {x0 : Int32} {x1 : Int32} {g : mmG} {I : mmI} {J : mmJ} {Q : mmQ} (h : Q (some (.int (v_170 x0 x1 I J))) (g, I, J)) : mm_wc (d + 1) 170 [.int x0, .int x1] (g, I, J) Q := by
  refine mm_call (c := 170) rfl rfl ?_
  refine mm_go [] 40 ?_
  show (¬ ((x0 >>> (x1 &&& 31)) &&& 1) = 1 → _) ∧ (((x0 >>> (x1 &&& 31)) &&& 1) = 1 → _)
  refine ⟨fun c0 => ?_, fun c0 => ?_⟩
  · show ((0 : Int32) = 0 ∨ (0 : Int32) = 1) ∧ _
    refine ⟨(by decide), ?_⟩
    unfold v_170 at h
    simp only [if_neg c0] at h
    exact h
  · show ((1 : Int32) = 0 ∨ (1 : Int32) = 1) ∧ _
    refine ⟨(by decide), ?_⟩
    unfold v_170 at h
    simp only [if_pos c0] at h
    exact h
/- 173 ThreeBreathsModel.look(I)I -/
def p_173 (x0 : Int32) (I : mmI) (J : mmJ) : Prop := (¬ (I 46 3) ≤ x0 → (vp_in x0 900))
def v_173 (x0 : Int32) (I : mmI) (J : mmJ) : Int32 := (if (I 46 3) ≤ x0 then (-1) else (I 47 x0.toNatClampNeg))
theorem sp_173 {d : Nat} {x0 : Int32} {g : mmG} {I : mmI} {J : mmJ} {Q : mmQ} (hp : p_173 x0 I J) (h : Q (some (.int (v_173 x0 I J))) (g, I, J)) : mm_wc (d + 1) 173 [.ref 46, .int x0] (g, I, J) Q := by
  refine mm_call (c := 173) rfl rfl ?_
  refine mm_go [] 40 ?_
  show ((I 46 3) ≤ x0 → _) ∧ (¬ (I 46 3) ≤ x0 → _)
  refine ⟨fun c0 => ?_, fun c0 => ?_⟩
  · unfold v_173 at h
    simp only [if_pos c0] at h
    exact h
  · show vp_in x0 900 ∧ _
    refine ⟨(hp c0), ?_⟩
    unfold v_173 at h
    simp only [if_neg c0] at h
    exact h
/- 174 ThreeBreathsModel.isSmall(I)Z -/
def v_174 (x0 : Int32) (I : mmI) (J : mmJ) : Int32 := (if x0 < 97 then 0 else (if 122 < x0 then 0 else 1))
theorem sp_174 {d : Nat} {x0 : Int32} {g : mmG} {I : mmI} {J : mmJ} {Q : mmQ} (h : Q (some (.int (v_174 x0 I J))) (g, I, J)) : mm_wc (d + 1) 174 [.int x0] (g, I, J) Q := by
  refine mm_call (c := 174) rfl rfl ?_
  refine mm_go [] 40 ?_
  show (x0 < 97 → _) ∧ (¬ x0 < 97 → _)
  refine ⟨fun c0 => ?_, fun c0 => ?_⟩
  · show ((0 : Int32) = 0 ∨ (0 : Int32) = 1) ∧ _
    refine ⟨(by decide), ?_⟩
    unfold v_174 at h
    simp only [if_pos c0] at h
    exact h
  · show (122 < x0 → _) ∧ (¬ 122 < x0 → _)
    refine ⟨fun c1 => ?_, fun c1 => ?_⟩
    · show ((0 : Int32) = 0 ∨ (0 : Int32) = 1) ∧ _
      refine ⟨(by decide), ?_⟩
      unfold v_174 at h
      simp only [if_neg c0] at h
      simp only [if_pos c1] at h
      exact h
    · show ((1 : Int32) = 0 ∨ (1 : Int32) = 1) ∧ _
      refine ⟨(by decide), ?_⟩
      unfold v_174 at h
      simp only [if_neg c0] at h
      simp only [if_neg c1] at h
      exact h
/- 175 ThreeBreathsModel.isDigit(I)Z -/
def v_175 (x0 : Int32) (I : mmI) (J : mmJ) : Int32 := (if x0 < 48 then 0 else (if 57 < x0 then 0 else 1))
theorem sp_175 {d : Nat} {x0 : Int32} {g : mmG} {I : mmI} {J : mmJ} {Q : mmQ} (h : Q (some (.int (v_175 x0 I J))) (g, I, J)) : mm_wc (d + 1) 175 [.int x0] (g, I, J) Q := by
  refine mm_call (c := 175) rfl rfl ?_
  refine mm_go [] 40 ?_
  show (x0 < 48 → _) ∧ (¬ x0 < 48 → _)
  refine ⟨fun c0 => ?_, fun c0 => ?_⟩
  · show ((0 : Int32) = 0 ∨ (0 : Int32) = 1) ∧ _
    refine ⟨(by decide), ?_⟩
    unfold v_175 at h
    simp only [if_pos c0] at h
    exact h
  · show (57 < x0 → _) ∧ (¬ 57 < x0 → _)
    refine ⟨fun c1 => ?_, fun c1 => ?_⟩
    · show ((0 : Int32) = 0 ∨ (0 : Int32) = 1) ∧ _
      refine ⟨(by decide), ?_⟩
      unfold v_175 at h
      simp only [if_neg c0] at h
      simp only [if_pos c1] at h
      exact h
    · show ((1 : Int32) = 0 ∨ (1 : Int32) = 1) ∧ _
      refine ⟨(by decide), ?_⟩
      unfold v_175 at h
      simp only [if_neg c0] at h
      simp only [if_neg c1] at h
      exact h
/- 177 ThreeBreathsModel.wrong(II)V -/
def s_177 (x0 : Int32) (x1 : Int32) (I : mmI) (J : mmJ) : mmI := (if (I 46 13) = 0 then (mm_up (mm_up (mm_up I 46 13 1) 46 9 x0) 46 10 x1) else I)
theorem sp_177 {d : Nat} {x0 : Int32} {x1 : Int32} {g : mmG} {I : mmI} {J : mmJ} {Q : mmQ} (h : Q none (g, (s_177 x0 x1 I J), J)) : mm_wc (d + 1) 177 [.ref 46, .int x0, .int x1] (g, I, J) Q := by
  refine mm_call (c := 177) rfl rfl ?_
  refine mm_go [] 40 ?_
  show ((I 46 13) = 0 → _) ∧ (¬ (I 46 13) = 0 → _)
  refine ⟨fun c0 => ?_, fun c0 => ?_⟩
  · show ((1 : Int32) = 0 ∨ (1 : Int32) = 1) ∧ _
    refine ⟨(by decide), ?_⟩
    unfold s_177 at h
    simp only [if_pos c0] at h
    exact h
  · unfold s_177 at h
    simp only [if_neg c0] at h
    exact h
/- 199 ThreeBreathsModel.fault()I -/
def v_199 (I : mmI) (J : mmJ) : Int32 := (I 46 9)
def s_199 (I : mmI) (J : mmJ) : mmI := (mm_up I 46 0 0)
theorem sp_199 {d : Nat} {g : mmG} {I : mmI} {J : mmJ} {Q : mmQ} (h : Q (some (.int (v_199 I J))) (g, (s_199 I J), J)) : mm_wc (d + 1) 199 [.ref 46] (g, I, J) Q := by
  refine mm_call (c := 199) rfl rfl ?_
  refine mm_go [] 40 ?_
  exact h
/- 200 ThreeBreathsModel.where()I -/
def v_200 (I : mmI) (J : mmJ) : Int32 := (if (I 46 11) = 4 then (I 46 10) else (-1))
def s_200 (I : mmI) (J : mmJ) : mmI := (if (I 46 11) = 4 then (mm_up I 46 0 0) else (mm_up I 46 0 0))
theorem sp_200 {d : Nat} {g : mmG} {I : mmI} {J : mmJ} {Q : mmQ} (h : Q (some (.int (v_200 I J))) (g, (s_200 I J), J)) : mm_wc (d + 1) 200 [.ref 46] (g, I, J) Q := by
  refine mm_call (c := 200) rfl rfl ?_
  refine mm_go [] 40 ?_
  show (¬ (I 46 11) = 4 → _) ∧ ((I 46 11) = 4 → _)
  refine ⟨fun c0 => ?_, fun c0 => ?_⟩
  · unfold v_200 at h
    unfold s_200 at h
    simp only [if_neg c0] at h
    exact h
  · unfold v_200 at h
    unfold s_200 at h
    simp only [if_pos c0] at h
    exact h
/- 201 ThreeBreathsModel.isCandle(I)Z -/
def v_201 (x0 : Int32) (I : mmI) (J : mmJ) : Int32 := (if (I 46 14) = 0 then 0 else (if (v_169 x0 0 ((I 49 3) - 1) I J) = 0 then 0 else 1))
theorem sp_201 {d : Nat} {x0 : Int32} {g : mmG} {I : mmI} {J : mmJ} {Q : mmQ} (h : Q (some (.int (v_201 x0 I J))) (g, I, J)) : mm_wc (d + 2) 201 [.ref 46, .int x0] (g, I, J) Q := by
  refine mm_call (c := 201) rfl rfl ?_
  refine mm_go [] 40 ?_
  show ((I 46 14) = 0 → _) ∧ (¬ (I 46 14) = 0 → _)
  refine ⟨fun c0 => ?_, fun c0 => ?_⟩
  · show ((0 : Int32) = 0 ∨ (0 : Int32) = 1) ∧ _
    refine ⟨(by decide), ?_⟩
    unfold v_201 at h
    simp only [if_pos c0] at h
    exact h
  · show (vp_in 3 279) ∧ _
    refine ⟨(mm_inl (by decide)), ?_⟩
    show mm_wc (d + 1) 169 [.int x0, .int 0, .int ((I 49 3) - 1)] ((g.1, 0, 0, g.2.2.2), I, J) _
    refine mm_wc_le (d := d + 1) (by omega) (sp_169 ?_)
    refine mm_r1' ⟨rfl, ?_⟩
    show ((v_169 x0 0 ((I 49 3) - 1) I J) = 0 → _) ∧ (¬ (v_169 x0 0 ((I 49 3) - 1) I J) = 0 → _)
    refine ⟨fun c1 => ?_, fun c1 => ?_⟩
    · show ((0 : Int32) = 0 ∨ (0 : Int32) = 1) ∧ _
      refine ⟨(by decide), ?_⟩
      unfold v_201 at h
      simp only [if_neg c0] at h
      simp only [if_pos c1] at h
      exact h
    · show ((1 : Int32) = 0 ∨ (1 : Int32) = 1) ∧ _
      refine ⟨(by decide), ?_⟩
      unfold v_201 at h
      simp only [if_neg c0] at h
      simp only [if_neg c1] at h
      exact h
/- 202 ThreeBreathsModel.isPlace(I)Z -/
def v_202 (x0 : Int32) (I : mmI) (J : mmJ) : Int32 := (if (I 46 14) = 0 then 0 else (if (v_169 x0 0 ((I 49 4) - 1) I J) = 0 then 0 else 1))
theorem sp_202 {d : Nat} {x0 : Int32} {g : mmG} {I : mmI} {J : mmJ} {Q : mmQ} (h : Q (some (.int (v_202 x0 I J))) (g, I, J)) : mm_wc (d + 2) 202 [.ref 46, .int x0] (g, I, J) Q := by
  refine mm_call (c := 202) rfl rfl ?_
  refine mm_go [] 40 ?_
  show ((I 46 14) = 0 → _) ∧ (¬ (I 46 14) = 0 → _)
  refine ⟨fun c0 => ?_, fun c0 => ?_⟩
  · show ((0 : Int32) = 0 ∨ (0 : Int32) = 1) ∧ _
    refine ⟨(by decide), ?_⟩
    unfold v_202 at h
    simp only [if_pos c0] at h
    exact h
  · show (vp_in 4 279) ∧ _
    refine ⟨(mm_inl (by decide)), ?_⟩
    show mm_wc (d + 1) 169 [.int x0, .int 0, .int ((I 49 4) - 1)] ((g.1, 0, 0, g.2.2.2), I, J) _
    refine mm_wc_le (d := d + 1) (by omega) (sp_169 ?_)
    refine mm_r1' ⟨rfl, ?_⟩
    show ((v_169 x0 0 ((I 49 4) - 1) I J) = 0 → _) ∧ (¬ (v_169 x0 0 ((I 49 4) - 1) I J) = 0 → _)
    refine ⟨fun c1 => ?_, fun c1 => ?_⟩
    · show ((0 : Int32) = 0 ∨ (0 : Int32) = 1) ∧ _
      refine ⟨(by decide), ?_⟩
      unfold v_202 at h
      simp only [if_neg c0] at h
      simp only [if_pos c1] at h
      exact h
    · show ((1 : Int32) = 0 ∨ (1 : Int32) = 1) ∧ _
      refine ⟨(by decide), ?_⟩
      unfold v_202 at h
      simp only [if_neg c0] at h
      simp only [if_neg c1] at h
      exact h
/- 203 ThreeBreathsModel.isPerson(I)Z -/
def v_203 (x0 : Int32) (I : mmI) (J : mmJ) : Int32 := (if (I 46 14) = 0 then 0 else (if (v_169 x0 0 ((I 49 6) - 1) I J) = 0 then 0 else 1))
theorem sp_203 {d : Nat} {x0 : Int32} {g : mmG} {I : mmI} {J : mmJ} {Q : mmQ} (h : Q (some (.int (v_203 x0 I J))) (g, I, J)) : mm_wc (d + 2) 203 [.ref 46, .int x0] (g, I, J) Q := by
  refine mm_call (c := 203) rfl rfl ?_
  refine mm_go [] 40 ?_
  show ((I 46 14) = 0 → _) ∧ (¬ (I 46 14) = 0 → _)
  refine ⟨fun c0 => ?_, fun c0 => ?_⟩
  · show ((0 : Int32) = 0 ∨ (0 : Int32) = 1) ∧ _
    refine ⟨(by decide), ?_⟩
    unfold v_203 at h
    simp only [if_pos c0] at h
    exact h
  · show (vp_in 6 279) ∧ _
    refine ⟨(mm_inl (by decide)), ?_⟩
    show mm_wc (d + 1) 169 [.int x0, .int 0, .int ((I 49 6) - 1)] ((g.1, 0, 0, g.2.2.2), I, J) _
    refine mm_wc_le (d := d + 1) (by omega) (sp_169 ?_)
    refine mm_r1' ⟨rfl, ?_⟩
    show ((v_169 x0 0 ((I 49 6) - 1) I J) = 0 → _) ∧ (¬ (v_169 x0 0 ((I 49 6) - 1) I J) = 0 → _)
    refine ⟨fun c1 => ?_, fun c1 => ?_⟩
    · show ((0 : Int32) = 0 ∨ (0 : Int32) = 1) ∧ _
      refine ⟨(by decide), ?_⟩
      unfold v_203 at h
      simp only [if_neg c0] at h
      simp only [if_pos c1] at h
      exact h
    · show ((1 : Int32) = 0 ∨ (1 : Int32) = 1) ∧ _
      refine ⟨(by decide), ?_⟩
      unfold v_203 at h
      simp only [if_neg c0] at h
      simp only [if_neg c1] at h
      exact h
/- 205 ThreeBreathsModel.allCandles()I -/
def v_205 (I : mmI) (J : mmJ) : Int32 := ((1 <<< ((I 49 3) &&& 31)) - 1)
theorem sp_205 {d : Nat} {g : mmG} {I : mmI} {J : mmJ} {Q : mmQ} (h : Q (some (.int (v_205 I J))) (g, I, J)) : mm_wc (d + 1) 205 [.ref 46] (g, I, J) Q := by
  refine mm_call (c := 205) rfl rfl ?_
  refine mm_go [] 40 ?_
  show (vp_in 3 279) ∧ _
  refine ⟨(mm_inl (by decide)), ?_⟩
  exact h
/- 206 ThreeBreathsModel.breathMany()I -/
def v_206 (I : mmI) (J : mmJ) : Int32 := ((16 * (I 49 4)) * (I 49 6))
theorem sp_206 {d : Nat} {g : mmG} {I : mmI} {J : mmJ} {Q : mmQ} (h : Q (some (.int (v_206 I J))) (g, I, J)) : mm_wc (d + 1) 206 [.ref 46] (g, I, J) Q := by
  refine mm_call (c := 206) rfl rfl ?_
  refine mm_go [] 40 ?_
  show (vp_in 4 279) ∧ _
  refine ⟨(mm_inl (by decide)), ?_⟩
  show (vp_in 6 279) ∧ _
  refine ⟨(mm_inl (by decide)), ?_⟩
  exact h
/- 207 ThreeBreathsModel.personOf(I)I -/
def p_207 (x0 : Int32) (I : mmI) (J : mmJ) : Prop := (¬ (I 49 4) = 0)
def v_207 (x0 : Int32) (I : mmI) (J : mmJ) : Int32 := ((x0 / 16) / (I 49 4))
theorem sp_207 {d : Nat} {x0 : Int32} {g : mmG} {I : mmI} {J : mmJ} {Q : mmQ} (hp : p_207 x0 I J) (h : Q (some (.int (v_207 x0 I J))) (g, I, J)) : mm_wc (d + 1) 207 [.ref 46, .int x0] (g, I, J) Q := by
  refine mm_call (c := 207) rfl rfl ?_
  refine mm_go [] 40 ?_
  show (¬ (16 : Int32) = 0) ∧ _
  refine ⟨(by decide), ?_⟩
  show (vp_in 4 279) ∧ _
  refine ⟨(mm_inl (by decide)), ?_⟩
  show ¬ (I 49 4) = 0 ∧ _
  refine ⟨hp, ?_⟩
  exact h
/- 208 ThreeBreathsModel.placeOf(I)I -/
def p_208 (x0 : Int32) (I : mmI) (J : mmJ) : Prop := (¬ (I 49 4) = 0)
def v_208 (x0 : Int32) (I : mmI) (J : mmJ) : Int32 := ((x0 / 16) - (x0 / 16) / (I 49 4) * (I 49 4))
theorem sp_208 {d : Nat} {x0 : Int32} {g : mmG} {I : mmI} {J : mmJ} {Q : mmQ} (hp : p_208 x0 I J) (h : Q (some (.int (v_208 x0 I J))) (g, I, J)) : mm_wc (d + 1) 208 [.ref 46, .int x0] (g, I, J) Q := by
  refine mm_call (c := 208) rfl rfl ?_
  refine mm_go [] 40 ?_
  show (¬ (16 : Int32) = 0) ∧ _
  refine ⟨(by decide), ?_⟩
  show (vp_in 4 279) ∧ _
  refine ⟨(mm_inl (by decide)), ?_⟩
  show ¬ (I 49 4) = 0 ∧ _
  refine ⟨hp, ?_⟩
  exact h
/- 213 ThreeBreathsModel.burnOf(I)I -/
def v_213 (x0 : Int32) (I : mmI) (J : mmJ) : Int32 := (x0 &&& 16383)
theorem sp_213 {d : Nat} {x0 : Int32} {g : mmG} {I : mmI} {J : mmJ} {Q : mmQ} (h : Q (some (.int (v_213 x0 I J))) (g, I, J)) : mm_wc (d + 1) 213 [.int x0] (g, I, J) Q := by
  refine mm_call (c := 213) rfl rfl ?_
  refine mm_go [] 40 ?_
  exact h
/- 214 ThreeBreathsModel.dazeOf(I)I -/
def v_214 (x0 : Int32) (I : mmI) (J : mmJ) : Int32 := (x0 >>> (14 &&& 31))
theorem sp_214 {d : Nat} {x0 : Int32} {g : mmG} {I : mmI} {J : mmJ} {Q : mmQ} (h : Q (some (.int (v_214 x0 I J))) (g, I, J)) : mm_wc (d + 1) 214 [.int x0] (g, I, J) Q := by
  refine mm_call (c := 214) rfl rfl ?_
  refine mm_go [] 40 ?_
  exact h
/- 215 ThreeBreathsModel.candle(II)I -/
def p_215 (x0 : Int32) (x1 : Int32) (I : mmI) (J : mmJ) : Prop := (¬ (v_201 x0 (s_166 I J) J) = 0 → (¬ (v_169 x1 0 2 (s_166 I J) J) = 0 → (vp_in ((13 + (11 * x1)) + x0) 279)))
def v_215 (x0 : Int32) (x1 : Int32) (I : mmI) (J : mmJ) : Int32 := (if (v_201 x0 (s_166 I J) J) = 0 then (v_167 1 (s_166 I J) J) else (if (v_169 x1 0 2 (s_166 I J) J) = 0 then (v_167 1 (s_166 I J) J) else ((s_166 I J) 49 (((13 + (11 * x1)) + x0)).toNatClampNeg)))
def s_215 (x0 : Int32) (x1 : Int32) (I : mmI) (J : mmJ) : mmI := (if (v_201 x0 (s_166 I J) J) = 0 then (s_167 1 (s_166 I J) J) else (if (v_169 x1 0 2 (s_166 I J) J) = 0 then (s_167 1 (s_166 I J) J) else (s_166 I J)))
theorem sp_215 {d : Nat} {x0 : Int32} {x1 : Int32} {g : mmG} {I : mmI} {J : mmJ} {Q : mmQ} (hp : p_215 x0 x1 I J) (h : Q (some (.int (v_215 x0 x1 I J))) (g, (s_215 x0 x1 I J), J)) : mm_wc (d + 3) 215 [.ref 46, .int x0, .int x1] (g, I, J) Q := by
  refine mm_call (c := 215) rfl rfl ?_
  refine mm_go [] 40 ?_
  show mm_wc (d + 2) 166 [.ref 46] ((g.1, 0, 0, g.2.2.2), I, J) _
  refine mm_wc_le (d := d + 1) (by omega) (sp_166 ?_)
  refine mm_r0' ⟨rfl, ?_⟩
  show mm_wc (d + 2) 201 [.ref 46, .int x0] ((g.1, 0, 0, g.2.2.2), (s_166 I J), J) _
  refine mm_wc_le (d := d + 2) (by omega) (sp_201 ?_)
  refine mm_r1' ⟨rfl, ?_⟩
  show ((v_201 x0 (s_166 I J) J) = 0 → _) ∧ (¬ (v_201 x0 (s_166 I J) J) = 0 → _)
  refine ⟨fun c0 => ?_, fun c0 => ?_⟩
  · show mm_wc (d + 2) 167 [.ref 46, .int 1] ((g.1, 0, 0, g.2.2.2), (s_166 I J), J) _
    refine mm_wc_le (d := d + 1) (by omega) (sp_167 ?_)
    refine mm_r1' ⟨rfl, ?_⟩
    unfold v_215 at h
    unfold s_215 at h
    simp only [if_pos c0] at h
    exact h
  · show mm_wc (d + 2) 169 [.int x1, .int 0, .int 2] ((g.1, 0, 0, g.2.2.2), (s_166 I J), J) _
    refine mm_wc_le (d := d + 1) (by omega) (sp_169 ?_)
    refine mm_r1' ⟨rfl, ?_⟩
    show ((v_169 x1 0 2 (s_166 I J) J) = 0 → _) ∧ (¬ (v_169 x1 0 2 (s_166 I J) J) = 0 → _)
    refine ⟨fun c1 => ?_, fun c1 => ?_⟩
    · show mm_wc (d + 2) 167 [.ref 46, .int 1] ((g.1, 0, 0, g.2.2.2), (s_166 I J), J) _
      refine mm_wc_le (d := d + 1) (by omega) (sp_167 ?_)
      refine mm_r1' ⟨rfl, ?_⟩
      unfold v_215 at h
      unfold s_215 at h
      simp only [if_neg c0] at h
      simp only [if_pos c1] at h
      exact h
    · show vp_in ((13 + (11 * x1)) + x0) 279 ∧ _
      refine ⟨((hp c0) c1), ?_⟩
      unfold v_215 at h
      unfold s_215 at h
      simp only [if_neg c0] at h
      simp only [if_neg c1] at h
      exact h
/- 217 ThreeBreathsModel.breath(III)I -/
def v_217 (x0 : Int32) (x1 : Int32) (x2 : Int32) (I : mmI) (J : mmJ) : Int32 := (if (v_203 x0 (s_166 I J) J) = 0 then (v_167 1 (s_166 I J) J) else (if (v_202 x1 (s_166 I J) J) = 0 then (v_167 1 (s_166 I J) J) else (if (v_169 x2 0 15 (s_166 I J) J) = 0 then (v_167 1 (s_166 I J) J) else ((16 * ((((s_166 I J) 49 4) * x0) + x1)) + x2))))
def s_217 (x0 : Int32) (x1 : Int32) (x2 : Int32) (I : mmI) (J : mmJ) : mmI := (if (v_203 x0 (s_166 I J) J) = 0 then (s_167 1 (s_166 I J) J) else (if (v_202 x1 (s_166 I J) J) = 0 then (s_167 1 (s_166 I J) J) else (if (v_169 x2 0 15 (s_166 I J) J) = 0 then (s_167 1 (s_166 I J) J) else (s_166 I J))))
theorem sp_217 {d : Nat} {x0 : Int32} {x1 : Int32} {x2 : Int32} {g : mmG} {I : mmI} {J : mmJ} {Q : mmQ} (h : Q (some (.int (v_217 x0 x1 x2 I J))) (g, (s_217 x0 x1 x2 I J), J)) : mm_wc (d + 3) 217 [.ref 46, .int x0, .int x1, .int x2] (g, I, J) Q := by
  refine mm_call (c := 217) rfl rfl ?_
  refine mm_go [] 40 ?_
  show mm_wc (d + 2) 166 [.ref 46] ((g.1, 0, 0, g.2.2.2), I, J) _
  refine mm_wc_le (d := d + 1) (by omega) (sp_166 ?_)
  refine mm_r0' ⟨rfl, ?_⟩
  show mm_wc (d + 2) 203 [.ref 46, .int x0] ((g.1, 0, 0, g.2.2.2), (s_166 I J), J) _
  refine mm_wc_le (d := d + 2) (by omega) (sp_203 ?_)
  refine mm_r1' ⟨rfl, ?_⟩
  show ((v_203 x0 (s_166 I J) J) = 0 → _) ∧ (¬ (v_203 x0 (s_166 I J) J) = 0 → _)
  refine ⟨fun c0 => ?_, fun c0 => ?_⟩
  · show mm_wc (d + 2) 167 [.ref 46, .int 1] ((g.1, 0, 0, g.2.2.2), (s_166 I J), J) _
    refine mm_wc_le (d := d + 1) (by omega) (sp_167 ?_)
    refine mm_r1' ⟨rfl, ?_⟩
    unfold v_217 at h
    unfold s_217 at h
    simp only [if_pos c0] at h
    exact h
  · show mm_wc (d + 2) 202 [.ref 46, .int x1] ((g.1, 0, 0, g.2.2.2), (s_166 I J), J) _
    refine mm_wc_le (d := d + 2) (by omega) (sp_202 ?_)
    refine mm_r1' ⟨rfl, ?_⟩
    show ((v_202 x1 (s_166 I J) J) = 0 → _) ∧ (¬ (v_202 x1 (s_166 I J) J) = 0 → _)
    refine ⟨fun c1 => ?_, fun c1 => ?_⟩
    · show mm_wc (d + 2) 167 [.ref 46, .int 1] ((g.1, 0, 0, g.2.2.2), (s_166 I J), J) _
      refine mm_wc_le (d := d + 1) (by omega) (sp_167 ?_)
      refine mm_r1' ⟨rfl, ?_⟩
      unfold v_217 at h
      unfold s_217 at h
      simp only [if_neg c0] at h
      simp only [if_pos c1] at h
      exact h
    · show mm_wc (d + 2) 169 [.int x2, .int 0, .int 15] ((g.1, 0, 0, g.2.2.2), (s_166 I J), J) _
      refine mm_wc_le (d := d + 1) (by omega) (sp_169 ?_)
      refine mm_r1' ⟨rfl, ?_⟩
      show ((v_169 x2 0 15 (s_166 I J) J) = 0 → _) ∧ (¬ (v_169 x2 0 15 (s_166 I J) J) = 0 → _)
      refine ⟨fun c2 => ?_, fun c2 => ?_⟩
      · show mm_wc (d + 2) 167 [.ref 46, .int 1] ((g.1, 0, 0, g.2.2.2), (s_166 I J), J) _
        refine mm_wc_le (d := d + 1) (by omega) (sp_167 ?_)
        refine mm_r1' ⟨rfl, ?_⟩
        unfold v_217 at h
        unfold s_217 at h
        simp only [if_neg c0] at h
        simp only [if_neg c1] at h
        simp only [if_pos c2] at h
        exact h
      · show (vp_in 4 279) ∧ _
        refine ⟨(mm_inl (by decide)), ?_⟩
        unfold v_217 at h
        unfold s_217 at h
        simp only [if_neg c0] at h
        simp only [if_neg c1] at h
        simp only [if_neg c2] at h
        exact h
/- 222 ThreeBreathsModel.burning()I -/
def v_222 (I : mmI) (J : mmJ) : Int32 := (if ((s_166 I J) 46 14) = 0 then (v_167 1 (s_166 I J) J) else ((s_166 I J) 46 17))
def s_222 (I : mmI) (J : mmJ) : mmI := (if ((s_166 I J) 46 14) = 0 then (s_167 1 (s_166 I J) J) else (s_166 I J))
theorem sp_222 {d : Nat} {g : mmG} {I : mmI} {J : mmJ} {Q : mmQ} (h : Q (some (.int (v_222 I J))) (g, (s_222 I J), J)) : mm_wc (d + 2) 222 [.ref 46] (g, I, J) Q := by
  refine mm_call (c := 222) rfl rfl ?_
  refine mm_go [] 40 ?_
  show mm_wc (d + 1) 166 [.ref 46] ((g.1, 0, 0, g.2.2.2), I, J) _
  refine mm_wc_le (d := d + 1) (by omega) (sp_166 ?_)
  refine mm_r0' ⟨rfl, ?_⟩
  show (((s_166 I J) 46 14) = 0 → _) ∧ (¬ ((s_166 I J) 46 14) = 0 → _)
  refine ⟨fun c0 => ?_, fun c0 => ?_⟩
  · show mm_wc (d + 1) 167 [.ref 46, .int 1] ((g.1, 0, 0, g.2.2.2), (s_166 I J), J) _
    refine mm_wc_le (d := d + 1) (by omega) (sp_167 ?_)
    refine mm_r1' ⟨rfl, ?_⟩
    unfold v_222 at h
    unfold s_222 at h
    simp only [if_pos c0] at h
    exact h
  · unfold v_222 at h
    unfold s_222 at h
    simp only [if_neg c0] at h
    exact h
/- 223 ThreeBreathsModel.dazed()I -/
def v_223 (I : mmI) (J : mmJ) : Int32 := (if ((s_166 I J) 46 14) = 0 then (v_167 1 (s_166 I J) J) else ((s_166 I J) 46 18))
def s_223 (I : mmI) (J : mmJ) : mmI := (if ((s_166 I J) 46 14) = 0 then (s_167 1 (s_166 I J) J) else (s_166 I J))
theorem sp_223 {d : Nat} {g : mmG} {I : mmI} {J : mmJ} {Q : mmQ} (h : Q (some (.int (v_223 I J))) (g, (s_223 I J), J)) : mm_wc (d + 2) 223 [.ref 46] (g, I, J) Q := by
  refine mm_call (c := 223) rfl rfl ?_
  refine mm_go [] 40 ?_
  show mm_wc (d + 1) 166 [.ref 46] ((g.1, 0, 0, g.2.2.2), I, J) _
  refine mm_wc_le (d := d + 1) (by omega) (sp_166 ?_)
  refine mm_r0' ⟨rfl, ?_⟩
  show (((s_166 I J) 46 14) = 0 → _) ∧ (¬ ((s_166 I J) 46 14) = 0 → _)
  refine ⟨fun c0 => ?_, fun c0 => ?_⟩
  · show mm_wc (d + 1) 167 [.ref 46, .int 1] ((g.1, 0, 0, g.2.2.2), (s_166 I J), J) _
    refine mm_wc_le (d := d + 1) (by omega) (sp_167 ?_)
    refine mm_r1' ⟨rfl, ?_⟩
    unfold v_223 at h
    unfold s_223 at h
    simp only [if_pos c0] at h
    exact h
  · unfold v_223 at h
    unfold s_223 at h
    simp only [if_neg c0] at h
    exact h
/- 224 ThreeBreathsModel.allThere()V -/
def s_224 (I : mmI) (J : mmJ) : mmI := (mm_up I 46 27 ((v_205 I J) ||| 1024))
theorem sp_224 {d : Nat} {g : mmG} {I : mmI} {J : mmJ} {Q : mmQ} (h : Q none (g, (s_224 I J), J)) : mm_wc (d + 2) 224 [.ref 46] (g, I, J) Q := by
  refine mm_call (c := 224) rfl rfl ?_
  refine mm_go [] 40 ?_
  show mm_wc (d + 1) 205 [.ref 46] ((g.1, 0, 0, g.2.2.2), I, J) _
  refine mm_wc_le (d := d + 1) (by omega) (sp_205 ?_)
  refine mm_r1' ⟨rfl, ?_⟩
  exact h
/- 233 ThreeBreathsModel.undo()Z -/
def p_233 (I : mmI) (J : mmJ) : Prop := ((¬ ((s_166 I J) 46 19) = 0 → (vp_in (2 * (((s_166 I J) 46 19) - 1)) 40 ∧ (vp_in ((2 * (((s_166 I J) 46 19) - 1)) + 1) 40))) ∧ (((s_166 I J) 46 19) = 0 → (((v_168 6 (s_166 I J) J) = 0 ∨ (v_168 6 (s_166 I J) J) = 1))))
def v_233 (I : mmI) (J : mmJ) : Int32 := (if ((s_166 I J) 46 19) = 0 then (v_168 6 (s_166 I J) J) else 1)
def s_233 (I : mmI) (J : mmJ) : mmI := (if ((s_166 I J) 46 19) = 0 then (s_168 6 (s_166 I J) J) else (mm_up (mm_up (mm_up (s_166 I J) 46 19 (((s_166 I J) 46 19) - 1)) 46 17 ((s_166 I J) 51 ((2 * (((s_166 I J) 46 19) - 1))).toNatClampNeg)) 46 18 ((s_166 I J) 51 (((2 * (((s_166 I J) 46 19) - 1)) + 1)).toNatClampNeg)))
theorem sp_233 {d : Nat} {g : mmG} {I : mmI} {J : mmJ} {Q : mmQ} (hp : p_233 I J) (h : Q (some (.int (v_233 I J))) (g, (s_233 I J), J)) : mm_wc (d + 2) 233 [.ref 46] (g, I, J) Q := by
  refine mm_call (c := 233) rfl rfl ?_
  refine mm_go [] 40 ?_
  show mm_wc (d + 1) 166 [.ref 46] ((g.1, 0, 0, g.2.2.2), I, J) _
  refine mm_wc_le (d := d + 1) (by omega) (sp_166 ?_)
  refine mm_r0' ⟨rfl, ?_⟩
  show (¬ ((s_166 I J) 46 19) = 0 → _) ∧ (((s_166 I J) 46 19) = 0 → _)
  refine ⟨fun c0 => ?_, fun c0 => ?_⟩
  · show vp_in (2 * (((s_166 I J) 46 19) - 1)) 40 ∧ _
    refine ⟨(hp.1 c0).1, ?_⟩
    show vp_in ((2 * (((s_166 I J) 46 19) - 1)) + 1) 40 ∧ _
    refine ⟨(hp.1 c0).2, ?_⟩
    show ((1 : Int32) = 0 ∨ (1 : Int32) = 1) ∧ _
    refine ⟨(by decide), ?_⟩
    unfold v_233 at h
    unfold s_233 at h
    simp only [if_neg c0] at h
    exact h
  · show mm_wc (d + 1) 168 [.ref 46, .int 6] ((g.1, 0, 0, g.2.2.2), (s_166 I J), J) _
    refine mm_wc_le (d := d + 1) (by omega) (sp_168 ?_)
    refine mm_r1' ⟨rfl, ?_⟩
    show ((v_168 6 (s_166 I J) J) = 0 ∨ (v_168 6 (s_166 I J) J) = 1) ∧ _
    refine ⟨(hp.2 c0), ?_⟩
    unfold v_233 at h
    unfold s_233 at h
    simp only [if_pos c0] at h
    exact h
/- 237 ThreeBreathsModel.burnIn(I)I -/
def v_237 (x0 : Int32) (I : mmI) (J : mmJ) : Int32 := (x0 &&& 2047)
theorem sp_237 {d : Nat} {x0 : Int32} {g : mmG} {I : mmI} {J : mmJ} {Q : mmQ} (h : Q (some (.int (v_237 x0 I J))) (g, I, J)) : mm_wc (d + 1) 237 [.int x0] (g, I, J) Q := by
  refine mm_call (c := 237) rfl rfl ?_
  refine mm_go [] 40 ?_
  exact h
/- 243 ThreeBreathsModel.isOn(II)Z -/
def p_243 (x0 : Int32) (x1 : Int32) (I : mmI) (J : mmJ) : Prop := (vp_in x1 16384 ∧ (vp_in x0 16384 ∧ ((I 58 x1.toNatClampNeg) = ((I 58 x0.toNatClampNeg) + 1) → (vp_in x1 16384))))
def v_243 (x0 : Int32) (x1 : Int32) (I : mmI) (J : mmJ) : Int32 := (if (I 58 x1.toNatClampNeg) = ((I 58 x0.toNatClampNeg) + 1) then (if (I 60 x1.toNatClampNeg) = 0 then 0 else 1) else 0)
theorem sp_243 {d : Nat} {x0 : Int32} {x1 : Int32} {g : mmG} {I : mmI} {J : mmJ} {Q : mmQ} (hp : p_243 x0 x1 I J) (h : Q (some (.int (v_243 x0 x1 I J))) (g, I, J)) : mm_wc (d + 1) 243 [.ref 46, .int x0, .int x1] (g, I, J) Q := by
  refine mm_call (c := 243) rfl rfl ?_
  refine mm_go [] 40 ?_
  show vp_in x1 16384 ∧ _
  refine ⟨hp.1, ?_⟩
  show vp_in x0 16384 ∧ _
  refine ⟨hp.2.1, ?_⟩
  show (¬ (I 58 x1.toNatClampNeg) = ((I 58 x0.toNatClampNeg) + 1) → _) ∧ ((I 58 x1.toNatClampNeg) = ((I 58 x0.toNatClampNeg) + 1) → _)
  refine ⟨fun c0 => ?_, fun c0 => ?_⟩
  · show ((0 : Int32) = 0 ∨ (0 : Int32) = 1) ∧ _
    refine ⟨(by decide), ?_⟩
    unfold v_243 at h
    simp only [if_neg c0] at h
    exact h
  · show vp_in x1 16384 ∧ _
    refine ⟨(hp.2.2 c0), ?_⟩
    show ((I 60 x1.toNatClampNeg) = 0 → _) ∧ (¬ (I 60 x1.toNatClampNeg) = 0 → _)
    refine ⟨fun c1 => ?_, fun c1 => ?_⟩
    · show ((0 : Int32) = 0 ∨ (0 : Int32) = 1) ∧ _
      refine ⟨(by decide), ?_⟩
      unfold v_243 at h
      simp only [if_pos c0] at h
      simp only [if_pos c1] at h
      exact h
    · show ((1 : Int32) = 0 ∨ (1 : Int32) = 1) ∧ _
      refine ⟨(by decide), ?_⟩
      unfold v_243 at h
      simp only [if_pos c0] at h
      simp only [if_neg c1] at h
      exact h
/- 249 ThreeBreathsModel.far(II)I -/
def p_249 (x0 : Int32) (x1 : Int32) (I : mmI) (J : mmJ) : Prop := (vp_in (46 + x0) 279 ∧ (vp_in (46 + x1) 279 ∧ (vp_in (51 + x0) 279 ∧ (vp_in (51 + x1) 279))))
def v_249 (x0 : Int32) (x1 : Int32) (I : mmI) (J : mmJ) : Int32 := (if 0 ≤ ((I 49 ((46 + x0)).toNatClampNeg) - (I 49 ((46 + x1)).toNatClampNeg)) then (if 0 ≤ ((I 49 ((51 + x0)).toNatClampNeg) - (I 49 ((51 + x1)).toNatClampNeg)) then (((I 49 ((46 + x0)).toNatClampNeg) - (I 49 ((46 + x1)).toNatClampNeg)) + ((I 49 ((51 + x0)).toNatClampNeg) - (I 49 ((51 + x1)).toNatClampNeg))) else (((I 49 ((46 + x0)).toNatClampNeg) - (I 49 ((46 + x1)).toNatClampNeg)) + (-((I 49 ((51 + x0)).toNatClampNeg) - (I 49 ((51 + x1)).toNatClampNeg))))) else (if 0 ≤ ((I 49 ((51 + x0)).toNatClampNeg) - (I 49 ((51 + x1)).toNatClampNeg)) then ((-((I 49 ((46 + x0)).toNatClampNeg) - (I 49 ((46 + x1)).toNatClampNeg))) + ((I 49 ((51 + x0)).toNatClampNeg) - (I 49 ((51 + x1)).toNatClampNeg))) else ((-((I 49 ((46 + x0)).toNatClampNeg) - (I 49 ((46 + x1)).toNatClampNeg))) + (-((I 49 ((51 + x0)).toNatClampNeg) - (I 49 ((51 + x1)).toNatClampNeg))))))
theorem sp_249 {d : Nat} {x0 : Int32} {x1 : Int32} {g : mmG} {I : mmI} {J : mmJ} {Q : mmQ} (hp : p_249 x0 x1 I J) (h : Q (some (.int (v_249 x0 x1 I J))) (g, I, J)) : mm_wc (d + 1) 249 [.ref 46, .int x0, .int x1] (g, I, J) Q := by
  refine mm_call (c := 249) rfl rfl ?_
  refine mm_go [] 40 ?_
  show vp_in (46 + x0) 279 ∧ _
  refine ⟨hp.1, ?_⟩
  show vp_in (46 + x1) 279 ∧ _
  refine ⟨hp.2.1, ?_⟩
  show vp_in (51 + x0) 279 ∧ _
  refine ⟨hp.2.2.1, ?_⟩
  show vp_in (51 + x1) 279 ∧ _
  refine ⟨hp.2.2.2, ?_⟩
  show (0 ≤ ((I 49 ((46 + x0)).toNatClampNeg) - (I 49 ((46 + x1)).toNatClampNeg)) → _) ∧ (¬ 0 ≤ ((I 49 ((46 + x0)).toNatClampNeg) - (I 49 ((46 + x1)).toNatClampNeg)) → _)
  refine ⟨fun c0 => ?_, fun c0 => ?_⟩
  · show (0 ≤ ((I 49 ((51 + x0)).toNatClampNeg) - (I 49 ((51 + x1)).toNatClampNeg)) → _) ∧ (¬ 0 ≤ ((I 49 ((51 + x0)).toNatClampNeg) - (I 49 ((51 + x1)).toNatClampNeg)) → _)
    refine ⟨fun c1 => ?_, fun c1 => ?_⟩
    · unfold v_249 at h
      simp only [if_pos c0] at h
      simp only [if_pos c1] at h
      exact h
    · unfold v_249 at h
      simp only [if_pos c0] at h
      simp only [if_neg c1] at h
      exact h
  · show (0 ≤ ((I 49 ((51 + x0)).toNatClampNeg) - (I 49 ((51 + x1)).toNatClampNeg)) → _) ∧ (¬ 0 ≤ ((I 49 ((51 + x0)).toNatClampNeg) - (I 49 ((51 + x1)).toNatClampNeg)) → _)
    refine ⟨fun c1 => ?_, fun c1 => ?_⟩
    · unfold v_249 at h
      simp only [if_neg c0] at h
      simp only [if_pos c1] at h
      exact h
    · unfold v_249 at h
      simp only [if_neg c0] at h
      simp only [if_neg c1] at h
      exact h
/- 255 ThreeBreathsModel.weight(I)I -/
def p_255 (x0 : Int32) (I : mmI) (J : mmJ) : Prop := (¬ (I 49 7) = 0 → (vp_in (10 + x0) 279))
def v_255 (x0 : Int32) (I : mmI) (J : mmJ) : Int32 := (if (I 49 7) = 0 then (if x0 = 1 then 1 else 0) else (I 49 ((10 + x0)).toNatClampNeg))
theorem sp_255 {d : Nat} {x0 : Int32} {g : mmG} {I : mmI} {J : mmJ} {Q : mmQ} (hp : p_255 x0 I J) (h : Q (some (.int (v_255 x0 I J))) (g, I, J)) : mm_wc (d + 1) 255 [.ref 46, .int x0] (g, I, J) Q := by
  refine mm_call (c := 255) rfl rfl ?_
  refine mm_go [] 40 ?_
  show (vp_in 7 279) ∧ _
  refine ⟨(mm_inl (by decide)), ?_⟩
  show (¬ (I 49 7) = 0 → _) ∧ ((I 49 7) = 0 → _)
  refine ⟨fun c0 => ?_, fun c0 => ?_⟩
  · show vp_in (10 + x0) 279 ∧ _
    refine ⟨(hp c0), ?_⟩
    unfold v_255 at h
    simp only [if_neg c0] at h
    exact h
  · show (¬ x0 = 1 → _) ∧ (x0 = 1 → _)
    refine ⟨fun c1 => ?_, fun c1 => ?_⟩
    · unfold v_255 at h
      simp only [if_pos c0] at h
      simp only [if_neg c1] at h
      exact h
    · unfold v_255 at h
      simp only [if_pos c0] at h
      simp only [if_pos c1] at h
      exact h
/- 261 ThreeBreathsModel.countWhy(II)I -/
def v_261 (x0 : Int32) (x1 : Int32) (I : mmI) (J : mmJ) : Int32 := (if (I 46 14) = 0 then 1 else (if (v_169 x0 1 x1 I J) = 0 then 2 else 0))
theorem sp_261 {d : Nat} {x0 : Int32} {x1 : Int32} {g : mmG} {I : mmI} {J : mmJ} {Q : mmQ} (h : Q (some (.int (v_261 x0 x1 I J))) (g, I, J)) : mm_wc (d + 2) 261 [.ref 46, .int x0, .int x1] (g, I, J) Q := by
  refine mm_call (c := 261) rfl rfl ?_
  refine mm_go [] 40 ?_
  show (¬ (I 46 14) = 0 → _) ∧ ((I 46 14) = 0 → _)
  refine ⟨fun c0 => ?_, fun c0 => ?_⟩
  · show mm_wc (d + 1) 169 [.int x0, .int 1, .int x1] ((g.1, 0, 0, g.2.2.2), I, J) _
    refine mm_wc_le (d := d + 1) (by omega) (sp_169 ?_)
    refine mm_r1' ⟨rfl, ?_⟩
    show ((v_169 x0 1 x1 I J) = 0 → _) ∧ (¬ (v_169 x0 1 x1 I J) = 0 → _)
    refine ⟨fun c1 => ?_, fun c1 => ?_⟩
    · unfold v_261 at h
      simp only [if_neg c0] at h
      simp only [if_pos c1] at h
      exact h
    · unfold v_261 at h
      simp only [if_neg c0] at h
      simp only [if_neg c1] at h
      exact h
  · unfold v_261 at h
    simp only [if_pos c0] at h
    exact h
/- 267 ThreeBreathsModel.fitWhy(I)I -/
def v_267 (x0 : Int32) (I : mmI) (J : mmJ) : Int32 := (if (v_261 x0 2 I J) = 0 then (if (I 49 8) = 0 then 6 else (v_261 x0 2 I J)) else (v_261 x0 2 I J))
theorem sp_267 {d : Nat} {x0 : Int32} {g : mmG} {I : mmI} {J : mmJ} {Q : mmQ} (h : Q (some (.int (v_267 x0 I J))) (g, I, J)) : mm_wc (d + 3) 267 [.ref 46, .int x0] (g, I, J) Q := by
  refine mm_call (c := 267) rfl rfl ?_
  refine mm_go [] 40 ?_
  show mm_wc (d + 2) 261 [.ref 46, .int x0, .int 2] ((g.1, 0, 0, g.2.2.2), I, J) _
  refine mm_wc_le (d := d + 2) (by omega) (sp_261 ?_)
  refine mm_r1' ⟨rfl, ?_⟩
  show (¬ (v_261 x0 2 I J) = 0 → _) ∧ ((v_261 x0 2 I J) = 0 → _)
  refine ⟨fun c0 => ?_, fun c0 => ?_⟩
  · unfold v_267 at h
    simp only [if_neg c0] at h
    exact h
  · show (vp_in 8 279) ∧ _
    refine ⟨(mm_inl (by decide)), ?_⟩
    show (¬ (I 49 8) = 0 → _) ∧ ((I 49 8) = 0 → _)
    refine ⟨fun c1 => ?_, fun c1 => ?_⟩
    · unfold v_267 at h
      simp only [if_pos c0] at h
      simp only [if_neg c1] at h
      exact h
    · unfold v_267 at h
      simp only [if_pos c0] at h
      simp only [if_pos c1] at h
      exact h
/- 273 ThreeBreathsModel.image()I -/
def p_273 (I : mmI) (J : mmJ) : Prop := (¬ ((s_166 I J) 46 14) = 0 → (¬ ((s_166 I J) 46 20) = 3 → (vp_in (2 * ((s_166 I J) 46 20)) 6 ∧ (vp_in ((2 * ((s_166 I J) 46 20)) + 1) 6))))
def v_273 (I : mmI) (J : mmJ) : Int32 := (if ((s_166 I J) 46 14) = 0 then (v_167 1 (s_166 I J) J) else (if ((s_166 I J) 46 20) = 3 then (v_167 3 (s_166 I J) J) else ((((s_166 I J) 46 20) + 1) - 1)))
def s_273 (I : mmI) (J : mmJ) : mmI := (if ((s_166 I J) 46 14) = 0 then (s_167 1 (s_166 I J) J) else (if ((s_166 I J) 46 20) = 3 then (s_167 3 (s_166 I J) J) else (mm_up (mm_up (mm_up (s_166 I J) 52 ((2 * ((s_166 I J) 46 20))).toNatClampNeg ((s_166 I J) 46 17)) 52 (((2 * ((s_166 I J) 46 20)) + 1)).toNatClampNeg ((s_166 I J) 46 18)) 46 20 (((s_166 I J) 46 20) + 1))))
theorem sp_273 {d : Nat} {g : mmG} {I : mmI} {J : mmJ} {Q : mmQ} (hp : p_273 I J) (h : Q (some (.int (v_273 I J))) (g, (s_273 I J), J)) : mm_wc (d + 2) 273 [.ref 46] (g, I, J) Q := by
  refine mm_call (c := 273) rfl rfl ?_
  refine mm_go [] 40 ?_
  show mm_wc (d + 1) 166 [.ref 46] ((g.1, 0, 0, g.2.2.2), I, J) _
  refine mm_wc_le (d := d + 1) (by omega) (sp_166 ?_)
  refine mm_r0' ⟨rfl, ?_⟩
  show (¬ ((s_166 I J) 46 14) = 0 → _) ∧ (((s_166 I J) 46 14) = 0 → _)
  refine ⟨fun c0 => ?_, fun c0 => ?_⟩
  · show (¬ ((s_166 I J) 46 20) = 3 → _) ∧ (((s_166 I J) 46 20) = 3 → _)
    refine ⟨fun c1 => ?_, fun c1 => ?_⟩
    · show vp_in (2 * ((s_166 I J) 46 20)) 6 ∧ _
      refine ⟨((hp c0) c1).1, ?_⟩
      show vp_in ((2 * ((s_166 I J) 46 20)) + 1) 6 ∧ _
      refine ⟨((hp c0) c1).2, ?_⟩
      unfold v_273 at h
      unfold s_273 at h
      simp only [if_neg c0] at h
      simp only [if_neg c1] at h
      exact h
    · show mm_wc (d + 1) 167 [.ref 46, .int 3] ((g.1, 0, 0, g.2.2.2), (s_166 I J), J) _
      refine mm_wc_le (d := d + 1) (by omega) (sp_167 ?_)
      refine mm_r1' ⟨rfl, ?_⟩
      unfold v_273 at h
      unfold s_273 at h
      simp only [if_neg c0] at h
      simp only [if_pos c1] at h
      exact h
  · show mm_wc (d + 1) 167 [.ref 46, .int 1] ((g.1, 0, 0, g.2.2.2), (s_166 I J), J) _
    refine mm_wc_le (d := d + 1) (by omega) (sp_167 ?_)
    refine mm_r1' ⟨rfl, ?_⟩
    unfold v_273 at h
    unfold s_273 at h
    simp only [if_pos c0] at h
    exact h
/- 274 ThreeBreathsModel.back(I)Z -/
def p_274 (x0 : Int32) (I : mmI) (J : mmJ) : Prop := ((¬ (v_169 x0 0 (((s_166 I J) 46 20) - 1) (s_166 I J) J) = 0 → (vp_in (2 * x0) 6 ∧ (vp_in ((2 * x0) + 1) 6))) ∧ ((v_169 x0 0 (((s_166 I J) 46 20) - 1) (s_166 I J) J) = 0 → (((v_168 1 (s_166 I J) J) = 0 ∨ (v_168 1 (s_166 I J) J) = 1))))
def v_274 (x0 : Int32) (I : mmI) (J : mmJ) : Int32 := (if (v_169 x0 0 (((s_166 I J) 46 20) - 1) (s_166 I J) J) = 0 then (v_168 1 (s_166 I J) J) else 1)
def s_274 (x0 : Int32) (I : mmI) (J : mmJ) : mmI := (if (v_169 x0 0 (((s_166 I J) 46 20) - 1) (s_166 I J) J) = 0 then (s_168 1 (s_166 I J) J) else (mm_up (mm_up (mm_up (s_166 I J) 46 17 ((s_166 I J) 52 ((2 * x0)).toNatClampNeg)) 46 18 ((s_166 I J) 52 (((2 * x0) + 1)).toNatClampNeg)) 46 19 0))
theorem sp_274 {d : Nat} {x0 : Int32} {g : mmG} {I : mmI} {J : mmJ} {Q : mmQ} (hp : p_274 x0 I J) (h : Q (some (.int (v_274 x0 I J))) (g, (s_274 x0 I J), J)) : mm_wc (d + 2) 274 [.ref 46, .int x0] (g, I, J) Q := by
  refine mm_call (c := 274) rfl rfl ?_
  refine mm_go [] 40 ?_
  show mm_wc (d + 1) 166 [.ref 46] ((g.1, 0, 0, g.2.2.2), I, J) _
  refine mm_wc_le (d := d + 1) (by omega) (sp_166 ?_)
  refine mm_r0' ⟨rfl, ?_⟩
  show mm_wc (d + 1) 169 [.int x0, .int 0, .int (((s_166 I J) 46 20) - 1)] ((g.1, 0, 0, g.2.2.2), (s_166 I J), J) _
  refine mm_wc_le (d := d + 1) (by omega) (sp_169 ?_)
  refine mm_r1' ⟨rfl, ?_⟩
  show (¬ (v_169 x0 0 (((s_166 I J) 46 20) - 1) (s_166 I J) J) = 0 → _) ∧ ((v_169 x0 0 (((s_166 I J) 46 20) - 1) (s_166 I J) J) = 0 → _)
  refine ⟨fun c0 => ?_, fun c0 => ?_⟩
  · show vp_in (2 * x0) 6 ∧ _
    refine ⟨(hp.1 c0).1, ?_⟩
    show vp_in ((2 * x0) + 1) 6 ∧ _
    refine ⟨(hp.1 c0).2, ?_⟩
    show ((1 : Int32) = 0 ∨ (1 : Int32) = 1) ∧ _
    refine ⟨(by decide), ?_⟩
    unfold v_274 at h
    unfold s_274 at h
    simp only [if_neg c0] at h
    exact h
  · show mm_wc (d + 1) 168 [.ref 46, .int 1] ((g.1, 0, 0, g.2.2.2), (s_166 I J), J) _
    refine mm_wc_le (d := d + 1) (by omega) (sp_168 ?_)
    refine mm_r1' ⟨rfl, ?_⟩
    show ((v_168 1 (s_166 I J) J) = 0 ∨ (v_168 1 (s_166 I J) J) = 1) ∧ _
    refine ⟨(hp.2 c0), ?_⟩
    unfold v_274 at h
    unfold s_274 at h
    simp only [if_pos c0] at h
    exact h
/- 277 ThreeBreathsModel.trouble()I -/
def v_277 (I : mmI) (J : mmJ) : Int32 := (I 46 11)
def s_277 (I : mmI) (J : mmJ) : mmI := (mm_up I 46 0 0)
theorem sp_277 {d : Nat} {g : mmG} {I : mmI} {J : mmJ} {Q : mmQ} (h : Q (some (.int (v_277 I J))) (g, (s_277 I J), J)) : mm_wc (d + 1) 277 [.ref 46] (g, I, J) Q := by
  refine mm_call (c := 277) rfl rfl ?_
  refine mm_go [] 40 ?_
  exact h
/- 204 ThreeBreathsModel.isBreath(I)Z -/
def v_204 (x0 : Int32) (I : mmI) (J : mmJ) : Int32 := (if (I 46 14) = 0 then 0 else (if (v_169 x0 0 ((v_206 I J) - 1) I J) = 0 then 0 else 1))
theorem sp_204 {d : Nat} {x0 : Int32} {g : mmG} {I : mmI} {J : mmJ} {Q : mmQ} (h : Q (some (.int (v_204 x0 I J))) (g, I, J)) : mm_wc (d + 2) 204 [.ref 46, .int x0] (g, I, J) Q := by
  refine mm_call (c := 204) rfl rfl ?_
  refine mm_go [] 40 ?_
  show ((I 46 14) = 0 → _) ∧ (¬ (I 46 14) = 0 → _)
  refine ⟨fun c0 => ?_, fun c0 => ?_⟩
  · show ((0 : Int32) = 0 ∨ (0 : Int32) = 1) ∧ _
    refine ⟨(by decide), ?_⟩
    unfold v_204 at h
    simp only [if_pos c0] at h
    exact h
  · show mm_wc (d + 1) 206 [.ref 46] ((g.1, 0, 0, g.2.2.2), I, J) _
    refine mm_wc_le (d := d + 1) (by omega) (sp_206 ?_)
    refine mm_r1' ⟨rfl, ?_⟩
    show mm_wc (d + 1) 169 [.int x0, .int 0, .int ((v_206 I J) - 1)] ((g.1, 0, 0, g.2.2.2), I, J) _
    refine mm_wc_le (d := d + 1) (by omega) (sp_169 ?_)
    refine mm_r1' ⟨rfl, ?_⟩
    show ((v_169 x0 0 ((v_206 I J) - 1) I J) = 0 → _) ∧ (¬ (v_169 x0 0 ((v_206 I J) - 1) I J) = 0 → _)
    refine ⟨fun c1 => ?_, fun c1 => ?_⟩
    · show ((0 : Int32) = 0 ∨ (0 : Int32) = 1) ∧ _
      refine ⟨(by decide), ?_⟩
      unfold v_204 at h
      simp only [if_neg c0] at h
      simp only [if_pos c1] at h
      exact h
    · show ((1 : Int32) = 0 ∨ (1 : Int32) = 1) ∧ _
      refine ⟨(by decide), ?_⟩
      unfold v_204 at h
      simp only [if_neg c0] at h
      simp only [if_neg c1] at h
      exact h
/- 216 ThreeBreathsModel.fan(I)I -/
def p_216 (x0 : Int32) (I : mmI) (J : mmJ) : Prop := (¬ (v_204 x0 (s_166 I J) J) = 0 → (vp_in x0 320))
def v_216 (x0 : Int32) (I : mmI) (J : mmJ) : Int32 := (if (v_204 x0 (s_166 I J) J) = 0 then (v_167 1 (s_166 I J) J) else (((s_166 I J) 53 x0.toNatClampNeg) &&& (v_205 (s_166 I J) J)))
def s_216 (x0 : Int32) (I : mmI) (J : mmJ) : mmI := (if (v_204 x0 (s_166 I J) J) = 0 then (s_167 1 (s_166 I J) J) else (s_166 I J))
theorem sp_216 {d : Nat} {x0 : Int32} {g : mmG} {I : mmI} {J : mmJ} {Q : mmQ} (hp : p_216 x0 I J) (h : Q (some (.int (v_216 x0 I J))) (g, (s_216 x0 I J), J)) : mm_wc (d + 3) 216 [.ref 46, .int x0] (g, I, J) Q := by
  refine mm_call (c := 216) rfl rfl ?_
  refine mm_go [] 40 ?_
  show mm_wc (d + 2) 166 [.ref 46] ((g.1, 0, 0, g.2.2.2), I, J) _
  refine mm_wc_le (d := d + 1) (by omega) (sp_166 ?_)
  refine mm_r0' ⟨rfl, ?_⟩
  show mm_wc (d + 2) 204 [.ref 46, .int x0] ((g.1, 0, 0, g.2.2.2), (s_166 I J), J) _
  refine mm_wc_le (d := d + 2) (by omega) (sp_204 ?_)
  refine mm_r1' ⟨rfl, ?_⟩
  show ((v_204 x0 (s_166 I J) J) = 0 → _) ∧ (¬ (v_204 x0 (s_166 I J) J) = 0 → _)
  refine ⟨fun c0 => ?_, fun c0 => ?_⟩
  · show mm_wc (d + 2) 167 [.ref 46, .int 1] ((g.1, 0, 0, g.2.2.2), (s_166 I J), J) _
    refine mm_wc_le (d := d + 1) (by omega) (sp_167 ?_)
    refine mm_r1' ⟨rfl, ?_⟩
    unfold v_216 at h
    unfold s_216 at h
    simp only [if_pos c0] at h
    exact h
  · show vp_in x0 320 ∧ _
    refine ⟨(hp c0), ?_⟩
    show mm_wc (d + 2) 205 [.ref 46] ((g.1, 0, 0, g.2.2.2), (s_166 I J), J) _
    refine mm_wc_le (d := d + 1) (by omega) (sp_205 ?_)
    refine mm_r1' ⟨rfl, ?_⟩
    unfold v_216 at h
    unfold s_216 at h
    simp only [if_neg c0] at h
    exact h
/- 218 ThreeBreathsModel.breathOf(II)I -/
def p_218 (x0 : Int32) (x1 : Int32) (I : mmI) (J : mmJ) : Prop := (¬ (v_204 x0 (s_166 I J) J) = 0 → (¬ (v_169 x1 0 2 (s_166 I J) J) = 0 → ((¬ x1 = 0 → (x1 = 1 → (p_208 x0 (s_166 I J) J))) ∧ (x1 = 0 → (p_207 x0 (s_166 I J) J)))))
def v_218 (x0 : Int32) (x1 : Int32) (I : mmI) (J : mmJ) : Int32 := (if (v_204 x0 (s_166 I J) J) = 0 then (v_167 1 (s_166 I J) J) else (if (v_169 x1 0 2 (s_166 I J) J) = 0 then (v_167 1 (s_166 I J) J) else (if x1 = 0 then (v_207 x0 (s_166 I J) J) else (if x1 = 1 then (v_208 x0 (s_166 I J) J) else (x0 - x0 / 16 * 16)))))
def s_218 (x0 : Int32) (x1 : Int32) (I : mmI) (J : mmJ) : mmI := (if (v_204 x0 (s_166 I J) J) = 0 then (s_167 1 (s_166 I J) J) else (if (v_169 x1 0 2 (s_166 I J) J) = 0 then (s_167 1 (s_166 I J) J) else (if x1 = 0 then (s_166 I J) else (if x1 = 1 then (s_166 I J) else (s_166 I J)))))
theorem sp_218 {d : Nat} {x0 : Int32} {x1 : Int32} {g : mmG} {I : mmI} {J : mmJ} {Q : mmQ} (hp : p_218 x0 x1 I J) (h : Q (some (.int (v_218 x0 x1 I J))) (g, (s_218 x0 x1 I J), J)) : mm_wc (d + 3) 218 [.ref 46, .int x0, .int x1] (g, I, J) Q := by
  refine mm_call (c := 218) rfl rfl ?_
  refine mm_go [] 40 ?_
  show mm_wc (d + 2) 166 [.ref 46] ((g.1, 0, 0, g.2.2.2), I, J) _
  refine mm_wc_le (d := d + 1) (by omega) (sp_166 ?_)
  refine mm_r0' ⟨rfl, ?_⟩
  show mm_wc (d + 2) 204 [.ref 46, .int x0] ((g.1, 0, 0, g.2.2.2), (s_166 I J), J) _
  refine mm_wc_le (d := d + 2) (by omega) (sp_204 ?_)
  refine mm_r1' ⟨rfl, ?_⟩
  show ((v_204 x0 (s_166 I J) J) = 0 → _) ∧ (¬ (v_204 x0 (s_166 I J) J) = 0 → _)
  refine ⟨fun c0 => ?_, fun c0 => ?_⟩
  · show mm_wc (d + 2) 167 [.ref 46, .int 1] ((g.1, 0, 0, g.2.2.2), (s_166 I J), J) _
    refine mm_wc_le (d := d + 1) (by omega) (sp_167 ?_)
    refine mm_r1' ⟨rfl, ?_⟩
    unfold v_218 at h
    unfold s_218 at h
    simp only [if_pos c0] at h
    exact h
  · show mm_wc (d + 2) 169 [.int x1, .int 0, .int 2] ((g.1, 0, 0, g.2.2.2), (s_166 I J), J) _
    refine mm_wc_le (d := d + 1) (by omega) (sp_169 ?_)
    refine mm_r1' ⟨rfl, ?_⟩
    show (¬ (v_169 x1 0 2 (s_166 I J) J) = 0 → _) ∧ ((v_169 x1 0 2 (s_166 I J) J) = 0 → _)
    refine ⟨fun c1 => ?_, fun c1 => ?_⟩
    · show (¬ x1 = 0 → _) ∧ (x1 = 0 → _)
      refine ⟨fun c2 => ?_, fun c2 => ?_⟩
      · show (¬ x1 = 1 → _) ∧ (x1 = 1 → _)
        refine ⟨fun c3 => ?_, fun c3 => ?_⟩
        · show (¬ (16 : Int32) = 0) ∧ _
          refine ⟨(by decide), ?_⟩
          unfold v_218 at h
          unfold s_218 at h
          simp only [if_neg c0] at h
          simp only [if_neg c1] at h
          simp only [if_neg c2] at h
          simp only [if_neg c3] at h
          exact h
        · show mm_wc (d + 2) 208 [.ref 46, .int x0] ((g.1, 0, 0, g.2.2.2), (s_166 I J), J) _
          refine mm_wc_le (d := d + 1) (by omega) (sp_208 ((((hp c0) c1).1 c2) c3) ?_)
          refine mm_r1' ⟨rfl, ?_⟩
          unfold v_218 at h
          unfold s_218 at h
          simp only [if_neg c0] at h
          simp only [if_neg c1] at h
          simp only [if_neg c2] at h
          simp only [if_pos c3] at h
          exact h
      · show mm_wc (d + 2) 207 [.ref 46, .int x0] ((g.1, 0, 0, g.2.2.2), (s_166 I J), J) _
        refine mm_wc_le (d := d + 1) (by omega) (sp_207 (((hp c0) c1).2 c2) ?_)
        refine mm_r1' ⟨rfl, ?_⟩
        unfold v_218 at h
        unfold s_218 at h
        simp only [if_neg c0] at h
        simp only [if_neg c1] at h
        simp only [if_pos c2] at h
        exact h
    · show mm_wc (d + 2) 167 [.ref 46, .int 1] ((g.1, 0, 0, g.2.2.2), (s_166 I J), J) _
      refine mm_wc_le (d := d + 1) (by omega) (sp_167 ?_)
      refine mm_r1' ⟨rfl, ?_⟩
      unfold v_218 at h
      unfold s_218 at h
      simp only [if_neg c0] at h
      simp only [if_pos c1] at h
      exact h
