/-! what each method asks for, at its entry and at its loops' heads -/
def mm_fl (b0 b1 b2 : Bool) : Nat → Bool := fun k => match k with
  | 0 => b0
  | 1 => b1
  | 2 => b2
  | _ => false
theorem mm_ckO {b : Bool} : mm_ck b 0 = mm_cA ∨ mm_ck b 0 = mm_cB := by cases b; exact .inr rfl; exact .inl rfl
theorem sx_len {d r n reg : Nat} {rf : List Nat} {σ : mmS} {Q : mmQ} (hr : mm_T[r]? = some (reg, 40, n, rf)) (h : Q (some (.int (nI n))) σ) : mm_wc (d + 1) 1004 [.ref r] σ Q := by
  show (match mm_T[r]? with
    | some (_, 40, n, _) => Q (some (.int (nI n))) σ
    | _ => False)
  rw [hr]; exact h
theorem sx_chr {d r n reg : Nat} {i : Int32} {rf : List Nat} {σ : mmS} {Q : mmQ} (hr : mm_T[r]? = some (reg, 40, n, rf)) (hv : vp_in i n) (h : Q (some (.int ((mm_sb.getD (r - 98) []).getD i.toNatClampNeg 0))) σ) : mm_wc (d + 1) 1005 [.ref r, .int i] σ Q := by
  show (match mm_T[r]? with
    | some (_, 40, n, _) => vp_in i n ∧ Q (some (.int ((mm_sb.getD (r - 98) []).getD i.toNatClampNeg 0))) σ
    | _ => False)
  rw [hr]; exact ⟨hv, h⟩
theorem sx_cpy {d : Nat} {σ : mmS} {Q : mmQ} (h : Q none (σ.1, mm_row σ.2.1 16 (va_cpy (σ.2.1 16) (σ.2.1 16) 1 0 19), σ.2.2)) : mm_wc (d + 1) 1003 [.ref 16, .int (nI 1), .ref 16, .int (nI 0), .int (nI 19)] σ Q := by
  show ¬ (nI 1) < 0 ∧ ¬ (nI 0) < 0 ∧ ¬ (nI 19) < 0 ∧ (nI 1).toNatClampNeg + (nI 19).toNatClampNeg ≤ 20 ∧ (nI 0).toNatClampNeg + (nI 19).toNatClampNeg ≤ 20 ∧ Q none (σ.1, mm_row σ.2.1 16 (va_cpy (σ.2.1 16) (σ.2.1 16) (nI 1).toNatClampNeg (nI 0).toNatClampNeg (nI 19).toNatClampNeg), σ.2.2)
  exact ⟨by decide, by decide, by decide, by decide, by decide, h⟩
theorem mm_wcm {d c : Nat} {vs : List Value} {σ : mmS} {Q Q' : mmQ} (h : mm_wc d c vs σ Q) (k : ∀ v τ, Q v τ → Q' v τ) : mm_wc d c vs σ Q' := mm_wc_mono d c vs σ Q Q' k h

/- 0 ThreeBreaths$Board lay -/
theorem fx_0 {d : Nat} {fl : Nat → Bool} {n1 n2 : Nat} {p q : Bool} {ad : Nat → Nat} {I : mmI} {J : mmJ} {Q : mmQ} (h : mm_wc d 1 [.ref 6] ((fl, 0, 0, q, q, ad), (mm_up (mm_up (mm_up I 6 1 ((I 6 1) + (nI 1))) 6 2 (((nI 16) * (I (mm_ck q 5) 3)) * (I (mm_ck q 0) 6))) 6 13 (nI 0)), J) (fun v τ => ∃ I1 J1, v = none ∧ τ = ((fl, 0, 0, q, q, ad), I1, J1) ∧ mm_wc d 3 [.ref 6] ((fl, 0, 0, q, q, ad), I1, J1) (fun v τ => ∃ I2 J2, v = none ∧ τ = ((fl, 0, 0, q, q, ad), I2, J2) ∧ mm_wc d 4 [.ref 6] ((fl, 0, 0, q, q, ad), I2, J2) (fun v τ => ∃ I3 J3, v = none ∧ τ = ((fl, 0, 0, q, q, ad), I3, J3) ∧ mm_wc d 5 [.ref 6] ((fl, 0, 0, q, q, ad), I3, J3) (fun v τ => ∃ I4 J4, v = none ∧ τ = ((fl, 0, 0, q, q, ad), I4, J4) ∧ Q none ((fl, n1, n2, q, q, ad), I4, J4)))))) : mm_wc (d + 1) 0 [.ref 6, .ref (mm_ck q 0)] ((fl, n1, n2, p, q, ad), I, J) Q := by
  cases q
  · refine mm_call (c := 0) rfl rfl ?_
    refine mm_go [] 80 ?_
    show (32 = mm_cA ∨ 32 = mm_cB) ∧ _
    refine ⟨(by decide), ?_⟩
    show mm_b _ _ _ _ _ [some (.ref 6), some (.ref 32)] [] ((fl, n1, n2, false, false, ad), I, J)
    show mm_wc d 1 [.ref 6] ((fl, 0, 0, false, false, ad), (mm_up (mm_up (mm_up I 6 1 ((I 6 1) + (nI 1))) 6 2 (((nI 16) * (I 37 3)) * (I 32 6))) 6 13 (nI 0)), J) _
    refine mm_wcm h ?_
    rintro v τ ⟨I1, J1, rfl, rfl, h1⟩
    refine mm_r0' ⟨rfl, ?_⟩
    show mm_b _ _ _ _ _ [some (.ref 6), some (.ref 32)] [] ((fl, n1, n2, false, false, ad), I1, J1)
    show mm_wc d 3 [.ref 6] ((fl, 0, 0, false, false, ad), I1, J1) _
    refine mm_wcm h1 ?_
    rintro v τ ⟨I2, J2, rfl, rfl, h2⟩
    refine mm_r0' ⟨rfl, ?_⟩
    show mm_b _ _ _ _ _ [some (.ref 6), some (.ref 32)] [] ((fl, n1, n2, false, false, ad), I2, J2)
    show mm_wc d 4 [.ref 6] ((fl, 0, 0, false, false, ad), I2, J2) _
    refine mm_wcm h2 ?_
    rintro v τ ⟨I3, J3, rfl, rfl, h3⟩
    refine mm_r0' ⟨rfl, ?_⟩
    show mm_b _ _ _ _ _ [some (.ref 6), some (.ref 32)] [] ((fl, n1, n2, false, false, ad), I3, J3)
    show mm_wc d 5 [.ref 6] ((fl, 0, 0, false, false, ad), I3, J3) _
    refine mm_wcm h3 ?_
    rintro v τ ⟨I4, J4, rfl, rfl, h4⟩
    refine mm_r0' ⟨rfl, ?_⟩
    exact h4
  · refine mm_call (c := 0) rfl rfl ?_
    refine mm_go [] 80 ?_
    show (18 = mm_cA ∨ 18 = mm_cB) ∧ _
    refine ⟨(by decide), ?_⟩
    show mm_b _ _ _ _ _ [some (.ref 6), some (.ref 18)] [] ((fl, n1, n2, true, true, ad), I, J)
    show mm_wc d 1 [.ref 6] ((fl, 0, 0, true, true, ad), (mm_up (mm_up (mm_up I 6 1 ((I 6 1) + (nI 1))) 6 2 (((nI 16) * (I 23 3)) * (I 18 6))) 6 13 (nI 0)), J) _
    refine mm_wcm h ?_
    rintro v τ ⟨I1, J1, rfl, rfl, h1⟩
    refine mm_r0' ⟨rfl, ?_⟩
    show mm_b _ _ _ _ _ [some (.ref 6), some (.ref 18)] [] ((fl, n1, n2, true, true, ad), I1, J1)
    show mm_wc d 3 [.ref 6] ((fl, 0, 0, true, true, ad), I1, J1) _
    refine mm_wcm h1 ?_
    rintro v τ ⟨I2, J2, rfl, rfl, h2⟩
    refine mm_r0' ⟨rfl, ?_⟩
    show mm_b _ _ _ _ _ [some (.ref 6), some (.ref 18)] [] ((fl, n1, n2, true, true, ad), I2, J2)
    show mm_wc d 4 [.ref 6] ((fl, 0, 0, true, true, ad), I2, J2) _
    refine mm_wcm h2 ?_
    rintro v τ ⟨I3, J3, rfl, rfl, h3⟩
    refine mm_r0' ⟨rfl, ?_⟩
    show mm_b _ _ _ _ _ [some (.ref 6), some (.ref 18)] [] ((fl, n1, n2, true, true, ad), I3, J3)
    show mm_wc d 5 [.ref 6] ((fl, 0, 0, true, true, ad), I3, J3) _
    refine mm_wcm h3 ?_
    rintro v τ ⟨I4, J4, rfl, rfl, h4⟩
    refine mm_r0' ⟨rfl, ?_⟩
    exact h4
/- 1 ThreeBreaths$Board findFans -/
theorem fx_1 {d : Nat} {fl : Nat → Bool} {n1 n2 : Nat} {p q : Bool} {ad : Nat → Nat} {I : mmI} {J : mmJ} {Q : mmQ} (h : mm_w Q (mm_wc d) bk_1 2 [some (.ref 6), some (.int (nI 0)), none, none] [] ((fl, n1, n2, p, q, ad), I, J)) : mm_wc (d + 1) 1 [.ref 6] ((fl, n1, n2, p, q, ad), I, J) Q := by
  refine mm_call (c := 1) rfl rfl ?_
  refine mm_go [2, 14] 80 ?_
  exact h
theorem fx_1_2 {d : Nat} {a1 : Int32} {fl : Nat → Bool} {n1 n2 : Nat} {p q : Bool} {ad : Nat → Nat} {I : mmI} {J : mmJ} {Q : mmQ} (h : (((I 6 2) ≤ a1 → Q none ((fl, n1, n2, p, q, ad), I, J)) ∧ (¬ (I 6 2) ≤ a1 → mm_w Q (mm_wc d) bk_1 14 [some (.ref 6), some (.int a1), some (.int (nI 0)), some (.int (nI 0))] [] ((fl, n1, n2, p, q, ad), I, J)))) : mm_w Q (mm_wc (d)) bk_1 2 [some (.ref 6), some (.int a1), none, none] [] ((fl, n1, n2, p, q, ad), I, J) := by
  refine mm_go [2, 14] 80 ?_
  show ((I 6 2) ≤ a1 → _) ∧ (¬ (I 6 2) ≤ a1 → _)
  refine ⟨fun c0 => ?_, fun c0 => ?_⟩
  · exact (h.1 c0)
  · exact (h.2 c0)
theorem fx_1_14 {d : Nat} {a1 : Int32} {a2 : Int32} {a3 : Int32} {fl : Nat → Bool} {n1 n2 : Nat} {p q : Bool} {ad : Nat → Nat} {I : mmI} {J : mmJ} {Q : mmQ} (h : (((I (mm_ck p 1) 3) ≤ a3 → (vp_in a1 320 ∧ mm_w Q (mm_wc d) bk_1 2 [some (.ref 6), some (.int (a1 + (nI 1))), none, none] [] ((fl, n1, n2, p, q, ad), (mm_up I 7 a1.toNatClampNeg a2), J))) ∧ (¬ (I (mm_ck p 1) 3) ≤ a3 → (vp_in a3 10 ∧ (vp_in a3 10 ∧ (vp_in a3 10 ∧ ((¬ (I (mm_ck p 4) a3.toNatClampNeg) = (nI 1) → mm_wc d 2 [.ref 6, .int a1, .int (I (mm_ck p 2) a3.toNatClampNeg), .int (I (mm_ck p 3) a3.toNatClampNeg), .int (nI 0)] ((fl, 0, 0, p, q, ad), I, J) (fun v τ => ∃ r1 I1 J1, v = some (.int r1) ∧ τ = ((fl, 0, 0, p, q, ad), I1, J1) ∧ ((r1 = (nI 0) → mm_w Q (mm_wc d) bk_1 14 [some (.ref 6), some (.int a1), some (.int a2), some (.int (a3 + (nI 1)))] [] ((fl, n1, n2, p, q, ad), I1, J1)) ∧ (¬ r1 = (nI 0) → mm_w Q (mm_wc d) bk_1 14 [some (.ref 6), some (.int a1), some (.int (a2 ||| ((nI 1) <<< (a3 &&& 31)))), some (.int (a3 + (nI 1)))] [] ((fl, n1, n2, p, q, ad), I1, J1))))) ∧ ((I (mm_ck p 4) a3.toNatClampNeg) = (nI 1) → mm_wc d 2 [.ref 6, .int a1, .int (I (mm_ck p 2) a3.toNatClampNeg), .int (I (mm_ck p 3) a3.toNatClampNeg), .int (nI 1)] ((fl, 0, 0, p, q, ad), I, J) (fun v τ => ∃ r2 I2 J2, v = some (.int r2) ∧ τ = ((fl, 0, 0, p, q, ad), I2, J2) ∧ ((r2 = (nI 0) → mm_w Q (mm_wc d) bk_1 14 [some (.ref 6), some (.int a1), some (.int a2), some (.int (a3 + (nI 1)))] [] ((fl, n1, n2, p, q, ad), I2, J2)) ∧ (¬ r2 = (nI 0) → mm_w Q (mm_wc d) bk_1 14 [some (.ref 6), some (.int a1), some (.int (a2 ||| ((nI 1) <<< (a3 &&& 31)))), some (.int (a3 + (nI 1)))] [] ((fl, n1, n2, p, q, ad), I2, J2)))))))))))) : mm_w Q (mm_wc (d)) bk_1 14 [some (.ref 6), some (.int a1), some (.int a2), some (.int a3)] [] ((fl, n1, n2, p, q, ad), I, J) := by
  cases p
  · refine mm_go [2, 14] 80 ?_
    show ((I 33 3) ≤ a3 → _) ∧ (¬ (I 33 3) ≤ a3 → _)
    refine ⟨fun c0 => ?_, fun c0 => ?_⟩
    · show mm_u _ _ _ _ _ _ [some (.ref 6), some (.int a1), some (.int a2), some (.int a3)] [] ((fl, n1, n2, false, q, ad), I, J)
      show vp_in a1 320 ∧ _
      refine ⟨(h.1 c0).1, ?_⟩
      exact (h.1 c0).2
    · show mm_b _ _ _ _ _ [some (.ref 6), some (.int a1), some (.int a2), some (.int a3)] [] ((fl, n1, n2, false, q, ad), I, J)
      show vp_in a3 10 ∧ _
      refine ⟨(h.2 c0).1, ?_⟩
      show mm_b _ _ _ _ _ [some (.ref 6), some (.int a1), some (.int a2), some (.int a3)] [.int (I 34 a3.toNatClampNeg), .int a1, .ref 6] ((fl, n1, n2, false, q, ad), I, J)
      show vp_in a3 10 ∧ _
      refine ⟨(h.2 c0).2.1, ?_⟩
      show mm_b _ _ _ _ _ [some (.ref 6), some (.int a1), some (.int a2), some (.int a3)] [.int (I 35 a3.toNatClampNeg), .int (I 34 a3.toNatClampNeg), .int a1, .ref 6] ((fl, n1, n2, false, q, ad), I, J)
      show vp_in a3 10 ∧ _
      refine ⟨(h.2 c0).2.2.1, ?_⟩
      show mm_b _ _ _ _ _ [some (.ref 6), some (.int a1), some (.int a2), some (.int a3)] [.int (I 36 a3.toNatClampNeg), .int (I 35 a3.toNatClampNeg), .int (I 34 a3.toNatClampNeg), .int a1, .ref 6] ((fl, n1, n2, false, q, ad), I, J)
      show (¬ (I 36 a3.toNatClampNeg) = (nI 1) → _) ∧ ((I 36 a3.toNatClampNeg) = (nI 1) → _)
      refine ⟨fun c1 => ?_, fun c1 => ?_⟩
      · show mm_u _ _ _ _ _ _ [some (.ref 6), some (.int a1), some (.int a2), some (.int a3)] [.int (I 35 a3.toNatClampNeg), .int (I 34 a3.toNatClampNeg), .int a1, .ref 6] ((fl, n1, n2, false, q, ad), I, J)
        show mm_wc d 2 [.ref 6, .int a1, .int (I 34 a3.toNatClampNeg), .int (I 35 a3.toNatClampNeg), .int (nI 0)] ((fl, 0, 0, false, q, ad), I, J) _
        refine mm_wcm ((h.2 c0).2.2.2.1 c1) ?_
        rintro v τ ⟨r1, I1, J1, rfl, rfl, h1⟩
        refine mm_r1' ⟨rfl, ?_⟩
        show mm_b _ _ _ _ _ [some (.ref 6), some (.int a1), some (.int a2), some (.int a3)] [.int r1] ((fl, n1, n2, false, q, ad), I1, J1)
        show (r1 = (nI 0) → _) ∧ (¬ r1 = (nI 0) → _)
        refine ⟨fun c2 => ?_, fun c2 => ?_⟩
        · exact (h1.1 c2)
        · exact (h1.2 c2)
      · show mm_b _ _ _ _ _ [some (.ref 6), some (.int a1), some (.int a2), some (.int a3)] [.int (I 35 a3.toNatClampNeg), .int (I 34 a3.toNatClampNeg), .int a1, .ref 6] ((fl, n1, n2, false, q, ad), I, J)
        show mm_wc d 2 [.ref 6, .int a1, .int (I 34 a3.toNatClampNeg), .int (I 35 a3.toNatClampNeg), .int (nI 1)] ((fl, 0, 0, false, q, ad), I, J) _
        refine mm_wcm ((h.2 c0).2.2.2.2 c1) ?_
        rintro v τ ⟨r2, I2, J2, rfl, rfl, h2⟩
        refine mm_r1' ⟨rfl, ?_⟩
        show mm_b _ _ _ _ _ [some (.ref 6), some (.int a1), some (.int a2), some (.int a3)] [.int r2] ((fl, n1, n2, false, q, ad), I2, J2)
        show (r2 = (nI 0) → _) ∧ (¬ r2 = (nI 0) → _)
        refine ⟨fun c2 => ?_, fun c2 => ?_⟩
        · exact (h2.1 c2)
        · exact (h2.2 c2)
  · refine mm_go [2, 14] 80 ?_
    show ((I 19 3) ≤ a3 → _) ∧ (¬ (I 19 3) ≤ a3 → _)
    refine ⟨fun c0 => ?_, fun c0 => ?_⟩
    · show mm_u _ _ _ _ _ _ [some (.ref 6), some (.int a1), some (.int a2), some (.int a3)] [] ((fl, n1, n2, true, q, ad), I, J)
      show vp_in a1 320 ∧ _
      refine ⟨(h.1 c0).1, ?_⟩
      exact (h.1 c0).2
    · show mm_b _ _ _ _ _ [some (.ref 6), some (.int a1), some (.int a2), some (.int a3)] [] ((fl, n1, n2, true, q, ad), I, J)
      show vp_in a3 10 ∧ _
      refine ⟨(h.2 c0).1, ?_⟩
      show mm_b _ _ _ _ _ [some (.ref 6), some (.int a1), some (.int a2), some (.int a3)] [.int (I 20 a3.toNatClampNeg), .int a1, .ref 6] ((fl, n1, n2, true, q, ad), I, J)
      show vp_in a3 10 ∧ _
      refine ⟨(h.2 c0).2.1, ?_⟩
      show mm_b _ _ _ _ _ [some (.ref 6), some (.int a1), some (.int a2), some (.int a3)] [.int (I 21 a3.toNatClampNeg), .int (I 20 a3.toNatClampNeg), .int a1, .ref 6] ((fl, n1, n2, true, q, ad), I, J)
      show vp_in a3 10 ∧ _
      refine ⟨(h.2 c0).2.2.1, ?_⟩
      show mm_b _ _ _ _ _ [some (.ref 6), some (.int a1), some (.int a2), some (.int a3)] [.int (I 22 a3.toNatClampNeg), .int (I 21 a3.toNatClampNeg), .int (I 20 a3.toNatClampNeg), .int a1, .ref 6] ((fl, n1, n2, true, q, ad), I, J)
      show (¬ (I 22 a3.toNatClampNeg) = (nI 1) → _) ∧ ((I 22 a3.toNatClampNeg) = (nI 1) → _)
      refine ⟨fun c1 => ?_, fun c1 => ?_⟩
      · show mm_u _ _ _ _ _ _ [some (.ref 6), some (.int a1), some (.int a2), some (.int a3)] [.int (I 21 a3.toNatClampNeg), .int (I 20 a3.toNatClampNeg), .int a1, .ref 6] ((fl, n1, n2, true, q, ad), I, J)
        show mm_wc d 2 [.ref 6, .int a1, .int (I 20 a3.toNatClampNeg), .int (I 21 a3.toNatClampNeg), .int (nI 0)] ((fl, 0, 0, true, q, ad), I, J) _
        refine mm_wcm ((h.2 c0).2.2.2.1 c1) ?_
        rintro v τ ⟨r1, I1, J1, rfl, rfl, h1⟩
        refine mm_r1' ⟨rfl, ?_⟩
        show mm_b _ _ _ _ _ [some (.ref 6), some (.int a1), some (.int a2), some (.int a3)] [.int r1] ((fl, n1, n2, true, q, ad), I1, J1)
        show (r1 = (nI 0) → _) ∧ (¬ r1 = (nI 0) → _)
        refine ⟨fun c2 => ?_, fun c2 => ?_⟩
        · exact (h1.1 c2)
        · exact (h1.2 c2)
      · show mm_b _ _ _ _ _ [some (.ref 6), some (.int a1), some (.int a2), some (.int a3)] [.int (I 21 a3.toNatClampNeg), .int (I 20 a3.toNatClampNeg), .int a1, .ref 6] ((fl, n1, n2, true, q, ad), I, J)
        show mm_wc d 2 [.ref 6, .int a1, .int (I 20 a3.toNatClampNeg), .int (I 21 a3.toNatClampNeg), .int (nI 1)] ((fl, 0, 0, true, q, ad), I, J) _
        refine mm_wcm ((h.2 c0).2.2.2.2 c1) ?_
        rintro v τ ⟨r2, I2, J2, rfl, rfl, h2⟩
        refine mm_r1' ⟨rfl, ?_⟩
        show mm_b _ _ _ _ _ [some (.ref 6), some (.int a1), some (.int a2), some (.int a3)] [.int r2] ((fl, n1, n2, true, q, ad), I2, J2)
        show (r2 = (nI 0) → _) ∧ (¬ r2 = (nI 0) → _)
        refine ⟨fun c2 => ?_, fun c2 => ?_⟩
        · exact (h2.1 c2)
        · exact (h2.2 c2)
/- 2 ThreeBreaths$Board isIn -/
theorem fx_2 {d : Nat} {x0 : Int32} {x1 : Int32} {x2 : Int32} {x3 : Int32} {fl : Nat → Bool} {n1 n2 : Nat} {p q : Bool} {ad : Nat → Nat} {I : mmI} {J : mmJ} {Q : mmQ} (h : mm_wc d 11 [.ref 6, .int x0] ((fl, 0, 0, p, q, ad), I, J) (fun v τ => ∃ r1 I1 J1, v = some (.int r1) ∧ τ = ((fl, 0, 0, p, q, ad), I1, J1) ∧ (vp_in r1 10 ∧ (vp_in r1 10 ∧ ((¬ (x1 - (I1 (mm_ck p 6) r1.toNatClampNeg)) = (nI 0) → mm_wc d 10 [.ref 6, .int x0] ((fl, 0, 0, p, q, ad), I1, J1) (fun v τ => ∃ r2 I2 J2, v = some (.int r2) ∧ τ = ((fl, 0, 0, p, q, ad), I2, J2) ∧ mm_wc d 12 [.ref 6, .int x0] ((fl, 0, 0, p, q, ad), I2, J2) (fun v τ => ∃ r3 I3 J3, v = some (.int r3) ∧ τ = ((fl, 0, 0, p, q, ad), I3, J3) ∧ (vp_in r2 16 ∧ (vp_in r2 16 ∧ (vp_in r2 16 ∧ (vp_in r2 16 ∧ ((x3 = (nI 0) → (((((x1 - (I1 (mm_ck p 6) r1.toNatClampNeg)) * (I3 66 r2.toNatClampNeg)) + ((x2 - (I1 (mm_ck p 7) r1.toNatClampNeg)) * (I3 67 r2.toNatClampNeg))) ≤ (nI 0) → Q (some (.int (nI 0))) ((fl, n1, n2, p, q, ad), I3, J3)) ∧ (¬ (((x1 - (I1 (mm_ck p 6) r1.toNatClampNeg)) * (I3 66 r2.toNatClampNeg)) + ((x2 - (I1 (mm_ck p 7) r1.toNatClampNeg)) * (I3 67 r2.toNatClampNeg))) ≤ (nI 0) → mm_wc d 1000 [.int (((I3 66 r2.toNatClampNeg) * (x2 - (I1 (mm_ck p 7) r1.toNatClampNeg))) - ((I3 67 r2.toNatClampNeg) * (x1 - (I1 (mm_ck p 6) r1.toNatClampNeg))))] ((fl, 0, 0, p, q, ad), I3, J3) (fun v τ => ∃ r4 I4 J4, v = some (.int r4) ∧ τ = ((fl, 0, 0, p, q, ad), I4, J4) ∧ (vp_in r3 4 ∧ ((((I4 (mm_ck p 12) r3.toNatClampNeg) * (((x1 - (I1 (mm_ck p 6) r1.toNatClampNeg)) * (I3 66 r2.toNatClampNeg)) + ((x2 - (I1 (mm_ck p 7) r1.toNatClampNeg)) * (I3 67 r2.toNatClampNeg)))) < ((nI 10) * r4) → Q (some (.int (nI 0))) ((fl, n1, n2, p, q, ad), I4, J4)) ∧ (¬ ((I4 (mm_ck p 12) r3.toNatClampNeg) * (((x1 - (I1 (mm_ck p 6) r1.toNatClampNeg)) * (I3 66 r2.toNatClampNeg)) + ((x2 - (I1 (mm_ck p 7) r1.toNatClampNeg)) * (I3 67 r2.toNatClampNeg)))) < ((nI 10) * r4) → (vp_in r3 4 ∧ (vp_in r3 4 ∧ ((((I4 (mm_ck p 11) r3.toNatClampNeg) * (I4 (mm_ck p 11) r3.toNatClampNeg)) < ((((x1 - (I1 (mm_ck p 6) r1.toNatClampNeg)) * (x1 - (I1 (mm_ck p 6) r1.toNatClampNeg))) + ((x2 - (I1 (mm_ck p 7) r1.toNatClampNeg)) * (x2 - (I1 (mm_ck p 7) r1.toNatClampNeg)))) * (nI 1)) → Q (some (.int (nI 0))) ((fl, n1, n2, p, q, ad), I4, J4)) ∧ (¬ ((I4 (mm_ck p 11) r3.toNatClampNeg) * (I4 (mm_ck p 11) r3.toNatClampNeg)) < ((((x1 - (I1 (mm_ck p 6) r1.toNatClampNeg)) * (x1 - (I1 (mm_ck p 6) r1.toNatClampNeg))) + ((x2 - (I1 (mm_ck p 7) r1.toNatClampNeg)) * (x2 - (I1 (mm_ck p 7) r1.toNatClampNeg)))) * (nI 1)) → Q (some (.int (nI 1))) ((fl, n1, n2, p, q, ad), I4, J4)))))))))))) ∧ (¬ x3 = (nI 0) → (((((x1 - (I1 (mm_ck p 6) r1.toNatClampNeg)) * (I3 66 r2.toNatClampNeg)) + ((x2 - (I1 (mm_ck p 7) r1.toNatClampNeg)) * (I3 67 r2.toNatClampNeg))) ≤ (nI 0) → Q (some (.int (nI 0))) ((fl, n1, n2, p, q, ad), I3, J3)) ∧ (¬ (((x1 - (I1 (mm_ck p 6) r1.toNatClampNeg)) * (I3 66 r2.toNatClampNeg)) + ((x2 - (I1 (mm_ck p 7) r1.toNatClampNeg)) * (I3 67 r2.toNatClampNeg))) ≤ (nI 0) → mm_wc d 1000 [.int (((I3 66 r2.toNatClampNeg) * (x2 - (I1 (mm_ck p 7) r1.toNatClampNeg))) - ((I3 67 r2.toNatClampNeg) * (x1 - (I1 (mm_ck p 6) r1.toNatClampNeg))))] ((fl, 0, 0, p, q, ad), I3, J3) (fun v τ => ∃ r5 I5 J5, v = some (.int r5) ∧ τ = ((fl, 0, 0, p, q, ad), I5, J5) ∧ (vp_in r3 4 ∧ ((((I5 (mm_ck p 12) r3.toNatClampNeg) * (((x1 - (I1 (mm_ck p 6) r1.toNatClampNeg)) * (I3 66 r2.toNatClampNeg)) + ((x2 - (I1 (mm_ck p 7) r1.toNatClampNeg)) * (I3 67 r2.toNatClampNeg)))) < ((nI 10) * r5) → Q (some (.int (nI 0))) ((fl, n1, n2, p, q, ad), I5, J5)) ∧ (¬ ((I5 (mm_ck p 12) r3.toNatClampNeg) * (((x1 - (I1 (mm_ck p 6) r1.toNatClampNeg)) * (I3 66 r2.toNatClampNeg)) + ((x2 - (I1 (mm_ck p 7) r1.toNatClampNeg)) * (I3 67 r2.toNatClampNeg)))) < ((nI 10) * r5) → (vp_in r3 4 ∧ (vp_in r3 4 ∧ ((((I5 (mm_ck p 11) r3.toNatClampNeg) * (I5 (mm_ck p 11) r3.toNatClampNeg)) < ((((x1 - (I1 (mm_ck p 6) r1.toNatClampNeg)) * (x1 - (I1 (mm_ck p 6) r1.toNatClampNeg))) + ((x2 - (I1 (mm_ck p 7) r1.toNatClampNeg)) * (x2 - (I1 (mm_ck p 7) r1.toNatClampNeg)))) * (nI 4)) → Q (some (.int (nI 0))) ((fl, n1, n2, p, q, ad), I5, J5)) ∧ (¬ ((I5 (mm_ck p 11) r3.toNatClampNeg) * (I5 (mm_ck p 11) r3.toNatClampNeg)) < ((((x1 - (I1 (mm_ck p 6) r1.toNatClampNeg)) * (x1 - (I1 (mm_ck p 6) r1.toNatClampNeg))) + ((x2 - (I1 (mm_ck p 7) r1.toNatClampNeg)) * (x2 - (I1 (mm_ck p 7) r1.toNatClampNeg)))) * (nI 4)) → Q (some (.int (nI 1))) ((fl, n1, n2, p, q, ad), I5, J5)))))))))))))))))))) ∧ ((x1 - (I1 (mm_ck p 6) r1.toNatClampNeg)) = (nI 0) → ((¬ (x2 - (I1 (mm_ck p 7) r1.toNatClampNeg)) = (nI 0) → mm_wc d 10 [.ref 6, .int x0] ((fl, 0, 0, p, q, ad), I1, J1) (fun v τ => ∃ r6 I6 J6, v = some (.int r6) ∧ τ = ((fl, 0, 0, p, q, ad), I6, J6) ∧ mm_wc d 12 [.ref 6, .int x0] ((fl, 0, 0, p, q, ad), I6, J6) (fun v τ => ∃ r7 I7 J7, v = some (.int r7) ∧ τ = ((fl, 0, 0, p, q, ad), I7, J7) ∧ (vp_in r6 16 ∧ (vp_in r6 16 ∧ (vp_in r6 16 ∧ (vp_in r6 16 ∧ ((x3 = (nI 0) → (((((x1 - (I1 (mm_ck p 6) r1.toNatClampNeg)) * (I7 66 r6.toNatClampNeg)) + ((x2 - (I1 (mm_ck p 7) r1.toNatClampNeg)) * (I7 67 r6.toNatClampNeg))) ≤ (nI 0) → Q (some (.int (nI 0))) ((fl, n1, n2, p, q, ad), I7, J7)) ∧ (¬ (((x1 - (I1 (mm_ck p 6) r1.toNatClampNeg)) * (I7 66 r6.toNatClampNeg)) + ((x2 - (I1 (mm_ck p 7) r1.toNatClampNeg)) * (I7 67 r6.toNatClampNeg))) ≤ (nI 0) → mm_wc d 1000 [.int (((I7 66 r6.toNatClampNeg) * (x2 - (I1 (mm_ck p 7) r1.toNatClampNeg))) - ((I7 67 r6.toNatClampNeg) * (x1 - (I1 (mm_ck p 6) r1.toNatClampNeg))))] ((fl, 0, 0, p, q, ad), I7, J7) (fun v τ => ∃ r8 I8 J8, v = some (.int r8) ∧ τ = ((fl, 0, 0, p, q, ad), I8, J8) ∧ (vp_in r7 4 ∧ ((((I8 (mm_ck p 12) r7.toNatClampNeg) * (((x1 - (I1 (mm_ck p 6) r1.toNatClampNeg)) * (I7 66 r6.toNatClampNeg)) + ((x2 - (I1 (mm_ck p 7) r1.toNatClampNeg)) * (I7 67 r6.toNatClampNeg)))) < ((nI 10) * r8) → Q (some (.int (nI 0))) ((fl, n1, n2, p, q, ad), I8, J8)) ∧ (¬ ((I8 (mm_ck p 12) r7.toNatClampNeg) * (((x1 - (I1 (mm_ck p 6) r1.toNatClampNeg)) * (I7 66 r6.toNatClampNeg)) + ((x2 - (I1 (mm_ck p 7) r1.toNatClampNeg)) * (I7 67 r6.toNatClampNeg)))) < ((nI 10) * r8) → (vp_in r7 4 ∧ (vp_in r7 4 ∧ ((((I8 (mm_ck p 11) r7.toNatClampNeg) * (I8 (mm_ck p 11) r7.toNatClampNeg)) < ((((x1 - (I1 (mm_ck p 6) r1.toNatClampNeg)) * (x1 - (I1 (mm_ck p 6) r1.toNatClampNeg))) + ((x2 - (I1 (mm_ck p 7) r1.toNatClampNeg)) * (x2 - (I1 (mm_ck p 7) r1.toNatClampNeg)))) * (nI 1)) → Q (some (.int (nI 0))) ((fl, n1, n2, p, q, ad), I8, J8)) ∧ (¬ ((I8 (mm_ck p 11) r7.toNatClampNeg) * (I8 (mm_ck p 11) r7.toNatClampNeg)) < ((((x1 - (I1 (mm_ck p 6) r1.toNatClampNeg)) * (x1 - (I1 (mm_ck p 6) r1.toNatClampNeg))) + ((x2 - (I1 (mm_ck p 7) r1.toNatClampNeg)) * (x2 - (I1 (mm_ck p 7) r1.toNatClampNeg)))) * (nI 1)) → Q (some (.int (nI 1))) ((fl, n1, n2, p, q, ad), I8, J8)))))))))))) ∧ (¬ x3 = (nI 0) → (((((x1 - (I1 (mm_ck p 6) r1.toNatClampNeg)) * (I7 66 r6.toNatClampNeg)) + ((x2 - (I1 (mm_ck p 7) r1.toNatClampNeg)) * (I7 67 r6.toNatClampNeg))) ≤ (nI 0) → Q (some (.int (nI 0))) ((fl, n1, n2, p, q, ad), I7, J7)) ∧ (¬ (((x1 - (I1 (mm_ck p 6) r1.toNatClampNeg)) * (I7 66 r6.toNatClampNeg)) + ((x2 - (I1 (mm_ck p 7) r1.toNatClampNeg)) * (I7 67 r6.toNatClampNeg))) ≤ (nI 0) → mm_wc d 1000 [.int (((I7 66 r6.toNatClampNeg) * (x2 - (I1 (mm_ck p 7) r1.toNatClampNeg))) - ((I7 67 r6.toNatClampNeg) * (x1 - (I1 (mm_ck p 6) r1.toNatClampNeg))))] ((fl, 0, 0, p, q, ad), I7, J7) (fun v τ => ∃ r9 I9 J9, v = some (.int r9) ∧ τ = ((fl, 0, 0, p, q, ad), I9, J9) ∧ (vp_in r7 4 ∧ ((((I9 (mm_ck p 12) r7.toNatClampNeg) * (((x1 - (I1 (mm_ck p 6) r1.toNatClampNeg)) * (I7 66 r6.toNatClampNeg)) + ((x2 - (I1 (mm_ck p 7) r1.toNatClampNeg)) * (I7 67 r6.toNatClampNeg)))) < ((nI 10) * r9) → Q (some (.int (nI 0))) ((fl, n1, n2, p, q, ad), I9, J9)) ∧ (¬ ((I9 (mm_ck p 12) r7.toNatClampNeg) * (((x1 - (I1 (mm_ck p 6) r1.toNatClampNeg)) * (I7 66 r6.toNatClampNeg)) + ((x2 - (I1 (mm_ck p 7) r1.toNatClampNeg)) * (I7 67 r6.toNatClampNeg)))) < ((nI 10) * r9) → (vp_in r7 4 ∧ (vp_in r7 4 ∧ ((((I9 (mm_ck p 11) r7.toNatClampNeg) * (I9 (mm_ck p 11) r7.toNatClampNeg)) < ((((x1 - (I1 (mm_ck p 6) r1.toNatClampNeg)) * (x1 - (I1 (mm_ck p 6) r1.toNatClampNeg))) + ((x2 - (I1 (mm_ck p 7) r1.toNatClampNeg)) * (x2 - (I1 (mm_ck p 7) r1.toNatClampNeg)))) * (nI 4)) → Q (some (.int (nI 0))) ((fl, n1, n2, p, q, ad), I9, J9)) ∧ (¬ ((I9 (mm_ck p 11) r7.toNatClampNeg) * (I9 (mm_ck p 11) r7.toNatClampNeg)) < ((((x1 - (I1 (mm_ck p 6) r1.toNatClampNeg)) * (x1 - (I1 (mm_ck p 6) r1.toNatClampNeg))) + ((x2 - (I1 (mm_ck p 7) r1.toNatClampNeg)) * (x2 - (I1 (mm_ck p 7) r1.toNatClampNeg)))) * (nI 4)) → Q (some (.int (nI 1))) ((fl, n1, n2, p, q, ad), I9, J9)))))))))))))))))))) ∧ ((x2 - (I1 (mm_ck p 7) r1.toNatClampNeg)) = (nI 0) → Q (some (.int (nI 1))) ((fl, n1, n2, p, q, ad), I1, J1))))))))) : mm_wc (d + 1) 2 [.ref 6, .int x0, .int x1, .int x2, .int x3] ((fl, n1, n2, p, q, ad), I, J) Q := by
  cases p
  · refine mm_call (c := 2) rfl rfl ?_
    refine mm_go [] 80 ?_
    show mm_wc d 11 [.ref 6, .int x0] ((fl, 0, 0, false, q, ad), I, J) _
    refine mm_wcm h ?_
    rintro v τ ⟨r1, I1, J1, rfl, rfl, h1⟩
    refine mm_r1' ⟨rfl, ?_⟩
    show mm_b _ _ _ _ _ [some (.ref 6), some (.int x0), some (.int x1), some (.int x2), some (.int x3), none, none, none, none, none, none, none, none] [.int r1] ((fl, n1, n2, false, q, ad), I1, J1)
    show vp_in r1 10 ∧ _
    refine ⟨h1.1, ?_⟩
    show mm_b _ _ _ _ _ [some (.ref 6), some (.int x0), some (.int x1), some (.int x2), some (.int x3), some (.int r1), none, none, none, none, none, none, none] [.int (I1 38 r1.toNatClampNeg), .int x1] ((fl, n1, n2, false, q, ad), I1, J1)
    show vp_in r1 10 ∧ _
    refine ⟨h1.2.1, ?_⟩
    show mm_b _ _ _ _ _ [some (.ref 6), some (.int x0), some (.int x1), some (.int x2), some (.int x3), some (.int r1), some (.int (x1 - (I1 38 r1.toNatClampNeg))), none, none, none, none, none, none] [.int (I1 39 r1.toNatClampNeg), .int x2] ((fl, n1, n2, false, q, ad), I1, J1)
    show (¬ (x1 - (I1 38 r1.toNatClampNeg)) = (nI 0) → _) ∧ ((x1 - (I1 38 r1.toNatClampNeg)) = (nI 0) → _)
    refine ⟨fun c0 => ?_, fun c0 => ?_⟩
    · show mm_u _ _ _ _ _ _ [some (.ref 6), some (.int x0), some (.int x1), some (.int x2), some (.int x3), some (.int r1), some (.int (x1 - (I1 38 r1.toNatClampNeg))), some (.int (x2 - (I1 39 r1.toNatClampNeg))), none, none, none, none, none] [] ((fl, n1, n2, false, q, ad), I1, J1)
      show mm_wc d 10 [.ref 6, .int x0] ((fl, 0, 0, false, q, ad), I1, J1) _
      refine mm_wcm (h1.2.2.1 c0) ?_
      rintro v τ ⟨r2, I2, J2, rfl, rfl, h2⟩
      refine mm_r1' ⟨rfl, ?_⟩
      show mm_b _ _ _ _ _ [some (.ref 6), some (.int x0), none, none, some (.int x3), none, some (.int (x1 - (I1 38 r1.toNatClampNeg))), some (.int (x2 - (I1 39 r1.toNatClampNeg))), none, none, none, none, none] [.int r2] ((fl, n1, n2, false, q, ad), I2, J2)
      show mm_wc d 12 [.ref 6, .int x0] ((fl, 0, 0, false, q, ad), I2, J2) _
      refine mm_wcm h2 ?_
      rintro v τ ⟨r3, I3, J3, rfl, rfl, h3⟩
      refine mm_r1' ⟨rfl, ?_⟩
      show mm_b _ _ _ _ _ [some (.ref 6), some (.int x0), none, none, some (.int x3), none, some (.int (x1 - (I1 38 r1.toNatClampNeg))), some (.int (x2 - (I1 39 r1.toNatClampNeg))), some (.int r2), none, none, none, none] [.int r3] ((fl, n1, n2, false, q, ad), I3, J3)
      show vp_in r2 16 ∧ _
      refine ⟨h3.1, ?_⟩
      show mm_b _ _ _ _ _ [some (.ref 6), some (.int x0), none, none, some (.int x3), none, some (.int (x1 - (I1 38 r1.toNatClampNeg))), some (.int (x2 - (I1 39 r1.toNatClampNeg))), some (.int r2), some (.int r3), none, none, none] [.int (I3 66 r2.toNatClampNeg), .int (x1 - (I1 38 r1.toNatClampNeg))] ((fl, n1, n2, false, q, ad), I3, J3)
      show vp_in r2 16 ∧ _
      refine ⟨h3.2.1, ?_⟩
      show mm_b _ _ _ _ _ [some (.ref 6), some (.int x0), none, none, some (.int x3), none, some (.int (x1 - (I1 38 r1.toNatClampNeg))), some (.int (x2 - (I1 39 r1.toNatClampNeg))), some (.int r2), some (.int r3), none, none, none] [.int (I3 67 r2.toNatClampNeg), .int (x2 - (I1 39 r1.toNatClampNeg)), .int ((x1 - (I1 38 r1.toNatClampNeg)) * (I3 66 r2.toNatClampNeg))] ((fl, n1, n2, false, q, ad), I3, J3)
      show vp_in r2 16 ∧ _
      refine ⟨h3.2.2.1, ?_⟩
      show mm_b _ _ _ _ _ [some (.ref 6), some (.int x0), none, none, some (.int x3), none, some (.int (x1 - (I1 38 r1.toNatClampNeg))), some (.int (x2 - (I1 39 r1.toNatClampNeg))), some (.int r2), some (.int r3), some (.int (((x1 - (I1 38 r1.toNatClampNeg)) * (I3 66 r2.toNatClampNeg)) + ((x2 - (I1 39 r1.toNatClampNeg)) * (I3 67 r2.toNatClampNeg)))), none, none] [.int (I3 66 r2.toNatClampNeg)] ((fl, n1, n2, false, q, ad), I3, J3)
      show vp_in r2 16 ∧ _
      refine ⟨h3.2.2.2.1, ?_⟩
      show mm_b _ _ _ _ _ [some (.ref 6), some (.int x0), none, none, some (.int x3), none, some (.int (x1 - (I1 38 r1.toNatClampNeg))), some (.int (x2 - (I1 39 r1.toNatClampNeg))), some (.int r2), some (.int r3), some (.int (((x1 - (I1 38 r1.toNatClampNeg)) * (I3 66 r2.toNatClampNeg)) + ((x2 - (I1 39 r1.toNatClampNeg)) * (I3 67 r2.toNatClampNeg)))), none, none] [.int (I3 67 r2.toNatClampNeg), .int ((I3 66 r2.toNatClampNeg) * (x2 - (I1 39 r1.toNatClampNeg)))] ((fl, n1, n2, false, q, ad), I3, J3)
      show (x3 = (nI 0) → _) ∧ (¬ x3 = (nI 0) → _)
      refine ⟨fun c1 => ?_, fun c1 => ?_⟩
      · show mm_u _ _ _ _ _ _ [some (.ref 6), some (.int x0), none, none, some (.int x3), none, some (.int (x1 - (I1 38 r1.toNatClampNeg))), some (.int (x2 - (I1 39 r1.toNatClampNeg))), some (.int r2), some (.int r3), some (.int (((x1 - (I1 38 r1.toNatClampNeg)) * (I3 66 r2.toNatClampNeg)) + ((x2 - (I1 39 r1.toNatClampNeg)) * (I3 67 r2.toNatClampNeg)))), some (.int (((I3 66 r2.toNatClampNeg) * (x2 - (I1 39 r1.toNatClampNeg))) - ((I3 67 r2.toNatClampNeg) * (x1 - (I1 38 r1.toNatClampNeg))))), none] [.int (((x1 - (I1 38 r1.toNatClampNeg)) * (x1 - (I1 38 r1.toNatClampNeg))) + ((x2 - (I1 39 r1.toNatClampNeg)) * (x2 - (I1 39 r1.toNatClampNeg))))] ((fl, n1, n2, false, q, ad), I3, J3)
        show ((((x1 - (I1 38 r1.toNatClampNeg)) * (I3 66 r2.toNatClampNeg)) + ((x2 - (I1 39 r1.toNatClampNeg)) * (I3 67 r2.toNatClampNeg))) ≤ (nI 0) → _) ∧ (¬ (((x1 - (I1 38 r1.toNatClampNeg)) * (I3 66 r2.toNatClampNeg)) + ((x2 - (I1 39 r1.toNatClampNeg)) * (I3 67 r2.toNatClampNeg))) ≤ (nI 0) → _)
        refine ⟨fun c2 => ?_, fun c2 => ?_⟩
        · show mm_u _ _ _ _ _ _ [some (.ref 6), none, none, none, none, none, none, none, none, some (.int r3), some (.int (((x1 - (I1 38 r1.toNatClampNeg)) * (I3 66 r2.toNatClampNeg)) + ((x2 - (I1 39 r1.toNatClampNeg)) * (I3 67 r2.toNatClampNeg)))), some (.int (((I3 66 r2.toNatClampNeg) * (x2 - (I1 39 r1.toNatClampNeg))) - ((I3 67 r2.toNatClampNeg) * (x1 - (I1 38 r1.toNatClampNeg))))), some (.int ((((x1 - (I1 38 r1.toNatClampNeg)) * (x1 - (I1 38 r1.toNatClampNeg))) + ((x2 - (I1 39 r1.toNatClampNeg)) * (x2 - (I1 39 r1.toNatClampNeg)))) * (nI 1)))] [] ((fl, n1, n2, false, q, ad), I3, J3)
          show (((nI 0) : Int32) = 0 ∨ ((nI 0) : Int32) = 1) ∧ _
          refine ⟨(by decide), ?_⟩
          exact ((h3.2.2.2.2.1 c1).1 c2)
        · show mm_b _ _ _ _ _ [some (.ref 6), none, none, none, none, none, none, none, none, some (.int r3), some (.int (((x1 - (I1 38 r1.toNatClampNeg)) * (I3 66 r2.toNatClampNeg)) + ((x2 - (I1 39 r1.toNatClampNeg)) * (I3 67 r2.toNatClampNeg)))), some (.int (((I3 66 r2.toNatClampNeg) * (x2 - (I1 39 r1.toNatClampNeg))) - ((I3 67 r2.toNatClampNeg) * (x1 - (I1 38 r1.toNatClampNeg))))), some (.int ((((x1 - (I1 38 r1.toNatClampNeg)) * (x1 - (I1 38 r1.toNatClampNeg))) + ((x2 - (I1 39 r1.toNatClampNeg)) * (x2 - (I1 39 r1.toNatClampNeg)))) * (nI 1)))] [] ((fl, n1, n2, false, q, ad), I3, J3)
          show mm_wc d 1000 [.int (((I3 66 r2.toNatClampNeg) * (x2 - (I1 39 r1.toNatClampNeg))) - ((I3 67 r2.toNatClampNeg) * (x1 - (I1 38 r1.toNatClampNeg))))] ((fl, 0, 0, false, q, ad), I3, J3) _
          refine mm_wcm ((h3.2.2.2.2.1 c1).2 c2) ?_
          rintro v τ ⟨r4, I4, J4, rfl, rfl, h4⟩
          refine mm_r1' ⟨rfl, ?_⟩
          show mm_b _ _ _ _ _ [some (.ref 6), none, none, none, none, none, none, none, none, some (.int r3), some (.int (((x1 - (I1 38 r1.toNatClampNeg)) * (I3 66 r2.toNatClampNeg)) + ((x2 - (I1 39 r1.toNatClampNeg)) * (I3 67 r2.toNatClampNeg)))), some (.int (((I3 66 r2.toNatClampNeg) * (x2 - (I1 39 r1.toNatClampNeg))) - ((I3 67 r2.toNatClampNeg) * (x1 - (I1 38 r1.toNatClampNeg))))), some (.int ((((x1 - (I1 38 r1.toNatClampNeg)) * (x1 - (I1 38 r1.toNatClampNeg))) + ((x2 - (I1 39 r1.toNatClampNeg)) * (x2 - (I1 39 r1.toNatClampNeg)))) * (nI 1)))] [.int r4, .int (nI 10)] ((fl, n1, n2, false, q, ad), I4, J4)
          show vp_in r3 4 ∧ _
          refine ⟨h4.1, ?_⟩
          show mm_b _ _ _ _ _ [some (.ref 6), none, none, none, none, none, none, none, none, some (.int r3), some (.int (((x1 - (I1 38 r1.toNatClampNeg)) * (I3 66 r2.toNatClampNeg)) + ((x2 - (I1 39 r1.toNatClampNeg)) * (I3 67 r2.toNatClampNeg)))), some (.int (((I3 66 r2.toNatClampNeg) * (x2 - (I1 39 r1.toNatClampNeg))) - ((I3 67 r2.toNatClampNeg) * (x1 - (I1 38 r1.toNatClampNeg))))), some (.int ((((x1 - (I1 38 r1.toNatClampNeg)) * (x1 - (I1 38 r1.toNatClampNeg))) + ((x2 - (I1 39 r1.toNatClampNeg)) * (x2 - (I1 39 r1.toNatClampNeg)))) * (nI 1)))] [.int (I4 44 r3.toNatClampNeg), .int ((nI 10) * r4)] ((fl, n1, n2, false, q, ad), I4, J4)
          show (((I4 44 r3.toNatClampNeg) * (((x1 - (I1 38 r1.toNatClampNeg)) * (I3 66 r2.toNatClampNeg)) + ((x2 - (I1 39 r1.toNatClampNeg)) * (I3 67 r2.toNatClampNeg)))) < ((nI 10) * r4) → _) ∧ (¬ ((I4 44 r3.toNatClampNeg) * (((x1 - (I1 38 r1.toNatClampNeg)) * (I3 66 r2.toNatClampNeg)) + ((x2 - (I1 39 r1.toNatClampNeg)) * (I3 67 r2.toNatClampNeg)))) < ((nI 10) * r4) → _)
          refine ⟨fun c3 => ?_, fun c3 => ?_⟩
          · show mm_u _ _ _ _ _ _ [some (.ref 6), none, none, none, none, none, none, none, none, some (.int r3), some (.int (((x1 - (I1 38 r1.toNatClampNeg)) * (I3 66 r2.toNatClampNeg)) + ((x2 - (I1 39 r1.toNatClampNeg)) * (I3 67 r2.toNatClampNeg)))), some (.int (((I3 66 r2.toNatClampNeg) * (x2 - (I1 39 r1.toNatClampNeg))) - ((I3 67 r2.toNatClampNeg) * (x1 - (I1 38 r1.toNatClampNeg))))), some (.int ((((x1 - (I1 38 r1.toNatClampNeg)) * (x1 - (I1 38 r1.toNatClampNeg))) + ((x2 - (I1 39 r1.toNatClampNeg)) * (x2 - (I1 39 r1.toNatClampNeg)))) * (nI 1)))] [] ((fl, n1, n2, false, q, ad), I4, J4)
            show (((nI 0) : Int32) = 0 ∨ ((nI 0) : Int32) = 1) ∧ _
            refine ⟨(by decide), ?_⟩
            exact (h4.2.1 c3)
          · show mm_b _ _ _ _ _ [some (.ref 6), none, none, none, none, none, none, none, none, some (.int r3), some (.int (((x1 - (I1 38 r1.toNatClampNeg)) * (I3 66 r2.toNatClampNeg)) + ((x2 - (I1 39 r1.toNatClampNeg)) * (I3 67 r2.toNatClampNeg)))), some (.int (((I3 66 r2.toNatClampNeg) * (x2 - (I1 39 r1.toNatClampNeg))) - ((I3 67 r2.toNatClampNeg) * (x1 - (I1 38 r1.toNatClampNeg))))), some (.int ((((x1 - (I1 38 r1.toNatClampNeg)) * (x1 - (I1 38 r1.toNatClampNeg))) + ((x2 - (I1 39 r1.toNatClampNeg)) * (x2 - (I1 39 r1.toNatClampNeg)))) * (nI 1)))] [] ((fl, n1, n2, false, q, ad), I4, J4)
            show vp_in r3 4 ∧ _
            refine ⟨(h4.2.2 c3).1, ?_⟩
            show mm_b _ _ _ _ _ [some (.ref 6), none, none, none, none, none, none, none, none, some (.int r3), some (.int (((x1 - (I1 38 r1.toNatClampNeg)) * (I3 66 r2.toNatClampNeg)) + ((x2 - (I1 39 r1.toNatClampNeg)) * (I3 67 r2.toNatClampNeg)))), some (.int (((I3 66 r2.toNatClampNeg) * (x2 - (I1 39 r1.toNatClampNeg))) - ((I3 67 r2.toNatClampNeg) * (x1 - (I1 38 r1.toNatClampNeg))))), some (.int ((((x1 - (I1 38 r1.toNatClampNeg)) * (x1 - (I1 38 r1.toNatClampNeg))) + ((x2 - (I1 39 r1.toNatClampNeg)) * (x2 - (I1 39 r1.toNatClampNeg)))) * (nI 1)))] [.int (I4 43 r3.toNatClampNeg), .int ((((x1 - (I1 38 r1.toNatClampNeg)) * (x1 - (I1 38 r1.toNatClampNeg))) + ((x2 - (I1 39 r1.toNatClampNeg)) * (x2 - (I1 39 r1.toNatClampNeg)))) * (nI 1))] ((fl, n1, n2, false, q, ad), I4, J4)
            show vp_in r3 4 ∧ _
            refine ⟨(h4.2.2 c3).2.1, ?_⟩
            show mm_b _ _ _ _ _ [some (.ref 6), none, none, none, none, none, none, none, none, some (.int r3), some (.int (((x1 - (I1 38 r1.toNatClampNeg)) * (I3 66 r2.toNatClampNeg)) + ((x2 - (I1 39 r1.toNatClampNeg)) * (I3 67 r2.toNatClampNeg)))), some (.int (((I3 66 r2.toNatClampNeg) * (x2 - (I1 39 r1.toNatClampNeg))) - ((I3 67 r2.toNatClampNeg) * (x1 - (I1 38 r1.toNatClampNeg))))), some (.int ((((x1 - (I1 38 r1.toNatClampNeg)) * (x1 - (I1 38 r1.toNatClampNeg))) + ((x2 - (I1 39 r1.toNatClampNeg)) * (x2 - (I1 39 r1.toNatClampNeg)))) * (nI 1)))] [.int (I4 43 r3.toNatClampNeg), .int (I4 43 r3.toNatClampNeg), .int ((((x1 - (I1 38 r1.toNatClampNeg)) * (x1 - (I1 38 r1.toNatClampNeg))) + ((x2 - (I1 39 r1.toNatClampNeg)) * (x2 - (I1 39 r1.toNatClampNeg)))) * (nI 1))] ((fl, n1, n2, false, q, ad), I4, J4)
            show (((I4 43 r3.toNatClampNeg) * (I4 43 r3.toNatClampNeg)) < ((((x1 - (I1 38 r1.toNatClampNeg)) * (x1 - (I1 38 r1.toNatClampNeg))) + ((x2 - (I1 39 r1.toNatClampNeg)) * (x2 - (I1 39 r1.toNatClampNeg)))) * (nI 1)) → _) ∧ (¬ ((I4 43 r3.toNatClampNeg) * (I4 43 r3.toNatClampNeg)) < ((((x1 - (I1 38 r1.toNatClampNeg)) * (x1 - (I1 38 r1.toNatClampNeg))) + ((x2 - (I1 39 r1.toNatClampNeg)) * (x2 - (I1 39 r1.toNatClampNeg)))) * (nI 1)) → _)
            refine ⟨fun c4 => ?_, fun c4 => ?_⟩
            · show mm_u _ _ _ _ _ _ [some (.ref 6), none, none, none, none, none, none, none, none, some (.int r3), some (.int (((x1 - (I1 38 r1.toNatClampNeg)) * (I3 66 r2.toNatClampNeg)) + ((x2 - (I1 39 r1.toNatClampNeg)) * (I3 67 r2.toNatClampNeg)))), some (.int (((I3 66 r2.toNatClampNeg) * (x2 - (I1 39 r1.toNatClampNeg))) - ((I3 67 r2.toNatClampNeg) * (x1 - (I1 38 r1.toNatClampNeg))))), some (.int ((((x1 - (I1 38 r1.toNatClampNeg)) * (x1 - (I1 38 r1.toNatClampNeg))) + ((x2 - (I1 39 r1.toNatClampNeg)) * (x2 - (I1 39 r1.toNatClampNeg)))) * (nI 1)))] [] ((fl, n1, n2, false, q, ad), I4, J4)
              show (((nI 0) : Int32) = 0 ∨ ((nI 0) : Int32) = 1) ∧ _
              refine ⟨(by decide), ?_⟩
              exact ((h4.2.2 c3).2.2.1 c4)
            · show mm_b _ _ _ _ _ [some (.ref 6), none, none, none, none, none, none, none, none, some (.int r3), some (.int (((x1 - (I1 38 r1.toNatClampNeg)) * (I3 66 r2.toNatClampNeg)) + ((x2 - (I1 39 r1.toNatClampNeg)) * (I3 67 r2.toNatClampNeg)))), some (.int (((I3 66 r2.toNatClampNeg) * (x2 - (I1 39 r1.toNatClampNeg))) - ((I3 67 r2.toNatClampNeg) * (x1 - (I1 38 r1.toNatClampNeg))))), some (.int ((((x1 - (I1 38 r1.toNatClampNeg)) * (x1 - (I1 38 r1.toNatClampNeg))) + ((x2 - (I1 39 r1.toNatClampNeg)) * (x2 - (I1 39 r1.toNatClampNeg)))) * (nI 1)))] [] ((fl, n1, n2, false, q, ad), I4, J4)
              show (((nI 1) : Int32) = 0 ∨ ((nI 1) : Int32) = 1) ∧ _
              refine ⟨(by decide), ?_⟩
              exact ((h4.2.2 c3).2.2.2 c4)
      · show mm_b _ _ _ _ _ [some (.ref 6), some (.int x0), none, none, some (.int x3), none, some (.int (x1 - (I1 38 r1.toNatClampNeg))), some (.int (x2 - (I1 39 r1.toNatClampNeg))), some (.int r2), some (.int r3), some (.int (((x1 - (I1 38 r1.toNatClampNeg)) * (I3 66 r2.toNatClampNeg)) + ((x2 - (I1 39 r1.toNatClampNeg)) * (I3 67 r2.toNatClampNeg)))), some (.int (((I3 66 r2.toNatClampNeg) * (x2 - (I1 39 r1.toNatClampNeg))) - ((I3 67 r2.toNatClampNeg) * (x1 - (I1 38 r1.toNatClampNeg))))), none] [.int (((x1 - (I1 38 r1.toNatClampNeg)) * (x1 - (I1 38 r1.toNatClampNeg))) + ((x2 - (I1 39 r1.toNatClampNeg)) * (x2 - (I1 39 r1.toNatClampNeg))))] ((fl, n1, n2, false, q, ad), I3, J3)
        show ((((x1 - (I1 38 r1.toNatClampNeg)) * (I3 66 r2.toNatClampNeg)) + ((x2 - (I1 39 r1.toNatClampNeg)) * (I3 67 r2.toNatClampNeg))) ≤ (nI 0) → _) ∧ (¬ (((x1 - (I1 38 r1.toNatClampNeg)) * (I3 66 r2.toNatClampNeg)) + ((x2 - (I1 39 r1.toNatClampNeg)) * (I3 67 r2.toNatClampNeg))) ≤ (nI 0) → _)
        refine ⟨fun c2 => ?_, fun c2 => ?_⟩
        · show mm_u _ _ _ _ _ _ [some (.ref 6), none, none, none, none, none, none, none, none, some (.int r3), some (.int (((x1 - (I1 38 r1.toNatClampNeg)) * (I3 66 r2.toNatClampNeg)) + ((x2 - (I1 39 r1.toNatClampNeg)) * (I3 67 r2.toNatClampNeg)))), some (.int (((I3 66 r2.toNatClampNeg) * (x2 - (I1 39 r1.toNatClampNeg))) - ((I3 67 r2.toNatClampNeg) * (x1 - (I1 38 r1.toNatClampNeg))))), some (.int ((((x1 - (I1 38 r1.toNatClampNeg)) * (x1 - (I1 38 r1.toNatClampNeg))) + ((x2 - (I1 39 r1.toNatClampNeg)) * (x2 - (I1 39 r1.toNatClampNeg)))) * (nI 4)))] [] ((fl, n1, n2, false, q, ad), I3, J3)
          show (((nI 0) : Int32) = 0 ∨ ((nI 0) : Int32) = 1) ∧ _
          refine ⟨(by decide), ?_⟩
          exact ((h3.2.2.2.2.2 c1).1 c2)
        · show mm_b _ _ _ _ _ [some (.ref 6), none, none, none, none, none, none, none, none, some (.int r3), some (.int (((x1 - (I1 38 r1.toNatClampNeg)) * (I3 66 r2.toNatClampNeg)) + ((x2 - (I1 39 r1.toNatClampNeg)) * (I3 67 r2.toNatClampNeg)))), some (.int (((I3 66 r2.toNatClampNeg) * (x2 - (I1 39 r1.toNatClampNeg))) - ((I3 67 r2.toNatClampNeg) * (x1 - (I1 38 r1.toNatClampNeg))))), some (.int ((((x1 - (I1 38 r1.toNatClampNeg)) * (x1 - (I1 38 r1.toNatClampNeg))) + ((x2 - (I1 39 r1.toNatClampNeg)) * (x2 - (I1 39 r1.toNatClampNeg)))) * (nI 4)))] [] ((fl, n1, n2, false, q, ad), I3, J3)
          show mm_wc d 1000 [.int (((I3 66 r2.toNatClampNeg) * (x2 - (I1 39 r1.toNatClampNeg))) - ((I3 67 r2.toNatClampNeg) * (x1 - (I1 38 r1.toNatClampNeg))))] ((fl, 0, 0, false, q, ad), I3, J3) _
          refine mm_wcm ((h3.2.2.2.2.2 c1).2 c2) ?_
          rintro v τ ⟨r5, I5, J5, rfl, rfl, h5⟩
          refine mm_r1' ⟨rfl, ?_⟩
          show mm_b _ _ _ _ _ [some (.ref 6), none, none, none, none, none, none, none, none, some (.int r3), some (.int (((x1 - (I1 38 r1.toNatClampNeg)) * (I3 66 r2.toNatClampNeg)) + ((x2 - (I1 39 r1.toNatClampNeg)) * (I3 67 r2.toNatClampNeg)))), some (.int (((I3 66 r2.toNatClampNeg) * (x2 - (I1 39 r1.toNatClampNeg))) - ((I3 67 r2.toNatClampNeg) * (x1 - (I1 38 r1.toNatClampNeg))))), some (.int ((((x1 - (I1 38 r1.toNatClampNeg)) * (x1 - (I1 38 r1.toNatClampNeg))) + ((x2 - (I1 39 r1.toNatClampNeg)) * (x2 - (I1 39 r1.toNatClampNeg)))) * (nI 4)))] [.int r5, .int (nI 10)] ((fl, n1, n2, false, q, ad), I5, J5)
          show vp_in r3 4 ∧ _
          refine ⟨h5.1, ?_⟩
          show mm_b _ _ _ _ _ [some (.ref 6), none, none, none, none, none, none, none, none, some (.int r3), some (.int (((x1 - (I1 38 r1.toNatClampNeg)) * (I3 66 r2.toNatClampNeg)) + ((x2 - (I1 39 r1.toNatClampNeg)) * (I3 67 r2.toNatClampNeg)))), some (.int (((I3 66 r2.toNatClampNeg) * (x2 - (I1 39 r1.toNatClampNeg))) - ((I3 67 r2.toNatClampNeg) * (x1 - (I1 38 r1.toNatClampNeg))))), some (.int ((((x1 - (I1 38 r1.toNatClampNeg)) * (x1 - (I1 38 r1.toNatClampNeg))) + ((x2 - (I1 39 r1.toNatClampNeg)) * (x2 - (I1 39 r1.toNatClampNeg)))) * (nI 4)))] [.int (I5 44 r3.toNatClampNeg), .int ((nI 10) * r5)] ((fl, n1, n2, false, q, ad), I5, J5)
          show (((I5 44 r3.toNatClampNeg) * (((x1 - (I1 38 r1.toNatClampNeg)) * (I3 66 r2.toNatClampNeg)) + ((x2 - (I1 39 r1.toNatClampNeg)) * (I3 67 r2.toNatClampNeg)))) < ((nI 10) * r5) → _) ∧ (¬ ((I5 44 r3.toNatClampNeg) * (((x1 - (I1 38 r1.toNatClampNeg)) * (I3 66 r2.toNatClampNeg)) + ((x2 - (I1 39 r1.toNatClampNeg)) * (I3 67 r2.toNatClampNeg)))) < ((nI 10) * r5) → _)
          refine ⟨fun c3 => ?_, fun c3 => ?_⟩
          · show mm_u _ _ _ _ _ _ [some (.ref 6), none, none, none, none, none, none, none, none, some (.int r3), some (.int (((x1 - (I1 38 r1.toNatClampNeg)) * (I3 66 r2.toNatClampNeg)) + ((x2 - (I1 39 r1.toNatClampNeg)) * (I3 67 r2.toNatClampNeg)))), some (.int (((I3 66 r2.toNatClampNeg) * (x2 - (I1 39 r1.toNatClampNeg))) - ((I3 67 r2.toNatClampNeg) * (x1 - (I1 38 r1.toNatClampNeg))))), some (.int ((((x1 - (I1 38 r1.toNatClampNeg)) * (x1 - (I1 38 r1.toNatClampNeg))) + ((x2 - (I1 39 r1.toNatClampNeg)) * (x2 - (I1 39 r1.toNatClampNeg)))) * (nI 4)))] [] ((fl, n1, n2, false, q, ad), I5, J5)
            show (((nI 0) : Int32) = 0 ∨ ((nI 0) : Int32) = 1) ∧ _
            refine ⟨(by decide), ?_⟩
            exact (h5.2.1 c3)
          · show mm_b _ _ _ _ _ [some (.ref 6), none, none, none, none, none, none, none, none, some (.int r3), some (.int (((x1 - (I1 38 r1.toNatClampNeg)) * (I3 66 r2.toNatClampNeg)) + ((x2 - (I1 39 r1.toNatClampNeg)) * (I3 67 r2.toNatClampNeg)))), some (.int (((I3 66 r2.toNatClampNeg) * (x2 - (I1 39 r1.toNatClampNeg))) - ((I3 67 r2.toNatClampNeg) * (x1 - (I1 38 r1.toNatClampNeg))))), some (.int ((((x1 - (I1 38 r1.toNatClampNeg)) * (x1 - (I1 38 r1.toNatClampNeg))) + ((x2 - (I1 39 r1.toNatClampNeg)) * (x2 - (I1 39 r1.toNatClampNeg)))) * (nI 4)))] [] ((fl, n1, n2, false, q, ad), I5, J5)
            show vp_in r3 4 ∧ _
            refine ⟨(h5.2.2 c3).1, ?_⟩
            show mm_b _ _ _ _ _ [some (.ref 6), none, none, none, none, none, none, none, none, some (.int r3), some (.int (((x1 - (I1 38 r1.toNatClampNeg)) * (I3 66 r2.toNatClampNeg)) + ((x2 - (I1 39 r1.toNatClampNeg)) * (I3 67 r2.toNatClampNeg)))), some (.int (((I3 66 r2.toNatClampNeg) * (x2 - (I1 39 r1.toNatClampNeg))) - ((I3 67 r2.toNatClampNeg) * (x1 - (I1 38 r1.toNatClampNeg))))), some (.int ((((x1 - (I1 38 r1.toNatClampNeg)) * (x1 - (I1 38 r1.toNatClampNeg))) + ((x2 - (I1 39 r1.toNatClampNeg)) * (x2 - (I1 39 r1.toNatClampNeg)))) * (nI 4)))] [.int (I5 43 r3.toNatClampNeg), .int ((((x1 - (I1 38 r1.toNatClampNeg)) * (x1 - (I1 38 r1.toNatClampNeg))) + ((x2 - (I1 39 r1.toNatClampNeg)) * (x2 - (I1 39 r1.toNatClampNeg)))) * (nI 4))] ((fl, n1, n2, false, q, ad), I5, J5)
            show vp_in r3 4 ∧ _
            refine ⟨(h5.2.2 c3).2.1, ?_⟩
            show mm_b _ _ _ _ _ [some (.ref 6), none, none, none, none, none, none, none, none, some (.int r3), some (.int (((x1 - (I1 38 r1.toNatClampNeg)) * (I3 66 r2.toNatClampNeg)) + ((x2 - (I1 39 r1.toNatClampNeg)) * (I3 67 r2.toNatClampNeg)))), some (.int (((I3 66 r2.toNatClampNeg) * (x2 - (I1 39 r1.toNatClampNeg))) - ((I3 67 r2.toNatClampNeg) * (x1 - (I1 38 r1.toNatClampNeg))))), some (.int ((((x1 - (I1 38 r1.toNatClampNeg)) * (x1 - (I1 38 r1.toNatClampNeg))) + ((x2 - (I1 39 r1.toNatClampNeg)) * (x2 - (I1 39 r1.toNatClampNeg)))) * (nI 4)))] [.int (I5 43 r3.toNatClampNeg), .int (I5 43 r3.toNatClampNeg), .int ((((x1 - (I1 38 r1.toNatClampNeg)) * (x1 - (I1 38 r1.toNatClampNeg))) + ((x2 - (I1 39 r1.toNatClampNeg)) * (x2 - (I1 39 r1.toNatClampNeg)))) * (nI 4))] ((fl, n1, n2, false, q, ad), I5, J5)
            show (((I5 43 r3.toNatClampNeg) * (I5 43 r3.toNatClampNeg)) < ((((x1 - (I1 38 r1.toNatClampNeg)) * (x1 - (I1 38 r1.toNatClampNeg))) + ((x2 - (I1 39 r1.toNatClampNeg)) * (x2 - (I1 39 r1.toNatClampNeg)))) * (nI 4)) → _) ∧ (¬ ((I5 43 r3.toNatClampNeg) * (I5 43 r3.toNatClampNeg)) < ((((x1 - (I1 38 r1.toNatClampNeg)) * (x1 - (I1 38 r1.toNatClampNeg))) + ((x2 - (I1 39 r1.toNatClampNeg)) * (x2 - (I1 39 r1.toNatClampNeg)))) * (nI 4)) → _)
            refine ⟨fun c4 => ?_, fun c4 => ?_⟩
            · show mm_u _ _ _ _ _ _ [some (.ref 6), none, none, none, none, none, none, none, none, some (.int r3), some (.int (((x1 - (I1 38 r1.toNatClampNeg)) * (I3 66 r2.toNatClampNeg)) + ((x2 - (I1 39 r1.toNatClampNeg)) * (I3 67 r2.toNatClampNeg)))), some (.int (((I3 66 r2.toNatClampNeg) * (x2 - (I1 39 r1.toNatClampNeg))) - ((I3 67 r2.toNatClampNeg) * (x1 - (I1 38 r1.toNatClampNeg))))), some (.int ((((x1 - (I1 38 r1.toNatClampNeg)) * (x1 - (I1 38 r1.toNatClampNeg))) + ((x2 - (I1 39 r1.toNatClampNeg)) * (x2 - (I1 39 r1.toNatClampNeg)))) * (nI 4)))] [] ((fl, n1, n2, false, q, ad), I5, J5)
              show (((nI 0) : Int32) = 0 ∨ ((nI 0) : Int32) = 1) ∧ _
              refine ⟨(by decide), ?_⟩
              exact ((h5.2.2 c3).2.2.1 c4)
            · show mm_b _ _ _ _ _ [some (.ref 6), none, none, none, none, none, none, none, none, some (.int r3), some (.int (((x1 - (I1 38 r1.toNatClampNeg)) * (I3 66 r2.toNatClampNeg)) + ((x2 - (I1 39 r1.toNatClampNeg)) * (I3 67 r2.toNatClampNeg)))), some (.int (((I3 66 r2.toNatClampNeg) * (x2 - (I1 39 r1.toNatClampNeg))) - ((I3 67 r2.toNatClampNeg) * (x1 - (I1 38 r1.toNatClampNeg))))), some (.int ((((x1 - (I1 38 r1.toNatClampNeg)) * (x1 - (I1 38 r1.toNatClampNeg))) + ((x2 - (I1 39 r1.toNatClampNeg)) * (x2 - (I1 39 r1.toNatClampNeg)))) * (nI 4)))] [] ((fl, n1, n2, false, q, ad), I5, J5)
              show (((nI 1) : Int32) = 0 ∨ ((nI 1) : Int32) = 1) ∧ _
              refine ⟨(by decide), ?_⟩
              exact ((h5.2.2 c3).2.2.2 c4)
    · show mm_b _ _ _ _ _ [some (.ref 6), some (.int x0), some (.int x1), some (.int x2), some (.int x3), some (.int r1), some (.int (x1 - (I1 38 r1.toNatClampNeg))), some (.int (x2 - (I1 39 r1.toNatClampNeg))), none, none, none, none, none] [] ((fl, n1, n2, false, q, ad), I1, J1)
      show (¬ (x2 - (I1 39 r1.toNatClampNeg)) = (nI 0) → _) ∧ ((x2 - (I1 39 r1.toNatClampNeg)) = (nI 0) → _)
      refine ⟨fun c1 => ?_, fun c1 => ?_⟩
      · show mm_u _ _ _ _ _ _ [some (.ref 6), some (.int x0), some (.int x1), some (.int x2), some (.int x3), some (.int r1), some (.int (x1 - (I1 38 r1.toNatClampNeg))), some (.int (x2 - (I1 39 r1.toNatClampNeg))), none, none, none, none, none] [] ((fl, n1, n2, false, q, ad), I1, J1)
        show mm_wc d 10 [.ref 6, .int x0] ((fl, 0, 0, false, q, ad), I1, J1) _
        refine mm_wcm ((h1.2.2.2 c0).1 c1) ?_
        rintro v τ ⟨r6, I6, J6, rfl, rfl, h6⟩
        refine mm_r1' ⟨rfl, ?_⟩
        show mm_b _ _ _ _ _ [some (.ref 6), some (.int x0), none, none, some (.int x3), none, some (.int (x1 - (I1 38 r1.toNatClampNeg))), some (.int (x2 - (I1 39 r1.toNatClampNeg))), none, none, none, none, none] [.int r6] ((fl, n1, n2, false, q, ad), I6, J6)
        show mm_wc d 12 [.ref 6, .int x0] ((fl, 0, 0, false, q, ad), I6, J6) _
        refine mm_wcm h6 ?_
        rintro v τ ⟨r7, I7, J7, rfl, rfl, h7⟩
        refine mm_r1' ⟨rfl, ?_⟩
        show mm_b _ _ _ _ _ [some (.ref 6), some (.int x0), none, none, some (.int x3), none, some (.int (x1 - (I1 38 r1.toNatClampNeg))), some (.int (x2 - (I1 39 r1.toNatClampNeg))), some (.int r6), none, none, none, none] [.int r7] ((fl, n1, n2, false, q, ad), I7, J7)
        show vp_in r6 16 ∧ _
        refine ⟨h7.1, ?_⟩
        show mm_b _ _ _ _ _ [some (.ref 6), some (.int x0), none, none, some (.int x3), none, some (.int (x1 - (I1 38 r1.toNatClampNeg))), some (.int (x2 - (I1 39 r1.toNatClampNeg))), some (.int r6), some (.int r7), none, none, none] [.int (I7 66 r6.toNatClampNeg), .int (x1 - (I1 38 r1.toNatClampNeg))] ((fl, n1, n2, false, q, ad), I7, J7)
        show vp_in r6 16 ∧ _
        refine ⟨h7.2.1, ?_⟩
        show mm_b _ _ _ _ _ [some (.ref 6), some (.int x0), none, none, some (.int x3), none, some (.int (x1 - (I1 38 r1.toNatClampNeg))), some (.int (x2 - (I1 39 r1.toNatClampNeg))), some (.int r6), some (.int r7), none, none, none] [.int (I7 67 r6.toNatClampNeg), .int (x2 - (I1 39 r1.toNatClampNeg)), .int ((x1 - (I1 38 r1.toNatClampNeg)) * (I7 66 r6.toNatClampNeg))] ((fl, n1, n2, false, q, ad), I7, J7)
        show vp_in r6 16 ∧ _
        refine ⟨h7.2.2.1, ?_⟩
        show mm_b _ _ _ _ _ [some (.ref 6), some (.int x0), none, none, some (.int x3), none, some (.int (x1 - (I1 38 r1.toNatClampNeg))), some (.int (x2 - (I1 39 r1.toNatClampNeg))), some (.int r6), some (.int r7), some (.int (((x1 - (I1 38 r1.toNatClampNeg)) * (I7 66 r6.toNatClampNeg)) + ((x2 - (I1 39 r1.toNatClampNeg)) * (I7 67 r6.toNatClampNeg)))), none, none] [.int (I7 66 r6.toNatClampNeg)] ((fl, n1, n2, false, q, ad), I7, J7)
        show vp_in r6 16 ∧ _
        refine ⟨h7.2.2.2.1, ?_⟩
        show mm_b _ _ _ _ _ [some (.ref 6), some (.int x0), none, none, some (.int x3), none, some (.int (x1 - (I1 38 r1.toNatClampNeg))), some (.int (x2 - (I1 39 r1.toNatClampNeg))), some (.int r6), some (.int r7), some (.int (((x1 - (I1 38 r1.toNatClampNeg)) * (I7 66 r6.toNatClampNeg)) + ((x2 - (I1 39 r1.toNatClampNeg)) * (I7 67 r6.toNatClampNeg)))), none, none] [.int (I7 67 r6.toNatClampNeg), .int ((I7 66 r6.toNatClampNeg) * (x2 - (I1 39 r1.toNatClampNeg)))] ((fl, n1, n2, false, q, ad), I7, J7)
        show (x3 = (nI 0) → _) ∧ (¬ x3 = (nI 0) → _)
        refine ⟨fun c2 => ?_, fun c2 => ?_⟩
        · show mm_u _ _ _ _ _ _ [some (.ref 6), some (.int x0), none, none, some (.int x3), none, some (.int (x1 - (I1 38 r1.toNatClampNeg))), some (.int (x2 - (I1 39 r1.toNatClampNeg))), some (.int r6), some (.int r7), some (.int (((x1 - (I1 38 r1.toNatClampNeg)) * (I7 66 r6.toNatClampNeg)) + ((x2 - (I1 39 r1.toNatClampNeg)) * (I7 67 r6.toNatClampNeg)))), some (.int (((I7 66 r6.toNatClampNeg) * (x2 - (I1 39 r1.toNatClampNeg))) - ((I7 67 r6.toNatClampNeg) * (x1 - (I1 38 r1.toNatClampNeg))))), none] [.int (((x1 - (I1 38 r1.toNatClampNeg)) * (x1 - (I1 38 r1.toNatClampNeg))) + ((x2 - (I1 39 r1.toNatClampNeg)) * (x2 - (I1 39 r1.toNatClampNeg))))] ((fl, n1, n2, false, q, ad), I7, J7)
          show ((((x1 - (I1 38 r1.toNatClampNeg)) * (I7 66 r6.toNatClampNeg)) + ((x2 - (I1 39 r1.toNatClampNeg)) * (I7 67 r6.toNatClampNeg))) ≤ (nI 0) → _) ∧ (¬ (((x1 - (I1 38 r1.toNatClampNeg)) * (I7 66 r6.toNatClampNeg)) + ((x2 - (I1 39 r1.toNatClampNeg)) * (I7 67 r6.toNatClampNeg))) ≤ (nI 0) → _)
          refine ⟨fun c3 => ?_, fun c3 => ?_⟩
          · show mm_u _ _ _ _ _ _ [some (.ref 6), none, none, none, none, none, none, none, none, some (.int r7), some (.int (((x1 - (I1 38 r1.toNatClampNeg)) * (I7 66 r6.toNatClampNeg)) + ((x2 - (I1 39 r1.toNatClampNeg)) * (I7 67 r6.toNatClampNeg)))), some (.int (((I7 66 r6.toNatClampNeg) * (x2 - (I1 39 r1.toNatClampNeg))) - ((I7 67 r6.toNatClampNeg) * (x1 - (I1 38 r1.toNatClampNeg))))), some (.int ((((x1 - (I1 38 r1.toNatClampNeg)) * (x1 - (I1 38 r1.toNatClampNeg))) + ((x2 - (I1 39 r1.toNatClampNeg)) * (x2 - (I1 39 r1.toNatClampNeg)))) * (nI 1)))] [] ((fl, n1, n2, false, q, ad), I7, J7)
            show (((nI 0) : Int32) = 0 ∨ ((nI 0) : Int32) = 1) ∧ _
            refine ⟨(by decide), ?_⟩
            exact ((h7.2.2.2.2.1 c2).1 c3)
          · show mm_b _ _ _ _ _ [some (.ref 6), none, none, none, none, none, none, none, none, some (.int r7), some (.int (((x1 - (I1 38 r1.toNatClampNeg)) * (I7 66 r6.toNatClampNeg)) + ((x2 - (I1 39 r1.toNatClampNeg)) * (I7 67 r6.toNatClampNeg)))), some (.int (((I7 66 r6.toNatClampNeg) * (x2 - (I1 39 r1.toNatClampNeg))) - ((I7 67 r6.toNatClampNeg) * (x1 - (I1 38 r1.toNatClampNeg))))), some (.int ((((x1 - (I1 38 r1.toNatClampNeg)) * (x1 - (I1 38 r1.toNatClampNeg))) + ((x2 - (I1 39 r1.toNatClampNeg)) * (x2 - (I1 39 r1.toNatClampNeg)))) * (nI 1)))] [] ((fl, n1, n2, false, q, ad), I7, J7)
            show mm_wc d 1000 [.int (((I7 66 r6.toNatClampNeg) * (x2 - (I1 39 r1.toNatClampNeg))) - ((I7 67 r6.toNatClampNeg) * (x1 - (I1 38 r1.toNatClampNeg))))] ((fl, 0, 0, false, q, ad), I7, J7) _
            refine mm_wcm ((h7.2.2.2.2.1 c2).2 c3) ?_
            rintro v τ ⟨r8, I8, J8, rfl, rfl, h8⟩
            refine mm_r1' ⟨rfl, ?_⟩
            show mm_b _ _ _ _ _ [some (.ref 6), none, none, none, none, none, none, none, none, some (.int r7), some (.int (((x1 - (I1 38 r1.toNatClampNeg)) * (I7 66 r6.toNatClampNeg)) + ((x2 - (I1 39 r1.toNatClampNeg)) * (I7 67 r6.toNatClampNeg)))), some (.int (((I7 66 r6.toNatClampNeg) * (x2 - (I1 39 r1.toNatClampNeg))) - ((I7 67 r6.toNatClampNeg) * (x1 - (I1 38 r1.toNatClampNeg))))), some (.int ((((x1 - (I1 38 r1.toNatClampNeg)) * (x1 - (I1 38 r1.toNatClampNeg))) + ((x2 - (I1 39 r1.toNatClampNeg)) * (x2 - (I1 39 r1.toNatClampNeg)))) * (nI 1)))] [.int r8, .int (nI 10)] ((fl, n1, n2, false, q, ad), I8, J8)
            show vp_in r7 4 ∧ _
            refine ⟨h8.1, ?_⟩
            show mm_b _ _ _ _ _ [some (.ref 6), none, none, none, none, none, none, none, none, some (.int r7), some (.int (((x1 - (I1 38 r1.toNatClampNeg)) * (I7 66 r6.toNatClampNeg)) + ((x2 - (I1 39 r1.toNatClampNeg)) * (I7 67 r6.toNatClampNeg)))), some (.int (((I7 66 r6.toNatClampNeg) * (x2 - (I1 39 r1.toNatClampNeg))) - ((I7 67 r6.toNatClampNeg) * (x1 - (I1 38 r1.toNatClampNeg))))), some (.int ((((x1 - (I1 38 r1.toNatClampNeg)) * (x1 - (I1 38 r1.toNatClampNeg))) + ((x2 - (I1 39 r1.toNatClampNeg)) * (x2 - (I1 39 r1.toNatClampNeg)))) * (nI 1)))] [.int (I8 44 r7.toNatClampNeg), .int ((nI 10) * r8)] ((fl, n1, n2, false, q, ad), I8, J8)
            show (((I8 44 r7.toNatClampNeg) * (((x1 - (I1 38 r1.toNatClampNeg)) * (I7 66 r6.toNatClampNeg)) + ((x2 - (I1 39 r1.toNatClampNeg)) * (I7 67 r6.toNatClampNeg)))) < ((nI 10) * r8) → _) ∧ (¬ ((I8 44 r7.toNatClampNeg) * (((x1 - (I1 38 r1.toNatClampNeg)) * (I7 66 r6.toNatClampNeg)) + ((x2 - (I1 39 r1.toNatClampNeg)) * (I7 67 r6.toNatClampNeg)))) < ((nI 10) * r8) → _)
            refine ⟨fun c4 => ?_, fun c4 => ?_⟩
            · show mm_u _ _ _ _ _ _ [some (.ref 6), none, none, none, none, none, none, none, none, some (.int r7), some (.int (((x1 - (I1 38 r1.toNatClampNeg)) * (I7 66 r6.toNatClampNeg)) + ((x2 - (I1 39 r1.toNatClampNeg)) * (I7 67 r6.toNatClampNeg)))), some (.int (((I7 66 r6.toNatClampNeg) * (x2 - (I1 39 r1.toNatClampNeg))) - ((I7 67 r6.toNatClampNeg) * (x1 - (I1 38 r1.toNatClampNeg))))), some (.int ((((x1 - (I1 38 r1.toNatClampNeg)) * (x1 - (I1 38 r1.toNatClampNeg))) + ((x2 - (I1 39 r1.toNatClampNeg)) * (x2 - (I1 39 r1.toNatClampNeg)))) * (nI 1)))] [] ((fl, n1, n2, false, q, ad), I8, J8)
              show (((nI 0) : Int32) = 0 ∨ ((nI 0) : Int32) = 1) ∧ _
              refine ⟨(by decide), ?_⟩
              exact (h8.2.1 c4)
            · show mm_b _ _ _ _ _ [some (.ref 6), none, none, none, none, none, none, none, none, some (.int r7), some (.int (((x1 - (I1 38 r1.toNatClampNeg)) * (I7 66 r6.toNatClampNeg)) + ((x2 - (I1 39 r1.toNatClampNeg)) * (I7 67 r6.toNatClampNeg)))), some (.int (((I7 66 r6.toNatClampNeg) * (x2 - (I1 39 r1.toNatClampNeg))) - ((I7 67 r6.toNatClampNeg) * (x1 - (I1 38 r1.toNatClampNeg))))), some (.int ((((x1 - (I1 38 r1.toNatClampNeg)) * (x1 - (I1 38 r1.toNatClampNeg))) + ((x2 - (I1 39 r1.toNatClampNeg)) * (x2 - (I1 39 r1.toNatClampNeg)))) * (nI 1)))] [] ((fl, n1, n2, false, q, ad), I8, J8)
              show vp_in r7 4 ∧ _
              refine ⟨(h8.2.2 c4).1, ?_⟩
              show mm_b _ _ _ _ _ [some (.ref 6), none, none, none, none, none, none, none, none, some (.int r7), some (.int (((x1 - (I1 38 r1.toNatClampNeg)) * (I7 66 r6.toNatClampNeg)) + ((x2 - (I1 39 r1.toNatClampNeg)) * (I7 67 r6.toNatClampNeg)))), some (.int (((I7 66 r6.toNatClampNeg) * (x2 - (I1 39 r1.toNatClampNeg))) - ((I7 67 r6.toNatClampNeg) * (x1 - (I1 38 r1.toNatClampNeg))))), some (.int ((((x1 - (I1 38 r1.toNatClampNeg)) * (x1 - (I1 38 r1.toNatClampNeg))) + ((x2 - (I1 39 r1.toNatClampNeg)) * (x2 - (I1 39 r1.toNatClampNeg)))) * (nI 1)))] [.int (I8 43 r7.toNatClampNeg), .int ((((x1 - (I1 38 r1.toNatClampNeg)) * (x1 - (I1 38 r1.toNatClampNeg))) + ((x2 - (I1 39 r1.toNatClampNeg)) * (x2 - (I1 39 r1.toNatClampNeg)))) * (nI 1))] ((fl, n1, n2, false, q, ad), I8, J8)
              show vp_in r7 4 ∧ _
              refine ⟨(h8.2.2 c4).2.1, ?_⟩
              show mm_b _ _ _ _ _ [some (.ref 6), none, none, none, none, none, none, none, none, some (.int r7), some (.int (((x1 - (I1 38 r1.toNatClampNeg)) * (I7 66 r6.toNatClampNeg)) + ((x2 - (I1 39 r1.toNatClampNeg)) * (I7 67 r6.toNatClampNeg)))), some (.int (((I7 66 r6.toNatClampNeg) * (x2 - (I1 39 r1.toNatClampNeg))) - ((I7 67 r6.toNatClampNeg) * (x1 - (I1 38 r1.toNatClampNeg))))), some (.int ((((x1 - (I1 38 r1.toNatClampNeg)) * (x1 - (I1 38 r1.toNatClampNeg))) + ((x2 - (I1 39 r1.toNatClampNeg)) * (x2 - (I1 39 r1.toNatClampNeg)))) * (nI 1)))] [.int (I8 43 r7.toNatClampNeg), .int (I8 43 r7.toNatClampNeg), .int ((((x1 - (I1 38 r1.toNatClampNeg)) * (x1 - (I1 38 r1.toNatClampNeg))) + ((x2 - (I1 39 r1.toNatClampNeg)) * (x2 - (I1 39 r1.toNatClampNeg)))) * (nI 1))] ((fl, n1, n2, false, q, ad), I8, J8)
              show (((I8 43 r7.toNatClampNeg) * (I8 43 r7.toNatClampNeg)) < ((((x1 - (I1 38 r1.toNatClampNeg)) * (x1 - (I1 38 r1.toNatClampNeg))) + ((x2 - (I1 39 r1.toNatClampNeg)) * (x2 - (I1 39 r1.toNatClampNeg)))) * (nI 1)) → _) ∧ (¬ ((I8 43 r7.toNatClampNeg) * (I8 43 r7.toNatClampNeg)) < ((((x1 - (I1 38 r1.toNatClampNeg)) * (x1 - (I1 38 r1.toNatClampNeg))) + ((x2 - (I1 39 r1.toNatClampNeg)) * (x2 - (I1 39 r1.toNatClampNeg)))) * (nI 1)) → _)
              refine ⟨fun c5 => ?_, fun c5 => ?_⟩
              · show mm_u _ _ _ _ _ _ [some (.ref 6), none, none, none, none, none, none, none, none, some (.int r7), some (.int (((x1 - (I1 38 r1.toNatClampNeg)) * (I7 66 r6.toNatClampNeg)) + ((x2 - (I1 39 r1.toNatClampNeg)) * (I7 67 r6.toNatClampNeg)))), some (.int (((I7 66 r6.toNatClampNeg) * (x2 - (I1 39 r1.toNatClampNeg))) - ((I7 67 r6.toNatClampNeg) * (x1 - (I1 38 r1.toNatClampNeg))))), some (.int ((((x1 - (I1 38 r1.toNatClampNeg)) * (x1 - (I1 38 r1.toNatClampNeg))) + ((x2 - (I1 39 r1.toNatClampNeg)) * (x2 - (I1 39 r1.toNatClampNeg)))) * (nI 1)))] [] ((fl, n1, n2, false, q, ad), I8, J8)
                show (((nI 0) : Int32) = 0 ∨ ((nI 0) : Int32) = 1) ∧ _
                refine ⟨(by decide), ?_⟩
                exact ((h8.2.2 c4).2.2.1 c5)
              · show mm_b _ _ _ _ _ [some (.ref 6), none, none, none, none, none, none, none, none, some (.int r7), some (.int (((x1 - (I1 38 r1.toNatClampNeg)) * (I7 66 r6.toNatClampNeg)) + ((x2 - (I1 39 r1.toNatClampNeg)) * (I7 67 r6.toNatClampNeg)))), some (.int (((I7 66 r6.toNatClampNeg) * (x2 - (I1 39 r1.toNatClampNeg))) - ((I7 67 r6.toNatClampNeg) * (x1 - (I1 38 r1.toNatClampNeg))))), some (.int ((((x1 - (I1 38 r1.toNatClampNeg)) * (x1 - (I1 38 r1.toNatClampNeg))) + ((x2 - (I1 39 r1.toNatClampNeg)) * (x2 - (I1 39 r1.toNatClampNeg)))) * (nI 1)))] [] ((fl, n1, n2, false, q, ad), I8, J8)
                show (((nI 1) : Int32) = 0 ∨ ((nI 1) : Int32) = 1) ∧ _
                refine ⟨(by decide), ?_⟩
                exact ((h8.2.2 c4).2.2.2 c5)
        · show mm_b _ _ _ _ _ [some (.ref 6), some (.int x0), none, none, some (.int x3), none, some (.int (x1 - (I1 38 r1.toNatClampNeg))), some (.int (x2 - (I1 39 r1.toNatClampNeg))), some (.int r6), some (.int r7), some (.int (((x1 - (I1 38 r1.toNatClampNeg)) * (I7 66 r6.toNatClampNeg)) + ((x2 - (I1 39 r1.toNatClampNeg)) * (I7 67 r6.toNatClampNeg)))), some (.int (((I7 66 r6.toNatClampNeg) * (x2 - (I1 39 r1.toNatClampNeg))) - ((I7 67 r6.toNatClampNeg) * (x1 - (I1 38 r1.toNatClampNeg))))), none] [.int (((x1 - (I1 38 r1.toNatClampNeg)) * (x1 - (I1 38 r1.toNatClampNeg))) + ((x2 - (I1 39 r1.toNatClampNeg)) * (x2 - (I1 39 r1.toNatClampNeg))))] ((fl, n1, n2, false, q, ad), I7, J7)
          show ((((x1 - (I1 38 r1.toNatClampNeg)) * (I7 66 r6.toNatClampNeg)) + ((x2 - (I1 39 r1.toNatClampNeg)) * (I7 67 r6.toNatClampNeg))) ≤ (nI 0) → _) ∧ (¬ (((x1 - (I1 38 r1.toNatClampNeg)) * (I7 66 r6.toNatClampNeg)) + ((x2 - (I1 39 r1.toNatClampNeg)) * (I7 67 r6.toNatClampNeg))) ≤ (nI 0) → _)
          refine ⟨fun c3 => ?_, fun c3 => ?_⟩
          · show mm_u _ _ _ _ _ _ [some (.ref 6), none, none, none, none, none, none, none, none, some (.int r7), some (.int (((x1 - (I1 38 r1.toNatClampNeg)) * (I7 66 r6.toNatClampNeg)) + ((x2 - (I1 39 r1.toNatClampNeg)) * (I7 67 r6.toNatClampNeg)))), some (.int (((I7 66 r6.toNatClampNeg) * (x2 - (I1 39 r1.toNatClampNeg))) - ((I7 67 r6.toNatClampNeg) * (x1 - (I1 38 r1.toNatClampNeg))))), some (.int ((((x1 - (I1 38 r1.toNatClampNeg)) * (x1 - (I1 38 r1.toNatClampNeg))) + ((x2 - (I1 39 r1.toNatClampNeg)) * (x2 - (I1 39 r1.toNatClampNeg)))) * (nI 4)))] [] ((fl, n1, n2, false, q, ad), I7, J7)
            show (((nI 0) : Int32) = 0 ∨ ((nI 0) : Int32) = 1) ∧ _
            refine ⟨(by decide), ?_⟩
            exact ((h7.2.2.2.2.2 c2).1 c3)
          · show mm_b _ _ _ _ _ [some (.ref 6), none, none, none, none, none, none, none, none, some (.int r7), some (.int (((x1 - (I1 38 r1.toNatClampNeg)) * (I7 66 r6.toNatClampNeg)) + ((x2 - (I1 39 r1.toNatClampNeg)) * (I7 67 r6.toNatClampNeg)))), some (.int (((I7 66 r6.toNatClampNeg) * (x2 - (I1 39 r1.toNatClampNeg))) - ((I7 67 r6.toNatClampNeg) * (x1 - (I1 38 r1.toNatClampNeg))))), some (.int ((((x1 - (I1 38 r1.toNatClampNeg)) * (x1 - (I1 38 r1.toNatClampNeg))) + ((x2 - (I1 39 r1.toNatClampNeg)) * (x2 - (I1 39 r1.toNatClampNeg)))) * (nI 4)))] [] ((fl, n1, n2, false, q, ad), I7, J7)
            show mm_wc d 1000 [.int (((I7 66 r6.toNatClampNeg) * (x2 - (I1 39 r1.toNatClampNeg))) - ((I7 67 r6.toNatClampNeg) * (x1 - (I1 38 r1.toNatClampNeg))))] ((fl, 0, 0, false, q, ad), I7, J7) _
            refine mm_wcm ((h7.2.2.2.2.2 c2).2 c3) ?_
            rintro v τ ⟨r9, I9, J9, rfl, rfl, h9⟩
            refine mm_r1' ⟨rfl, ?_⟩
            show mm_b _ _ _ _ _ [some (.ref 6), none, none, none, none, none, none, none, none, some (.int r7), some (.int (((x1 - (I1 38 r1.toNatClampNeg)) * (I7 66 r6.toNatClampNeg)) + ((x2 - (I1 39 r1.toNatClampNeg)) * (I7 67 r6.toNatClampNeg)))), some (.int (((I7 66 r6.toNatClampNeg) * (x2 - (I1 39 r1.toNatClampNeg))) - ((I7 67 r6.toNatClampNeg) * (x1 - (I1 38 r1.toNatClampNeg))))), some (.int ((((x1 - (I1 38 r1.toNatClampNeg)) * (x1 - (I1 38 r1.toNatClampNeg))) + ((x2 - (I1 39 r1.toNatClampNeg)) * (x2 - (I1 39 r1.toNatClampNeg)))) * (nI 4)))] [.int r9, .int (nI 10)] ((fl, n1, n2, false, q, ad), I9, J9)
            show vp_in r7 4 ∧ _
            refine ⟨h9.1, ?_⟩
            show mm_b _ _ _ _ _ [some (.ref 6), none, none, none, none, none, none, none, none, some (.int r7), some (.int (((x1 - (I1 38 r1.toNatClampNeg)) * (I7 66 r6.toNatClampNeg)) + ((x2 - (I1 39 r1.toNatClampNeg)) * (I7 67 r6.toNatClampNeg)))), some (.int (((I7 66 r6.toNatClampNeg) * (x2 - (I1 39 r1.toNatClampNeg))) - ((I7 67 r6.toNatClampNeg) * (x1 - (I1 38 r1.toNatClampNeg))))), some (.int ((((x1 - (I1 38 r1.toNatClampNeg)) * (x1 - (I1 38 r1.toNatClampNeg))) + ((x2 - (I1 39 r1.toNatClampNeg)) * (x2 - (I1 39 r1.toNatClampNeg)))) * (nI 4)))] [.int (I9 44 r7.toNatClampNeg), .int ((nI 10) * r9)] ((fl, n1, n2, false, q, ad), I9, J9)
            show (((I9 44 r7.toNatClampNeg) * (((x1 - (I1 38 r1.toNatClampNeg)) * (I7 66 r6.toNatClampNeg)) + ((x2 - (I1 39 r1.toNatClampNeg)) * (I7 67 r6.toNatClampNeg)))) < ((nI 10) * r9) → _) ∧ (¬ ((I9 44 r7.toNatClampNeg) * (((x1 - (I1 38 r1.toNatClampNeg)) * (I7 66 r6.toNatClampNeg)) + ((x2 - (I1 39 r1.toNatClampNeg)) * (I7 67 r6.toNatClampNeg)))) < ((nI 10) * r9) → _)
            refine ⟨fun c4 => ?_, fun c4 => ?_⟩
            · show mm_u _ _ _ _ _ _ [some (.ref 6), none, none, none, none, none, none, none, none, some (.int r7), some (.int (((x1 - (I1 38 r1.toNatClampNeg)) * (I7 66 r6.toNatClampNeg)) + ((x2 - (I1 39 r1.toNatClampNeg)) * (I7 67 r6.toNatClampNeg)))), some (.int (((I7 66 r6.toNatClampNeg) * (x2 - (I1 39 r1.toNatClampNeg))) - ((I7 67 r6.toNatClampNeg) * (x1 - (I1 38 r1.toNatClampNeg))))), some (.int ((((x1 - (I1 38 r1.toNatClampNeg)) * (x1 - (I1 38 r1.toNatClampNeg))) + ((x2 - (I1 39 r1.toNatClampNeg)) * (x2 - (I1 39 r1.toNatClampNeg)))) * (nI 4)))] [] ((fl, n1, n2, false, q, ad), I9, J9)
              show (((nI 0) : Int32) = 0 ∨ ((nI 0) : Int32) = 1) ∧ _
              refine ⟨(by decide), ?_⟩
              exact (h9.2.1 c4)
            · show mm_b _ _ _ _ _ [some (.ref 6), none, none, none, none, none, none, none, none, some (.int r7), some (.int (((x1 - (I1 38 r1.toNatClampNeg)) * (I7 66 r6.toNatClampNeg)) + ((x2 - (I1 39 r1.toNatClampNeg)) * (I7 67 r6.toNatClampNeg)))), some (.int (((I7 66 r6.toNatClampNeg) * (x2 - (I1 39 r1.toNatClampNeg))) - ((I7 67 r6.toNatClampNeg) * (x1 - (I1 38 r1.toNatClampNeg))))), some (.int ((((x1 - (I1 38 r1.toNatClampNeg)) * (x1 - (I1 38 r1.toNatClampNeg))) + ((x2 - (I1 39 r1.toNatClampNeg)) * (x2 - (I1 39 r1.toNatClampNeg)))) * (nI 4)))] [] ((fl, n1, n2, false, q, ad), I9, J9)
              show vp_in r7 4 ∧ _
              refine ⟨(h9.2.2 c4).1, ?_⟩
              show mm_b _ _ _ _ _ [some (.ref 6), none, none, none, none, none, none, none, none, some (.int r7), some (.int (((x1 - (I1 38 r1.toNatClampNeg)) * (I7 66 r6.toNatClampNeg)) + ((x2 - (I1 39 r1.toNatClampNeg)) * (I7 67 r6.toNatClampNeg)))), some (.int (((I7 66 r6.toNatClampNeg) * (x2 - (I1 39 r1.toNatClampNeg))) - ((I7 67 r6.toNatClampNeg) * (x1 - (I1 38 r1.toNatClampNeg))))), some (.int ((((x1 - (I1 38 r1.toNatClampNeg)) * (x1 - (I1 38 r1.toNatClampNeg))) + ((x2 - (I1 39 r1.toNatClampNeg)) * (x2 - (I1 39 r1.toNatClampNeg)))) * (nI 4)))] [.int (I9 43 r7.toNatClampNeg), .int ((((x1 - (I1 38 r1.toNatClampNeg)) * (x1 - (I1 38 r1.toNatClampNeg))) + ((x2 - (I1 39 r1.toNatClampNeg)) * (x2 - (I1 39 r1.toNatClampNeg)))) * (nI 4))] ((fl, n1, n2, false, q, ad), I9, J9)
              show vp_in r7 4 ∧ _
              refine ⟨(h9.2.2 c4).2.1, ?_⟩
              show mm_b _ _ _ _ _ [some (.ref 6), none, none, none, none, none, none, none, none, some (.int r7), some (.int (((x1 - (I1 38 r1.toNatClampNeg)) * (I7 66 r6.toNatClampNeg)) + ((x2 - (I1 39 r1.toNatClampNeg)) * (I7 67 r6.toNatClampNeg)))), some (.int (((I7 66 r6.toNatClampNeg) * (x2 - (I1 39 r1.toNatClampNeg))) - ((I7 67 r6.toNatClampNeg) * (x1 - (I1 38 r1.toNatClampNeg))))), some (.int ((((x1 - (I1 38 r1.toNatClampNeg)) * (x1 - (I1 38 r1.toNatClampNeg))) + ((x2 - (I1 39 r1.toNatClampNeg)) * (x2 - (I1 39 r1.toNatClampNeg)))) * (nI 4)))] [.int (I9 43 r7.toNatClampNeg), .int (I9 43 r7.toNatClampNeg), .int ((((x1 - (I1 38 r1.toNatClampNeg)) * (x1 - (I1 38 r1.toNatClampNeg))) + ((x2 - (I1 39 r1.toNatClampNeg)) * (x2 - (I1 39 r1.toNatClampNeg)))) * (nI 4))] ((fl, n1, n2, false, q, ad), I9, J9)
              show (((I9 43 r7.toNatClampNeg) * (I9 43 r7.toNatClampNeg)) < ((((x1 - (I1 38 r1.toNatClampNeg)) * (x1 - (I1 38 r1.toNatClampNeg))) + ((x2 - (I1 39 r1.toNatClampNeg)) * (x2 - (I1 39 r1.toNatClampNeg)))) * (nI 4)) → _) ∧ (¬ ((I9 43 r7.toNatClampNeg) * (I9 43 r7.toNatClampNeg)) < ((((x1 - (I1 38 r1.toNatClampNeg)) * (x1 - (I1 38 r1.toNatClampNeg))) + ((x2 - (I1 39 r1.toNatClampNeg)) * (x2 - (I1 39 r1.toNatClampNeg)))) * (nI 4)) → _)
              refine ⟨fun c5 => ?_, fun c5 => ?_⟩
              · show mm_u _ _ _ _ _ _ [some (.ref 6), none, none, none, none, none, none, none, none, some (.int r7), some (.int (((x1 - (I1 38 r1.toNatClampNeg)) * (I7 66 r6.toNatClampNeg)) + ((x2 - (I1 39 r1.toNatClampNeg)) * (I7 67 r6.toNatClampNeg)))), some (.int (((I7 66 r6.toNatClampNeg) * (x2 - (I1 39 r1.toNatClampNeg))) - ((I7 67 r6.toNatClampNeg) * (x1 - (I1 38 r1.toNatClampNeg))))), some (.int ((((x1 - (I1 38 r1.toNatClampNeg)) * (x1 - (I1 38 r1.toNatClampNeg))) + ((x2 - (I1 39 r1.toNatClampNeg)) * (x2 - (I1 39 r1.toNatClampNeg)))) * (nI 4)))] [] ((fl, n1, n2, false, q, ad), I9, J9)
                show (((nI 0) : Int32) = 0 ∨ ((nI 0) : Int32) = 1) ∧ _
                refine ⟨(by decide), ?_⟩
                exact ((h9.2.2 c4).2.2.1 c5)
              · show mm_b _ _ _ _ _ [some (.ref 6), none, none, none, none, none, none, none, none, some (.int r7), some (.int (((x1 - (I1 38 r1.toNatClampNeg)) * (I7 66 r6.toNatClampNeg)) + ((x2 - (I1 39 r1.toNatClampNeg)) * (I7 67 r6.toNatClampNeg)))), some (.int (((I7 66 r6.toNatClampNeg) * (x2 - (I1 39 r1.toNatClampNeg))) - ((I7 67 r6.toNatClampNeg) * (x1 - (I1 38 r1.toNatClampNeg))))), some (.int ((((x1 - (I1 38 r1.toNatClampNeg)) * (x1 - (I1 38 r1.toNatClampNeg))) + ((x2 - (I1 39 r1.toNatClampNeg)) * (x2 - (I1 39 r1.toNatClampNeg)))) * (nI 4)))] [] ((fl, n1, n2, false, q, ad), I9, J9)
                show (((nI 1) : Int32) = 0 ∨ ((nI 1) : Int32) = 1) ∧ _
                refine ⟨(by decide), ?_⟩
                exact ((h9.2.2 c4).2.2.2 c5)
      · show mm_b _ _ _ _ _ [some (.ref 6), some (.int x0), some (.int x1), some (.int x2), some (.int x3), some (.int r1), some (.int (x1 - (I1 38 r1.toNatClampNeg))), some (.int (x2 - (I1 39 r1.toNatClampNeg))), none, none, none, none, none] [] ((fl, n1, n2, false, q, ad), I1, J1)
        show (((nI 1) : Int32) = 0 ∨ ((nI 1) : Int32) = 1) ∧ _
        refine ⟨(by decide), ?_⟩
        exact ((h1.2.2.2 c0).2 c1)
  · refine mm_call (c := 2) rfl rfl ?_
    refine mm_go [] 80 ?_
    show mm_wc d 11 [.ref 6, .int x0] ((fl, 0, 0, true, q, ad), I, J) _
    refine mm_wcm h ?_
    rintro v τ ⟨r1, I1, J1, rfl, rfl, h1⟩
    refine mm_r1' ⟨rfl, ?_⟩
    show mm_b _ _ _ _ _ [some (.ref 6), some (.int x0), some (.int x1), some (.int x2), some (.int x3), none, none, none, none, none, none, none, none] [.int r1] ((fl, n1, n2, true, q, ad), I1, J1)
    show vp_in r1 10 ∧ _
    refine ⟨h1.1, ?_⟩
    show mm_b _ _ _ _ _ [some (.ref 6), some (.int x0), some (.int x1), some (.int x2), some (.int x3), some (.int r1), none, none, none, none, none, none, none] [.int (I1 24 r1.toNatClampNeg), .int x1] ((fl, n1, n2, true, q, ad), I1, J1)
    show vp_in r1 10 ∧ _
    refine ⟨h1.2.1, ?_⟩
    show mm_b _ _ _ _ _ [some (.ref 6), some (.int x0), some (.int x1), some (.int x2), some (.int x3), some (.int r1), some (.int (x1 - (I1 24 r1.toNatClampNeg))), none, none, none, none, none, none] [.int (I1 25 r1.toNatClampNeg), .int x2] ((fl, n1, n2, true, q, ad), I1, J1)
    show (¬ (x1 - (I1 24 r1.toNatClampNeg)) = (nI 0) → _) ∧ ((x1 - (I1 24 r1.toNatClampNeg)) = (nI 0) → _)
    refine ⟨fun c0 => ?_, fun c0 => ?_⟩
    · show mm_u _ _ _ _ _ _ [some (.ref 6), some (.int x0), some (.int x1), some (.int x2), some (.int x3), some (.int r1), some (.int (x1 - (I1 24 r1.toNatClampNeg))), some (.int (x2 - (I1 25 r1.toNatClampNeg))), none, none, none, none, none] [] ((fl, n1, n2, true, q, ad), I1, J1)
      show mm_wc d 10 [.ref 6, .int x0] ((fl, 0, 0, true, q, ad), I1, J1) _
      refine mm_wcm (h1.2.2.1 c0) ?_
      rintro v τ ⟨r2, I2, J2, rfl, rfl, h2⟩
      refine mm_r1' ⟨rfl, ?_⟩
      show mm_b _ _ _ _ _ [some (.ref 6), some (.int x0), none, none, some (.int x3), none, some (.int (x1 - (I1 24 r1.toNatClampNeg))), some (.int (x2 - (I1 25 r1.toNatClampNeg))), none, none, none, none, none] [.int r2] ((fl, n1, n2, true, q, ad), I2, J2)
      show mm_wc d 12 [.ref 6, .int x0] ((fl, 0, 0, true, q, ad), I2, J2) _
      refine mm_wcm h2 ?_
      rintro v τ ⟨r3, I3, J3, rfl, rfl, h3⟩
      refine mm_r1' ⟨rfl, ?_⟩
      show mm_b _ _ _ _ _ [some (.ref 6), some (.int x0), none, none, some (.int x3), none, some (.int (x1 - (I1 24 r1.toNatClampNeg))), some (.int (x2 - (I1 25 r1.toNatClampNeg))), some (.int r2), none, none, none, none] [.int r3] ((fl, n1, n2, true, q, ad), I3, J3)
      show vp_in r2 16 ∧ _
      refine ⟨h3.1, ?_⟩
      show mm_b _ _ _ _ _ [some (.ref 6), some (.int x0), none, none, some (.int x3), none, some (.int (x1 - (I1 24 r1.toNatClampNeg))), some (.int (x2 - (I1 25 r1.toNatClampNeg))), some (.int r2), some (.int r3), none, none, none] [.int (I3 66 r2.toNatClampNeg), .int (x1 - (I1 24 r1.toNatClampNeg))] ((fl, n1, n2, true, q, ad), I3, J3)
      show vp_in r2 16 ∧ _
      refine ⟨h3.2.1, ?_⟩
      show mm_b _ _ _ _ _ [some (.ref 6), some (.int x0), none, none, some (.int x3), none, some (.int (x1 - (I1 24 r1.toNatClampNeg))), some (.int (x2 - (I1 25 r1.toNatClampNeg))), some (.int r2), some (.int r3), none, none, none] [.int (I3 67 r2.toNatClampNeg), .int (x2 - (I1 25 r1.toNatClampNeg)), .int ((x1 - (I1 24 r1.toNatClampNeg)) * (I3 66 r2.toNatClampNeg))] ((fl, n1, n2, true, q, ad), I3, J3)
      show vp_in r2 16 ∧ _
      refine ⟨h3.2.2.1, ?_⟩
      show mm_b _ _ _ _ _ [some (.ref 6), some (.int x0), none, none, some (.int x3), none, some (.int (x1 - (I1 24 r1.toNatClampNeg))), some (.int (x2 - (I1 25 r1.toNatClampNeg))), some (.int r2), some (.int r3), some (.int (((x1 - (I1 24 r1.toNatClampNeg)) * (I3 66 r2.toNatClampNeg)) + ((x2 - (I1 25 r1.toNatClampNeg)) * (I3 67 r2.toNatClampNeg)))), none, none] [.int (I3 66 r2.toNatClampNeg)] ((fl, n1, n2, true, q, ad), I3, J3)
      show vp_in r2 16 ∧ _
      refine ⟨h3.2.2.2.1, ?_⟩
      show mm_b _ _ _ _ _ [some (.ref 6), some (.int x0), none, none, some (.int x3), none, some (.int (x1 - (I1 24 r1.toNatClampNeg))), some (.int (x2 - (I1 25 r1.toNatClampNeg))), some (.int r2), some (.int r3), some (.int (((x1 - (I1 24 r1.toNatClampNeg)) * (I3 66 r2.toNatClampNeg)) + ((x2 - (I1 25 r1.toNatClampNeg)) * (I3 67 r2.toNatClampNeg)))), none, none] [.int (I3 67 r2.toNatClampNeg), .int ((I3 66 r2.toNatClampNeg) * (x2 - (I1 25 r1.toNatClampNeg)))] ((fl, n1, n2, true, q, ad), I3, J3)
      show (x3 = (nI 0) → _) ∧ (¬ x3 = (nI 0) → _)
      refine ⟨fun c1 => ?_, fun c1 => ?_⟩
      · show mm_u _ _ _ _ _ _ [some (.ref 6), some (.int x0), none, none, some (.int x3), none, some (.int (x1 - (I1 24 r1.toNatClampNeg))), some (.int (x2 - (I1 25 r1.toNatClampNeg))), some (.int r2), some (.int r3), some (.int (((x1 - (I1 24 r1.toNatClampNeg)) * (I3 66 r2.toNatClampNeg)) + ((x2 - (I1 25 r1.toNatClampNeg)) * (I3 67 r2.toNatClampNeg)))), some (.int (((I3 66 r2.toNatClampNeg) * (x2 - (I1 25 r1.toNatClampNeg))) - ((I3 67 r2.toNatClampNeg) * (x1 - (I1 24 r1.toNatClampNeg))))), none] [.int (((x1 - (I1 24 r1.toNatClampNeg)) * (x1 - (I1 24 r1.toNatClampNeg))) + ((x2 - (I1 25 r1.toNatClampNeg)) * (x2 - (I1 25 r1.toNatClampNeg))))] ((fl, n1, n2, true, q, ad), I3, J3)
        show ((((x1 - (I1 24 r1.toNatClampNeg)) * (I3 66 r2.toNatClampNeg)) + ((x2 - (I1 25 r1.toNatClampNeg)) * (I3 67 r2.toNatClampNeg))) ≤ (nI 0) → _) ∧ (¬ (((x1 - (I1 24 r1.toNatClampNeg)) * (I3 66 r2.toNatClampNeg)) + ((x2 - (I1 25 r1.toNatClampNeg)) * (I3 67 r2.toNatClampNeg))) ≤ (nI 0) → _)
        refine ⟨fun c2 => ?_, fun c2 => ?_⟩
        · show mm_u _ _ _ _ _ _ [some (.ref 6), none, none, none, none, none, none, none, none, some (.int r3), some (.int (((x1 - (I1 24 r1.toNatClampNeg)) * (I3 66 r2.toNatClampNeg)) + ((x2 - (I1 25 r1.toNatClampNeg)) * (I3 67 r2.toNatClampNeg)))), some (.int (((I3 66 r2.toNatClampNeg) * (x2 - (I1 25 r1.toNatClampNeg))) - ((I3 67 r2.toNatClampNeg) * (x1 - (I1 24 r1.toNatClampNeg))))), some (.int ((((x1 - (I1 24 r1.toNatClampNeg)) * (x1 - (I1 24 r1.toNatClampNeg))) + ((x2 - (I1 25 r1.toNatClampNeg)) * (x2 - (I1 25 r1.toNatClampNeg)))) * (nI 1)))] [] ((fl, n1, n2, true, q, ad), I3, J3)
          show (((nI 0) : Int32) = 0 ∨ ((nI 0) : Int32) = 1) ∧ _
          refine ⟨(by decide), ?_⟩
          exact ((h3.2.2.2.2.1 c1).1 c2)
        · show mm_b _ _ _ _ _ [some (.ref 6), none, none, none, none, none, none, none, none, some (.int r3), some (.int (((x1 - (I1 24 r1.toNatClampNeg)) * (I3 66 r2.toNatClampNeg)) + ((x2 - (I1 25 r1.toNatClampNeg)) * (I3 67 r2.toNatClampNeg)))), some (.int (((I3 66 r2.toNatClampNeg) * (x2 - (I1 25 r1.toNatClampNeg))) - ((I3 67 r2.toNatClampNeg) * (x1 - (I1 24 r1.toNatClampNeg))))), some (.int ((((x1 - (I1 24 r1.toNatClampNeg)) * (x1 - (I1 24 r1.toNatClampNeg))) + ((x2 - (I1 25 r1.toNatClampNeg)) * (x2 - (I1 25 r1.toNatClampNeg)))) * (nI 1)))] [] ((fl, n1, n2, true, q, ad), I3, J3)
          show mm_wc d 1000 [.int (((I3 66 r2.toNatClampNeg) * (x2 - (I1 25 r1.toNatClampNeg))) - ((I3 67 r2.toNatClampNeg) * (x1 - (I1 24 r1.toNatClampNeg))))] ((fl, 0, 0, true, q, ad), I3, J3) _
          refine mm_wcm ((h3.2.2.2.2.1 c1).2 c2) ?_
          rintro v τ ⟨r4, I4, J4, rfl, rfl, h4⟩
          refine mm_r1' ⟨rfl, ?_⟩
          show mm_b _ _ _ _ _ [some (.ref 6), none, none, none, none, none, none, none, none, some (.int r3), some (.int (((x1 - (I1 24 r1.toNatClampNeg)) * (I3 66 r2.toNatClampNeg)) + ((x2 - (I1 25 r1.toNatClampNeg)) * (I3 67 r2.toNatClampNeg)))), some (.int (((I3 66 r2.toNatClampNeg) * (x2 - (I1 25 r1.toNatClampNeg))) - ((I3 67 r2.toNatClampNeg) * (x1 - (I1 24 r1.toNatClampNeg))))), some (.int ((((x1 - (I1 24 r1.toNatClampNeg)) * (x1 - (I1 24 r1.toNatClampNeg))) + ((x2 - (I1 25 r1.toNatClampNeg)) * (x2 - (I1 25 r1.toNatClampNeg)))) * (nI 1)))] [.int r4, .int (nI 10)] ((fl, n1, n2, true, q, ad), I4, J4)
          show vp_in r3 4 ∧ _
          refine ⟨h4.1, ?_⟩
          show mm_b _ _ _ _ _ [some (.ref 6), none, none, none, none, none, none, none, none, some (.int r3), some (.int (((x1 - (I1 24 r1.toNatClampNeg)) * (I3 66 r2.toNatClampNeg)) + ((x2 - (I1 25 r1.toNatClampNeg)) * (I3 67 r2.toNatClampNeg)))), some (.int (((I3 66 r2.toNatClampNeg) * (x2 - (I1 25 r1.toNatClampNeg))) - ((I3 67 r2.toNatClampNeg) * (x1 - (I1 24 r1.toNatClampNeg))))), some (.int ((((x1 - (I1 24 r1.toNatClampNeg)) * (x1 - (I1 24 r1.toNatClampNeg))) + ((x2 - (I1 25 r1.toNatClampNeg)) * (x2 - (I1 25 r1.toNatClampNeg)))) * (nI 1)))] [.int (I4 30 r3.toNatClampNeg), .int ((nI 10) * r4)] ((fl, n1, n2, true, q, ad), I4, J4)
          show (((I4 30 r3.toNatClampNeg) * (((x1 - (I1 24 r1.toNatClampNeg)) * (I3 66 r2.toNatClampNeg)) + ((x2 - (I1 25 r1.toNatClampNeg)) * (I3 67 r2.toNatClampNeg)))) < ((nI 10) * r4) → _) ∧ (¬ ((I4 30 r3.toNatClampNeg) * (((x1 - (I1 24 r1.toNatClampNeg)) * (I3 66 r2.toNatClampNeg)) + ((x2 - (I1 25 r1.toNatClampNeg)) * (I3 67 r2.toNatClampNeg)))) < ((nI 10) * r4) → _)
          refine ⟨fun c3 => ?_, fun c3 => ?_⟩
          · show mm_u _ _ _ _ _ _ [some (.ref 6), none, none, none, none, none, none, none, none, some (.int r3), some (.int (((x1 - (I1 24 r1.toNatClampNeg)) * (I3 66 r2.toNatClampNeg)) + ((x2 - (I1 25 r1.toNatClampNeg)) * (I3 67 r2.toNatClampNeg)))), some (.int (((I3 66 r2.toNatClampNeg) * (x2 - (I1 25 r1.toNatClampNeg))) - ((I3 67 r2.toNatClampNeg) * (x1 - (I1 24 r1.toNatClampNeg))))), some (.int ((((x1 - (I1 24 r1.toNatClampNeg)) * (x1 - (I1 24 r1.toNatClampNeg))) + ((x2 - (I1 25 r1.toNatClampNeg)) * (x2 - (I1 25 r1.toNatClampNeg)))) * (nI 1)))] [] ((fl, n1, n2, true, q, ad), I4, J4)
            show (((nI 0) : Int32) = 0 ∨ ((nI 0) : Int32) = 1) ∧ _
            refine ⟨(by decide), ?_⟩
            exact (h4.2.1 c3)
          · show mm_b _ _ _ _ _ [some (.ref 6), none, none, none, none, none, none, none, none, some (.int r3), some (.int (((x1 - (I1 24 r1.toNatClampNeg)) * (I3 66 r2.toNatClampNeg)) + ((x2 - (I1 25 r1.toNatClampNeg)) * (I3 67 r2.toNatClampNeg)))), some (.int (((I3 66 r2.toNatClampNeg) * (x2 - (I1 25 r1.toNatClampNeg))) - ((I3 67 r2.toNatClampNeg) * (x1 - (I1 24 r1.toNatClampNeg))))), some (.int ((((x1 - (I1 24 r1.toNatClampNeg)) * (x1 - (I1 24 r1.toNatClampNeg))) + ((x2 - (I1 25 r1.toNatClampNeg)) * (x2 - (I1 25 r1.toNatClampNeg)))) * (nI 1)))] [] ((fl, n1, n2, true, q, ad), I4, J4)
            show vp_in r3 4 ∧ _
            refine ⟨(h4.2.2 c3).1, ?_⟩
            show mm_b _ _ _ _ _ [some (.ref 6), none, none, none, none, none, none, none, none, some (.int r3), some (.int (((x1 - (I1 24 r1.toNatClampNeg)) * (I3 66 r2.toNatClampNeg)) + ((x2 - (I1 25 r1.toNatClampNeg)) * (I3 67 r2.toNatClampNeg)))), some (.int (((I3 66 r2.toNatClampNeg) * (x2 - (I1 25 r1.toNatClampNeg))) - ((I3 67 r2.toNatClampNeg) * (x1 - (I1 24 r1.toNatClampNeg))))), some (.int ((((x1 - (I1 24 r1.toNatClampNeg)) * (x1 - (I1 24 r1.toNatClampNeg))) + ((x2 - (I1 25 r1.toNatClampNeg)) * (x2 - (I1 25 r1.toNatClampNeg)))) * (nI 1)))] [.int (I4 29 r3.toNatClampNeg), .int ((((x1 - (I1 24 r1.toNatClampNeg)) * (x1 - (I1 24 r1.toNatClampNeg))) + ((x2 - (I1 25 r1.toNatClampNeg)) * (x2 - (I1 25 r1.toNatClampNeg)))) * (nI 1))] ((fl, n1, n2, true, q, ad), I4, J4)
            show vp_in r3 4 ∧ _
            refine ⟨(h4.2.2 c3).2.1, ?_⟩
            show mm_b _ _ _ _ _ [some (.ref 6), none, none, none, none, none, none, none, none, some (.int r3), some (.int (((x1 - (I1 24 r1.toNatClampNeg)) * (I3 66 r2.toNatClampNeg)) + ((x2 - (I1 25 r1.toNatClampNeg)) * (I3 67 r2.toNatClampNeg)))), some (.int (((I3 66 r2.toNatClampNeg) * (x2 - (I1 25 r1.toNatClampNeg))) - ((I3 67 r2.toNatClampNeg) * (x1 - (I1 24 r1.toNatClampNeg))))), some (.int ((((x1 - (I1 24 r1.toNatClampNeg)) * (x1 - (I1 24 r1.toNatClampNeg))) + ((x2 - (I1 25 r1.toNatClampNeg)) * (x2 - (I1 25 r1.toNatClampNeg)))) * (nI 1)))] [.int (I4 29 r3.toNatClampNeg), .int (I4 29 r3.toNatClampNeg), .int ((((x1 - (I1 24 r1.toNatClampNeg)) * (x1 - (I1 24 r1.toNatClampNeg))) + ((x2 - (I1 25 r1.toNatClampNeg)) * (x2 - (I1 25 r1.toNatClampNeg)))) * (nI 1))] ((fl, n1, n2, true, q, ad), I4, J4)
            show (((I4 29 r3.toNatClampNeg) * (I4 29 r3.toNatClampNeg)) < ((((x1 - (I1 24 r1.toNatClampNeg)) * (x1 - (I1 24 r1.toNatClampNeg))) + ((x2 - (I1 25 r1.toNatClampNeg)) * (x2 - (I1 25 r1.toNatClampNeg)))) * (nI 1)) → _) ∧ (¬ ((I4 29 r3.toNatClampNeg) * (I4 29 r3.toNatClampNeg)) < ((((x1 - (I1 24 r1.toNatClampNeg)) * (x1 - (I1 24 r1.toNatClampNeg))) + ((x2 - (I1 25 r1.toNatClampNeg)) * (x2 - (I1 25 r1.toNatClampNeg)))) * (nI 1)) → _)
            refine ⟨fun c4 => ?_, fun c4 => ?_⟩
            · show mm_u _ _ _ _ _ _ [some (.ref 6), none, none, none, none, none, none, none, none, some (.int r3), some (.int (((x1 - (I1 24 r1.toNatClampNeg)) * (I3 66 r2.toNatClampNeg)) + ((x2 - (I1 25 r1.toNatClampNeg)) * (I3 67 r2.toNatClampNeg)))), some (.int (((I3 66 r2.toNatClampNeg) * (x2 - (I1 25 r1.toNatClampNeg))) - ((I3 67 r2.toNatClampNeg) * (x1 - (I1 24 r1.toNatClampNeg))))), some (.int ((((x1 - (I1 24 r1.toNatClampNeg)) * (x1 - (I1 24 r1.toNatClampNeg))) + ((x2 - (I1 25 r1.toNatClampNeg)) * (x2 - (I1 25 r1.toNatClampNeg)))) * (nI 1)))] [] ((fl, n1, n2, true, q, ad), I4, J4)
              show (((nI 0) : Int32) = 0 ∨ ((nI 0) : Int32) = 1) ∧ _
              refine ⟨(by decide), ?_⟩
              exact ((h4.2.2 c3).2.2.1 c4)
            · show mm_b _ _ _ _ _ [some (.ref 6), none, none, none, none, none, none, none, none, some (.int r3), some (.int (((x1 - (I1 24 r1.toNatClampNeg)) * (I3 66 r2.toNatClampNeg)) + ((x2 - (I1 25 r1.toNatClampNeg)) * (I3 67 r2.toNatClampNeg)))), some (.int (((I3 66 r2.toNatClampNeg) * (x2 - (I1 25 r1.toNatClampNeg))) - ((I3 67 r2.toNatClampNeg) * (x1 - (I1 24 r1.toNatClampNeg))))), some (.int ((((x1 - (I1 24 r1.toNatClampNeg)) * (x1 - (I1 24 r1.toNatClampNeg))) + ((x2 - (I1 25 r1.toNatClampNeg)) * (x2 - (I1 25 r1.toNatClampNeg)))) * (nI 1)))] [] ((fl, n1, n2, true, q, ad), I4, J4)
              show (((nI 1) : Int32) = 0 ∨ ((nI 1) : Int32) = 1) ∧ _
              refine ⟨(by decide), ?_⟩
              exact ((h4.2.2 c3).2.2.2 c4)
      · show mm_b _ _ _ _ _ [some (.ref 6), some (.int x0), none, none, some (.int x3), none, some (.int (x1 - (I1 24 r1.toNatClampNeg))), some (.int (x2 - (I1 25 r1.toNatClampNeg))), some (.int r2), some (.int r3), some (.int (((x1 - (I1 24 r1.toNatClampNeg)) * (I3 66 r2.toNatClampNeg)) + ((x2 - (I1 25 r1.toNatClampNeg)) * (I3 67 r2.toNatClampNeg)))), some (.int (((I3 66 r2.toNatClampNeg) * (x2 - (I1 25 r1.toNatClampNeg))) - ((I3 67 r2.toNatClampNeg) * (x1 - (I1 24 r1.toNatClampNeg))))), none] [.int (((x1 - (I1 24 r1.toNatClampNeg)) * (x1 - (I1 24 r1.toNatClampNeg))) + ((x2 - (I1 25 r1.toNatClampNeg)) * (x2 - (I1 25 r1.toNatClampNeg))))] ((fl, n1, n2, true, q, ad), I3, J3)
        show ((((x1 - (I1 24 r1.toNatClampNeg)) * (I3 66 r2.toNatClampNeg)) + ((x2 - (I1 25 r1.toNatClampNeg)) * (I3 67 r2.toNatClampNeg))) ≤ (nI 0) → _) ∧ (¬ (((x1 - (I1 24 r1.toNatClampNeg)) * (I3 66 r2.toNatClampNeg)) + ((x2 - (I1 25 r1.toNatClampNeg)) * (I3 67 r2.toNatClampNeg))) ≤ (nI 0) → _)
        refine ⟨fun c2 => ?_, fun c2 => ?_⟩
        · show mm_u _ _ _ _ _ _ [some (.ref 6), none, none, none, none, none, none, none, none, some (.int r3), some (.int (((x1 - (I1 24 r1.toNatClampNeg)) * (I3 66 r2.toNatClampNeg)) + ((x2 - (I1 25 r1.toNatClampNeg)) * (I3 67 r2.toNatClampNeg)))), some (.int (((I3 66 r2.toNatClampNeg) * (x2 - (I1 25 r1.toNatClampNeg))) - ((I3 67 r2.toNatClampNeg) * (x1 - (I1 24 r1.toNatClampNeg))))), some (.int ((((x1 - (I1 24 r1.toNatClampNeg)) * (x1 - (I1 24 r1.toNatClampNeg))) + ((x2 - (I1 25 r1.toNatClampNeg)) * (x2 - (I1 25 r1.toNatClampNeg)))) * (nI 4)))] [] ((fl, n1, n2, true, q, ad), I3, J3)
          show (((nI 0) : Int32) = 0 ∨ ((nI 0) : Int32) = 1) ∧ _
          refine ⟨(by decide), ?_⟩
          exact ((h3.2.2.2.2.2 c1).1 c2)
        · show mm_b _ _ _ _ _ [some (.ref 6), none, none, none, none, none, none, none, none, some (.int r3), some (.int (((x1 - (I1 24 r1.toNatClampNeg)) * (I3 66 r2.toNatClampNeg)) + ((x2 - (I1 25 r1.toNatClampNeg)) * (I3 67 r2.toNatClampNeg)))), some (.int (((I3 66 r2.toNatClampNeg) * (x2 - (I1 25 r1.toNatClampNeg))) - ((I3 67 r2.toNatClampNeg) * (x1 - (I1 24 r1.toNatClampNeg))))), some (.int ((((x1 - (I1 24 r1.toNatClampNeg)) * (x1 - (I1 24 r1.toNatClampNeg))) + ((x2 - (I1 25 r1.toNatClampNeg)) * (x2 - (I1 25 r1.toNatClampNeg)))) * (nI 4)))] [] ((fl, n1, n2, true, q, ad), I3, J3)
          show mm_wc d 1000 [.int (((I3 66 r2.toNatClampNeg) * (x2 - (I1 25 r1.toNatClampNeg))) - ((I3 67 r2.toNatClampNeg) * (x1 - (I1 24 r1.toNatClampNeg))))] ((fl, 0, 0, true, q, ad), I3, J3) _
          refine mm_wcm ((h3.2.2.2.2.2 c1).2 c2) ?_
          rintro v τ ⟨r5, I5, J5, rfl, rfl, h5⟩
          refine mm_r1' ⟨rfl, ?_⟩
          show mm_b _ _ _ _ _ [some (.ref 6), none, none, none, none, none, none, none, none, some (.int r3), some (.int (((x1 - (I1 24 r1.toNatClampNeg)) * (I3 66 r2.toNatClampNeg)) + ((x2 - (I1 25 r1.toNatClampNeg)) * (I3 67 r2.toNatClampNeg)))), some (.int (((I3 66 r2.toNatClampNeg) * (x2 - (I1 25 r1.toNatClampNeg))) - ((I3 67 r2.toNatClampNeg) * (x1 - (I1 24 r1.toNatClampNeg))))), some (.int ((((x1 - (I1 24 r1.toNatClampNeg)) * (x1 - (I1 24 r1.toNatClampNeg))) + ((x2 - (I1 25 r1.toNatClampNeg)) * (x2 - (I1 25 r1.toNatClampNeg)))) * (nI 4)))] [.int r5, .int (nI 10)] ((fl, n1, n2, true, q, ad), I5, J5)
          show vp_in r3 4 ∧ _
          refine ⟨h5.1, ?_⟩
          show mm_b _ _ _ _ _ [some (.ref 6), none, none, none, none, none, none, none, none, some (.int r3), some (.int (((x1 - (I1 24 r1.toNatClampNeg)) * (I3 66 r2.toNatClampNeg)) + ((x2 - (I1 25 r1.toNatClampNeg)) * (I3 67 r2.toNatClampNeg)))), some (.int (((I3 66 r2.toNatClampNeg) * (x2 - (I1 25 r1.toNatClampNeg))) - ((I3 67 r2.toNatClampNeg) * (x1 - (I1 24 r1.toNatClampNeg))))), some (.int ((((x1 - (I1 24 r1.toNatClampNeg)) * (x1 - (I1 24 r1.toNatClampNeg))) + ((x2 - (I1 25 r1.toNatClampNeg)) * (x2 - (I1 25 r1.toNatClampNeg)))) * (nI 4)))] [.int (I5 30 r3.toNatClampNeg), .int ((nI 10) * r5)] ((fl, n1, n2, true, q, ad), I5, J5)
          show (((I5 30 r3.toNatClampNeg) * (((x1 - (I1 24 r1.toNatClampNeg)) * (I3 66 r2.toNatClampNeg)) + ((x2 - (I1 25 r1.toNatClampNeg)) * (I3 67 r2.toNatClampNeg)))) < ((nI 10) * r5) → _) ∧ (¬ ((I5 30 r3.toNatClampNeg) * (((x1 - (I1 24 r1.toNatClampNeg)) * (I3 66 r2.toNatClampNeg)) + ((x2 - (I1 25 r1.toNatClampNeg)) * (I3 67 r2.toNatClampNeg)))) < ((nI 10) * r5) → _)
          refine ⟨fun c3 => ?_, fun c3 => ?_⟩
          · show mm_u _ _ _ _ _ _ [some (.ref 6), none, none, none, none, none, none, none, none, some (.int r3), some (.int (((x1 - (I1 24 r1.toNatClampNeg)) * (I3 66 r2.toNatClampNeg)) + ((x2 - (I1 25 r1.toNatClampNeg)) * (I3 67 r2.toNatClampNeg)))), some (.int (((I3 66 r2.toNatClampNeg) * (x2 - (I1 25 r1.toNatClampNeg))) - ((I3 67 r2.toNatClampNeg) * (x1 - (I1 24 r1.toNatClampNeg))))), some (.int ((((x1 - (I1 24 r1.toNatClampNeg)) * (x1 - (I1 24 r1.toNatClampNeg))) + ((x2 - (I1 25 r1.toNatClampNeg)) * (x2 - (I1 25 r1.toNatClampNeg)))) * (nI 4)))] [] ((fl, n1, n2, true, q, ad), I5, J5)
            show (((nI 0) : Int32) = 0 ∨ ((nI 0) : Int32) = 1) ∧ _
            refine ⟨(by decide), ?_⟩
            exact (h5.2.1 c3)
          · show mm_b _ _ _ _ _ [some (.ref 6), none, none, none, none, none, none, none, none, some (.int r3), some (.int (((x1 - (I1 24 r1.toNatClampNeg)) * (I3 66 r2.toNatClampNeg)) + ((x2 - (I1 25 r1.toNatClampNeg)) * (I3 67 r2.toNatClampNeg)))), some (.int (((I3 66 r2.toNatClampNeg) * (x2 - (I1 25 r1.toNatClampNeg))) - ((I3 67 r2.toNatClampNeg) * (x1 - (I1 24 r1.toNatClampNeg))))), some (.int ((((x1 - (I1 24 r1.toNatClampNeg)) * (x1 - (I1 24 r1.toNatClampNeg))) + ((x2 - (I1 25 r1.toNatClampNeg)) * (x2 - (I1 25 r1.toNatClampNeg)))) * (nI 4)))] [] ((fl, n1, n2, true, q, ad), I5, J5)
            show vp_in r3 4 ∧ _
            refine ⟨(h5.2.2 c3).1, ?_⟩
            show mm_b _ _ _ _ _ [some (.ref 6), none, none, none, none, none, none, none, none, some (.int r3), some (.int (((x1 - (I1 24 r1.toNatClampNeg)) * (I3 66 r2.toNatClampNeg)) + ((x2 - (I1 25 r1.toNatClampNeg)) * (I3 67 r2.toNatClampNeg)))), some (.int (((I3 66 r2.toNatClampNeg) * (x2 - (I1 25 r1.toNatClampNeg))) - ((I3 67 r2.toNatClampNeg) * (x1 - (I1 24 r1.toNatClampNeg))))), some (.int ((((x1 - (I1 24 r1.toNatClampNeg)) * (x1 - (I1 24 r1.toNatClampNeg))) + ((x2 - (I1 25 r1.toNatClampNeg)) * (x2 - (I1 25 r1.toNatClampNeg)))) * (nI 4)))] [.int (I5 29 r3.toNatClampNeg), .int ((((x1 - (I1 24 r1.toNatClampNeg)) * (x1 - (I1 24 r1.toNatClampNeg))) + ((x2 - (I1 25 r1.toNatClampNeg)) * (x2 - (I1 25 r1.toNatClampNeg)))) * (nI 4))] ((fl, n1, n2, true, q, ad), I5, J5)
            show vp_in r3 4 ∧ _
            refine ⟨(h5.2.2 c3).2.1, ?_⟩
            show mm_b _ _ _ _ _ [some (.ref 6), none, none, none, none, none, none, none, none, some (.int r3), some (.int (((x1 - (I1 24 r1.toNatClampNeg)) * (I3 66 r2.toNatClampNeg)) + ((x2 - (I1 25 r1.toNatClampNeg)) * (I3 67 r2.toNatClampNeg)))), some (.int (((I3 66 r2.toNatClampNeg) * (x2 - (I1 25 r1.toNatClampNeg))) - ((I3 67 r2.toNatClampNeg) * (x1 - (I1 24 r1.toNatClampNeg))))), some (.int ((((x1 - (I1 24 r1.toNatClampNeg)) * (x1 - (I1 24 r1.toNatClampNeg))) + ((x2 - (I1 25 r1.toNatClampNeg)) * (x2 - (I1 25 r1.toNatClampNeg)))) * (nI 4)))] [.int (I5 29 r3.toNatClampNeg), .int (I5 29 r3.toNatClampNeg), .int ((((x1 - (I1 24 r1.toNatClampNeg)) * (x1 - (I1 24 r1.toNatClampNeg))) + ((x2 - (I1 25 r1.toNatClampNeg)) * (x2 - (I1 25 r1.toNatClampNeg)))) * (nI 4))] ((fl, n1, n2, true, q, ad), I5, J5)
            show (((I5 29 r3.toNatClampNeg) * (I5 29 r3.toNatClampNeg)) < ((((x1 - (I1 24 r1.toNatClampNeg)) * (x1 - (I1 24 r1.toNatClampNeg))) + ((x2 - (I1 25 r1.toNatClampNeg)) * (x2 - (I1 25 r1.toNatClampNeg)))) * (nI 4)) → _) ∧ (¬ ((I5 29 r3.toNatClampNeg) * (I5 29 r3.toNatClampNeg)) < ((((x1 - (I1 24 r1.toNatClampNeg)) * (x1 - (I1 24 r1.toNatClampNeg))) + ((x2 - (I1 25 r1.toNatClampNeg)) * (x2 - (I1 25 r1.toNatClampNeg)))) * (nI 4)) → _)
            refine ⟨fun c4 => ?_, fun c4 => ?_⟩
            · show mm_u _ _ _ _ _ _ [some (.ref 6), none, none, none, none, none, none, none, none, some (.int r3), some (.int (((x1 - (I1 24 r1.toNatClampNeg)) * (I3 66 r2.toNatClampNeg)) + ((x2 - (I1 25 r1.toNatClampNeg)) * (I3 67 r2.toNatClampNeg)))), some (.int (((I3 66 r2.toNatClampNeg) * (x2 - (I1 25 r1.toNatClampNeg))) - ((I3 67 r2.toNatClampNeg) * (x1 - (I1 24 r1.toNatClampNeg))))), some (.int ((((x1 - (I1 24 r1.toNatClampNeg)) * (x1 - (I1 24 r1.toNatClampNeg))) + ((x2 - (I1 25 r1.toNatClampNeg)) * (x2 - (I1 25 r1.toNatClampNeg)))) * (nI 4)))] [] ((fl, n1, n2, true, q, ad), I5, J5)
              show (((nI 0) : Int32) = 0 ∨ ((nI 0) : Int32) = 1) ∧ _
              refine ⟨(by decide), ?_⟩
              exact ((h5.2.2 c3).2.2.1 c4)
            · show mm_b _ _ _ _ _ [some (.ref 6), none, none, none, none, none, none, none, none, some (.int r3), some (.int (((x1 - (I1 24 r1.toNatClampNeg)) * (I3 66 r2.toNatClampNeg)) + ((x2 - (I1 25 r1.toNatClampNeg)) * (I3 67 r2.toNatClampNeg)))), some (.int (((I3 66 r2.toNatClampNeg) * (x2 - (I1 25 r1.toNatClampNeg))) - ((I3 67 r2.toNatClampNeg) * (x1 - (I1 24 r1.toNatClampNeg))))), some (.int ((((x1 - (I1 24 r1.toNatClampNeg)) * (x1 - (I1 24 r1.toNatClampNeg))) + ((x2 - (I1 25 r1.toNatClampNeg)) * (x2 - (I1 25 r1.toNatClampNeg)))) * (nI 4)))] [] ((fl, n1, n2, true, q, ad), I5, J5)
              show (((nI 1) : Int32) = 0 ∨ ((nI 1) : Int32) = 1) ∧ _
              refine ⟨(by decide), ?_⟩
              exact ((h5.2.2 c3).2.2.2 c4)
    · show mm_b _ _ _ _ _ [some (.ref 6), some (.int x0), some (.int x1), some (.int x2), some (.int x3), some (.int r1), some (.int (x1 - (I1 24 r1.toNatClampNeg))), some (.int (x2 - (I1 25 r1.toNatClampNeg))), none, none, none, none, none] [] ((fl, n1, n2, true, q, ad), I1, J1)
      show (¬ (x2 - (I1 25 r1.toNatClampNeg)) = (nI 0) → _) ∧ ((x2 - (I1 25 r1.toNatClampNeg)) = (nI 0) → _)
      refine ⟨fun c1 => ?_, fun c1 => ?_⟩
      · show mm_u _ _ _ _ _ _ [some (.ref 6), some (.int x0), some (.int x1), some (.int x2), some (.int x3), some (.int r1), some (.int (x1 - (I1 24 r1.toNatClampNeg))), some (.int (x2 - (I1 25 r1.toNatClampNeg))), none, none, none, none, none] [] ((fl, n1, n2, true, q, ad), I1, J1)
        show mm_wc d 10 [.ref 6, .int x0] ((fl, 0, 0, true, q, ad), I1, J1) _
        refine mm_wcm ((h1.2.2.2 c0).1 c1) ?_
        rintro v τ ⟨r6, I6, J6, rfl, rfl, h6⟩
        refine mm_r1' ⟨rfl, ?_⟩
        show mm_b _ _ _ _ _ [some (.ref 6), some (.int x0), none, none, some (.int x3), none, some (.int (x1 - (I1 24 r1.toNatClampNeg))), some (.int (x2 - (I1 25 r1.toNatClampNeg))), none, none, none, none, none] [.int r6] ((fl, n1, n2, true, q, ad), I6, J6)
        show mm_wc d 12 [.ref 6, .int x0] ((fl, 0, 0, true, q, ad), I6, J6) _
        refine mm_wcm h6 ?_
        rintro v τ ⟨r7, I7, J7, rfl, rfl, h7⟩
        refine mm_r1' ⟨rfl, ?_⟩
        show mm_b _ _ _ _ _ [some (.ref 6), some (.int x0), none, none, some (.int x3), none, some (.int (x1 - (I1 24 r1.toNatClampNeg))), some (.int (x2 - (I1 25 r1.toNatClampNeg))), some (.int r6), none, none, none, none] [.int r7] ((fl, n1, n2, true, q, ad), I7, J7)
        show vp_in r6 16 ∧ _
        refine ⟨h7.1, ?_⟩
        show mm_b _ _ _ _ _ [some (.ref 6), some (.int x0), none, none, some (.int x3), none, some (.int (x1 - (I1 24 r1.toNatClampNeg))), some (.int (x2 - (I1 25 r1.toNatClampNeg))), some (.int r6), some (.int r7), none, none, none] [.int (I7 66 r6.toNatClampNeg), .int (x1 - (I1 24 r1.toNatClampNeg))] ((fl, n1, n2, true, q, ad), I7, J7)
        show vp_in r6 16 ∧ _
        refine ⟨h7.2.1, ?_⟩
        show mm_b _ _ _ _ _ [some (.ref 6), some (.int x0), none, none, some (.int x3), none, some (.int (x1 - (I1 24 r1.toNatClampNeg))), some (.int (x2 - (I1 25 r1.toNatClampNeg))), some (.int r6), some (.int r7), none, none, none] [.int (I7 67 r6.toNatClampNeg), .int (x2 - (I1 25 r1.toNatClampNeg)), .int ((x1 - (I1 24 r1.toNatClampNeg)) * (I7 66 r6.toNatClampNeg))] ((fl, n1, n2, true, q, ad), I7, J7)
        show vp_in r6 16 ∧ _
        refine ⟨h7.2.2.1, ?_⟩
        show mm_b _ _ _ _ _ [some (.ref 6), some (.int x0), none, none, some (.int x3), none, some (.int (x1 - (I1 24 r1.toNatClampNeg))), some (.int (x2 - (I1 25 r1.toNatClampNeg))), some (.int r6), some (.int r7), some (.int (((x1 - (I1 24 r1.toNatClampNeg)) * (I7 66 r6.toNatClampNeg)) + ((x2 - (I1 25 r1.toNatClampNeg)) * (I7 67 r6.toNatClampNeg)))), none, none] [.int (I7 66 r6.toNatClampNeg)] ((fl, n1, n2, true, q, ad), I7, J7)
        show vp_in r6 16 ∧ _
        refine ⟨h7.2.2.2.1, ?_⟩
        show mm_b _ _ _ _ _ [some (.ref 6), some (.int x0), none, none, some (.int x3), none, some (.int (x1 - (I1 24 r1.toNatClampNeg))), some (.int (x2 - (I1 25 r1.toNatClampNeg))), some (.int r6), some (.int r7), some (.int (((x1 - (I1 24 r1.toNatClampNeg)) * (I7 66 r6.toNatClampNeg)) + ((x2 - (I1 25 r1.toNatClampNeg)) * (I7 67 r6.toNatClampNeg)))), none, none] [.int (I7 67 r6.toNatClampNeg), .int ((I7 66 r6.toNatClampNeg) * (x2 - (I1 25 r1.toNatClampNeg)))] ((fl, n1, n2, true, q, ad), I7, J7)
        show (x3 = (nI 0) → _) ∧ (¬ x3 = (nI 0) → _)
        refine ⟨fun c2 => ?_, fun c2 => ?_⟩
        · show mm_u _ _ _ _ _ _ [some (.ref 6), some (.int x0), none, none, some (.int x3), none, some (.int (x1 - (I1 24 r1.toNatClampNeg))), some (.int (x2 - (I1 25 r1.toNatClampNeg))), some (.int r6), some (.int r7), some (.int (((x1 - (I1 24 r1.toNatClampNeg)) * (I7 66 r6.toNatClampNeg)) + ((x2 - (I1 25 r1.toNatClampNeg)) * (I7 67 r6.toNatClampNeg)))), some (.int (((I7 66 r6.toNatClampNeg) * (x2 - (I1 25 r1.toNatClampNeg))) - ((I7 67 r6.toNatClampNeg) * (x1 - (I1 24 r1.toNatClampNeg))))), none] [.int (((x1 - (I1 24 r1.toNatClampNeg)) * (x1 - (I1 24 r1.toNatClampNeg))) + ((x2 - (I1 25 r1.toNatClampNeg)) * (x2 - (I1 25 r1.toNatClampNeg))))] ((fl, n1, n2, true, q, ad), I7, J7)
          show ((((x1 - (I1 24 r1.toNatClampNeg)) * (I7 66 r6.toNatClampNeg)) + ((x2 - (I1 25 r1.toNatClampNeg)) * (I7 67 r6.toNatClampNeg))) ≤ (nI 0) → _) ∧ (¬ (((x1 - (I1 24 r1.toNatClampNeg)) * (I7 66 r6.toNatClampNeg)) + ((x2 - (I1 25 r1.toNatClampNeg)) * (I7 67 r6.toNatClampNeg))) ≤ (nI 0) → _)
          refine ⟨fun c3 => ?_, fun c3 => ?_⟩
          · show mm_u _ _ _ _ _ _ [some (.ref 6), none, none, none, none, none, none, none, none, some (.int r7), some (.int (((x1 - (I1 24 r1.toNatClampNeg)) * (I7 66 r6.toNatClampNeg)) + ((x2 - (I1 25 r1.toNatClampNeg)) * (I7 67 r6.toNatClampNeg)))), some (.int (((I7 66 r6.toNatClampNeg) * (x2 - (I1 25 r1.toNatClampNeg))) - ((I7 67 r6.toNatClampNeg) * (x1 - (I1 24 r1.toNatClampNeg))))), some (.int ((((x1 - (I1 24 r1.toNatClampNeg)) * (x1 - (I1 24 r1.toNatClampNeg))) + ((x2 - (I1 25 r1.toNatClampNeg)) * (x2 - (I1 25 r1.toNatClampNeg)))) * (nI 1)))] [] ((fl, n1, n2, true, q, ad), I7, J7)
            show (((nI 0) : Int32) = 0 ∨ ((nI 0) : Int32) = 1) ∧ _
            refine ⟨(by decide), ?_⟩
            exact ((h7.2.2.2.2.1 c2).1 c3)
          · show mm_b _ _ _ _ _ [some (.ref 6), none, none, none, none, none, none, none, none, some (.int r7), some (.int (((x1 - (I1 24 r1.toNatClampNeg)) * (I7 66 r6.toNatClampNeg)) + ((x2 - (I1 25 r1.toNatClampNeg)) * (I7 67 r6.toNatClampNeg)))), some (.int (((I7 66 r6.toNatClampNeg) * (x2 - (I1 25 r1.toNatClampNeg))) - ((I7 67 r6.toNatClampNeg) * (x1 - (I1 24 r1.toNatClampNeg))))), some (.int ((((x1 - (I1 24 r1.toNatClampNeg)) * (x1 - (I1 24 r1.toNatClampNeg))) + ((x2 - (I1 25 r1.toNatClampNeg)) * (x2 - (I1 25 r1.toNatClampNeg)))) * (nI 1)))] [] ((fl, n1, n2, true, q, ad), I7, J7)
            show mm_wc d 1000 [.int (((I7 66 r6.toNatClampNeg) * (x2 - (I1 25 r1.toNatClampNeg))) - ((I7 67 r6.toNatClampNeg) * (x1 - (I1 24 r1.toNatClampNeg))))] ((fl, 0, 0, true, q, ad), I7, J7) _
            refine mm_wcm ((h7.2.2.2.2.1 c2).2 c3) ?_
            rintro v τ ⟨r8, I8, J8, rfl, rfl, h8⟩
            refine mm_r1' ⟨rfl, ?_⟩
            show mm_b _ _ _ _ _ [some (.ref 6), none, none, none, none, none, none, none, none, some (.int r7), some (.int (((x1 - (I1 24 r1.toNatClampNeg)) * (I7 66 r6.toNatClampNeg)) + ((x2 - (I1 25 r1.toNatClampNeg)) * (I7 67 r6.toNatClampNeg)))), some (.int (((I7 66 r6.toNatClampNeg) * (x2 - (I1 25 r1.toNatClampNeg))) - ((I7 67 r6.toNatClampNeg) * (x1 - (I1 24 r1.toNatClampNeg))))), some (.int ((((x1 - (I1 24 r1.toNatClampNeg)) * (x1 - (I1 24 r1.toNatClampNeg))) + ((x2 - (I1 25 r1.toNatClampNeg)) * (x2 - (I1 25 r1.toNatClampNeg)))) * (nI 1)))] [.int r8, .int (nI 10)] ((fl, n1, n2, true, q, ad), I8, J8)
            show vp_in r7 4 ∧ _
            refine ⟨h8.1, ?_⟩
            show mm_b _ _ _ _ _ [some (.ref 6), none, none, none, none, none, none, none, none, some (.int r7), some (.int (((x1 - (I1 24 r1.toNatClampNeg)) * (I7 66 r6.toNatClampNeg)) + ((x2 - (I1 25 r1.toNatClampNeg)) * (I7 67 r6.toNatClampNeg)))), some (.int (((I7 66 r6.toNatClampNeg) * (x2 - (I1 25 r1.toNatClampNeg))) - ((I7 67 r6.toNatClampNeg) * (x1 - (I1 24 r1.toNatClampNeg))))), some (.int ((((x1 - (I1 24 r1.toNatClampNeg)) * (x1 - (I1 24 r1.toNatClampNeg))) + ((x2 - (I1 25 r1.toNatClampNeg)) * (x2 - (I1 25 r1.toNatClampNeg)))) * (nI 1)))] [.int (I8 30 r7.toNatClampNeg), .int ((nI 10) * r8)] ((fl, n1, n2, true, q, ad), I8, J8)
            show (((I8 30 r7.toNatClampNeg) * (((x1 - (I1 24 r1.toNatClampNeg)) * (I7 66 r6.toNatClampNeg)) + ((x2 - (I1 25 r1.toNatClampNeg)) * (I7 67 r6.toNatClampNeg)))) < ((nI 10) * r8) → _) ∧ (¬ ((I8 30 r7.toNatClampNeg) * (((x1 - (I1 24 r1.toNatClampNeg)) * (I7 66 r6.toNatClampNeg)) + ((x2 - (I1 25 r1.toNatClampNeg)) * (I7 67 r6.toNatClampNeg)))) < ((nI 10) * r8) → _)
            refine ⟨fun c4 => ?_, fun c4 => ?_⟩
            · show mm_u _ _ _ _ _ _ [some (.ref 6), none, none, none, none, none, none, none, none, some (.int r7), some (.int (((x1 - (I1 24 r1.toNatClampNeg)) * (I7 66 r6.toNatClampNeg)) + ((x2 - (I1 25 r1.toNatClampNeg)) * (I7 67 r6.toNatClampNeg)))), some (.int (((I7 66 r6.toNatClampNeg) * (x2 - (I1 25 r1.toNatClampNeg))) - ((I7 67 r6.toNatClampNeg) * (x1 - (I1 24 r1.toNatClampNeg))))), some (.int ((((x1 - (I1 24 r1.toNatClampNeg)) * (x1 - (I1 24 r1.toNatClampNeg))) + ((x2 - (I1 25 r1.toNatClampNeg)) * (x2 - (I1 25 r1.toNatClampNeg)))) * (nI 1)))] [] ((fl, n1, n2, true, q, ad), I8, J8)
              show (((nI 0) : Int32) = 0 ∨ ((nI 0) : Int32) = 1) ∧ _
              refine ⟨(by decide), ?_⟩
              exact (h8.2.1 c4)
            · show mm_b _ _ _ _ _ [some (.ref 6), none, none, none, none, none, none, none, none, some (.int r7), some (.int (((x1 - (I1 24 r1.toNatClampNeg)) * (I7 66 r6.toNatClampNeg)) + ((x2 - (I1 25 r1.toNatClampNeg)) * (I7 67 r6.toNatClampNeg)))), some (.int (((I7 66 r6.toNatClampNeg) * (x2 - (I1 25 r1.toNatClampNeg))) - ((I7 67 r6.toNatClampNeg) * (x1 - (I1 24 r1.toNatClampNeg))))), some (.int ((((x1 - (I1 24 r1.toNatClampNeg)) * (x1 - (I1 24 r1.toNatClampNeg))) + ((x2 - (I1 25 r1.toNatClampNeg)) * (x2 - (I1 25 r1.toNatClampNeg)))) * (nI 1)))] [] ((fl, n1, n2, true, q, ad), I8, J8)
              show vp_in r7 4 ∧ _
              refine ⟨(h8.2.2 c4).1, ?_⟩
              show mm_b _ _ _ _ _ [some (.ref 6), none, none, none, none, none, none, none, none, some (.int r7), some (.int (((x1 - (I1 24 r1.toNatClampNeg)) * (I7 66 r6.toNatClampNeg)) + ((x2 - (I1 25 r1.toNatClampNeg)) * (I7 67 r6.toNatClampNeg)))), some (.int (((I7 66 r6.toNatClampNeg) * (x2 - (I1 25 r1.toNatClampNeg))) - ((I7 67 r6.toNatClampNeg) * (x1 - (I1 24 r1.toNatClampNeg))))), some (.int ((((x1 - (I1 24 r1.toNatClampNeg)) * (x1 - (I1 24 r1.toNatClampNeg))) + ((x2 - (I1 25 r1.toNatClampNeg)) * (x2 - (I1 25 r1.toNatClampNeg)))) * (nI 1)))] [.int (I8 29 r7.toNatClampNeg), .int ((((x1 - (I1 24 r1.toNatClampNeg)) * (x1 - (I1 24 r1.toNatClampNeg))) + ((x2 - (I1 25 r1.toNatClampNeg)) * (x2 - (I1 25 r1.toNatClampNeg)))) * (nI 1))] ((fl, n1, n2, true, q, ad), I8, J8)
              show vp_in r7 4 ∧ _
              refine ⟨(h8.2.2 c4).2.1, ?_⟩
              show mm_b _ _ _ _ _ [some (.ref 6), none, none, none, none, none, none, none, none, some (.int r7), some (.int (((x1 - (I1 24 r1.toNatClampNeg)) * (I7 66 r6.toNatClampNeg)) + ((x2 - (I1 25 r1.toNatClampNeg)) * (I7 67 r6.toNatClampNeg)))), some (.int (((I7 66 r6.toNatClampNeg) * (x2 - (I1 25 r1.toNatClampNeg))) - ((I7 67 r6.toNatClampNeg) * (x1 - (I1 24 r1.toNatClampNeg))))), some (.int ((((x1 - (I1 24 r1.toNatClampNeg)) * (x1 - (I1 24 r1.toNatClampNeg))) + ((x2 - (I1 25 r1.toNatClampNeg)) * (x2 - (I1 25 r1.toNatClampNeg)))) * (nI 1)))] [.int (I8 29 r7.toNatClampNeg), .int (I8 29 r7.toNatClampNeg), .int ((((x1 - (I1 24 r1.toNatClampNeg)) * (x1 - (I1 24 r1.toNatClampNeg))) + ((x2 - (I1 25 r1.toNatClampNeg)) * (x2 - (I1 25 r1.toNatClampNeg)))) * (nI 1))] ((fl, n1, n2, true, q, ad), I8, J8)
              show (((I8 29 r7.toNatClampNeg) * (I8 29 r7.toNatClampNeg)) < ((((x1 - (I1 24 r1.toNatClampNeg)) * (x1 - (I1 24 r1.toNatClampNeg))) + ((x2 - (I1 25 r1.toNatClampNeg)) * (x2 - (I1 25 r1.toNatClampNeg)))) * (nI 1)) → _) ∧ (¬ ((I8 29 r7.toNatClampNeg) * (I8 29 r7.toNatClampNeg)) < ((((x1 - (I1 24 r1.toNatClampNeg)) * (x1 - (I1 24 r1.toNatClampNeg))) + ((x2 - (I1 25 r1.toNatClampNeg)) * (x2 - (I1 25 r1.toNatClampNeg)))) * (nI 1)) → _)
              refine ⟨fun c5 => ?_, fun c5 => ?_⟩
              · show mm_u _ _ _ _ _ _ [some (.ref 6), none, none, none, none, none, none, none, none, some (.int r7), some (.int (((x1 - (I1 24 r1.toNatClampNeg)) * (I7 66 r6.toNatClampNeg)) + ((x2 - (I1 25 r1.toNatClampNeg)) * (I7 67 r6.toNatClampNeg)))), some (.int (((I7 66 r6.toNatClampNeg) * (x2 - (I1 25 r1.toNatClampNeg))) - ((I7 67 r6.toNatClampNeg) * (x1 - (I1 24 r1.toNatClampNeg))))), some (.int ((((x1 - (I1 24 r1.toNatClampNeg)) * (x1 - (I1 24 r1.toNatClampNeg))) + ((x2 - (I1 25 r1.toNatClampNeg)) * (x2 - (I1 25 r1.toNatClampNeg)))) * (nI 1)))] [] ((fl, n1, n2, true, q, ad), I8, J8)
                show (((nI 0) : Int32) = 0 ∨ ((nI 0) : Int32) = 1) ∧ _
                refine ⟨(by decide), ?_⟩
                exact ((h8.2.2 c4).2.2.1 c5)
              · show mm_b _ _ _ _ _ [some (.ref 6), none, none, none, none, none, none, none, none, some (.int r7), some (.int (((x1 - (I1 24 r1.toNatClampNeg)) * (I7 66 r6.toNatClampNeg)) + ((x2 - (I1 25 r1.toNatClampNeg)) * (I7 67 r6.toNatClampNeg)))), some (.int (((I7 66 r6.toNatClampNeg) * (x2 - (I1 25 r1.toNatClampNeg))) - ((I7 67 r6.toNatClampNeg) * (x1 - (I1 24 r1.toNatClampNeg))))), some (.int ((((x1 - (I1 24 r1.toNatClampNeg)) * (x1 - (I1 24 r1.toNatClampNeg))) + ((x2 - (I1 25 r1.toNatClampNeg)) * (x2 - (I1 25 r1.toNatClampNeg)))) * (nI 1)))] [] ((fl, n1, n2, true, q, ad), I8, J8)
                show (((nI 1) : Int32) = 0 ∨ ((nI 1) : Int32) = 1) ∧ _
                refine ⟨(by decide), ?_⟩
                exact ((h8.2.2 c4).2.2.2 c5)
        · show mm_b _ _ _ _ _ [some (.ref 6), some (.int x0), none, none, some (.int x3), none, some (.int (x1 - (I1 24 r1.toNatClampNeg))), some (.int (x2 - (I1 25 r1.toNatClampNeg))), some (.int r6), some (.int r7), some (.int (((x1 - (I1 24 r1.toNatClampNeg)) * (I7 66 r6.toNatClampNeg)) + ((x2 - (I1 25 r1.toNatClampNeg)) * (I7 67 r6.toNatClampNeg)))), some (.int (((I7 66 r6.toNatClampNeg) * (x2 - (I1 25 r1.toNatClampNeg))) - ((I7 67 r6.toNatClampNeg) * (x1 - (I1 24 r1.toNatClampNeg))))), none] [.int (((x1 - (I1 24 r1.toNatClampNeg)) * (x1 - (I1 24 r1.toNatClampNeg))) + ((x2 - (I1 25 r1.toNatClampNeg)) * (x2 - (I1 25 r1.toNatClampNeg))))] ((fl, n1, n2, true, q, ad), I7, J7)
          show ((((x1 - (I1 24 r1.toNatClampNeg)) * (I7 66 r6.toNatClampNeg)) + ((x2 - (I1 25 r1.toNatClampNeg)) * (I7 67 r6.toNatClampNeg))) ≤ (nI 0) → _) ∧ (¬ (((x1 - (I1 24 r1.toNatClampNeg)) * (I7 66 r6.toNatClampNeg)) + ((x2 - (I1 25 r1.toNatClampNeg)) * (I7 67 r6.toNatClampNeg))) ≤ (nI 0) → _)
          refine ⟨fun c3 => ?_, fun c3 => ?_⟩
          · show mm_u _ _ _ _ _ _ [some (.ref 6), none, none, none, none, none, none, none, none, some (.int r7), some (.int (((x1 - (I1 24 r1.toNatClampNeg)) * (I7 66 r6.toNatClampNeg)) + ((x2 - (I1 25 r1.toNatClampNeg)) * (I7 67 r6.toNatClampNeg)))), some (.int (((I7 66 r6.toNatClampNeg) * (x2 - (I1 25 r1.toNatClampNeg))) - ((I7 67 r6.toNatClampNeg) * (x1 - (I1 24 r1.toNatClampNeg))))), some (.int ((((x1 - (I1 24 r1.toNatClampNeg)) * (x1 - (I1 24 r1.toNatClampNeg))) + ((x2 - (I1 25 r1.toNatClampNeg)) * (x2 - (I1 25 r1.toNatClampNeg)))) * (nI 4)))] [] ((fl, n1, n2, true, q, ad), I7, J7)
            show (((nI 0) : Int32) = 0 ∨ ((nI 0) : Int32) = 1) ∧ _
            refine ⟨(by decide), ?_⟩
            exact ((h7.2.2.2.2.2 c2).1 c3)
          · show mm_b _ _ _ _ _ [some (.ref 6), none, none, none, none, none, none, none, none, some (.int r7), some (.int (((x1 - (I1 24 r1.toNatClampNeg)) * (I7 66 r6.toNatClampNeg)) + ((x2 - (I1 25 r1.toNatClampNeg)) * (I7 67 r6.toNatClampNeg)))), some (.int (((I7 66 r6.toNatClampNeg) * (x2 - (I1 25 r1.toNatClampNeg))) - ((I7 67 r6.toNatClampNeg) * (x1 - (I1 24 r1.toNatClampNeg))))), some (.int ((((x1 - (I1 24 r1.toNatClampNeg)) * (x1 - (I1 24 r1.toNatClampNeg))) + ((x2 - (I1 25 r1.toNatClampNeg)) * (x2 - (I1 25 r1.toNatClampNeg)))) * (nI 4)))] [] ((fl, n1, n2, true, q, ad), I7, J7)
            show mm_wc d 1000 [.int (((I7 66 r6.toNatClampNeg) * (x2 - (I1 25 r1.toNatClampNeg))) - ((I7 67 r6.toNatClampNeg) * (x1 - (I1 24 r1.toNatClampNeg))))] ((fl, 0, 0, true, q, ad), I7, J7) _
            refine mm_wcm ((h7.2.2.2.2.2 c2).2 c3) ?_
            rintro v τ ⟨r9, I9, J9, rfl, rfl, h9⟩
            refine mm_r1' ⟨rfl, ?_⟩
            show mm_b _ _ _ _ _ [some (.ref 6), none, none, none, none, none, none, none, none, some (.int r7), some (.int (((x1 - (I1 24 r1.toNatClampNeg)) * (I7 66 r6.toNatClampNeg)) + ((x2 - (I1 25 r1.toNatClampNeg)) * (I7 67 r6.toNatClampNeg)))), some (.int (((I7 66 r6.toNatClampNeg) * (x2 - (I1 25 r1.toNatClampNeg))) - ((I7 67 r6.toNatClampNeg) * (x1 - (I1 24 r1.toNatClampNeg))))), some (.int ((((x1 - (I1 24 r1.toNatClampNeg)) * (x1 - (I1 24 r1.toNatClampNeg))) + ((x2 - (I1 25 r1.toNatClampNeg)) * (x2 - (I1 25 r1.toNatClampNeg)))) * (nI 4)))] [.int r9, .int (nI 10)] ((fl, n1, n2, true, q, ad), I9, J9)
            show vp_in r7 4 ∧ _
            refine ⟨h9.1, ?_⟩
            show mm_b _ _ _ _ _ [some (.ref 6), none, none, none, none, none, none, none, none, some (.int r7), some (.int (((x1 - (I1 24 r1.toNatClampNeg)) * (I7 66 r6.toNatClampNeg)) + ((x2 - (I1 25 r1.toNatClampNeg)) * (I7 67 r6.toNatClampNeg)))), some (.int (((I7 66 r6.toNatClampNeg) * (x2 - (I1 25 r1.toNatClampNeg))) - ((I7 67 r6.toNatClampNeg) * (x1 - (I1 24 r1.toNatClampNeg))))), some (.int ((((x1 - (I1 24 r1.toNatClampNeg)) * (x1 - (I1 24 r1.toNatClampNeg))) + ((x2 - (I1 25 r1.toNatClampNeg)) * (x2 - (I1 25 r1.toNatClampNeg)))) * (nI 4)))] [.int (I9 30 r7.toNatClampNeg), .int ((nI 10) * r9)] ((fl, n1, n2, true, q, ad), I9, J9)
            show (((I9 30 r7.toNatClampNeg) * (((x1 - (I1 24 r1.toNatClampNeg)) * (I7 66 r6.toNatClampNeg)) + ((x2 - (I1 25 r1.toNatClampNeg)) * (I7 67 r6.toNatClampNeg)))) < ((nI 10) * r9) → _) ∧ (¬ ((I9 30 r7.toNatClampNeg) * (((x1 - (I1 24 r1.toNatClampNeg)) * (I7 66 r6.toNatClampNeg)) + ((x2 - (I1 25 r1.toNatClampNeg)) * (I7 67 r6.toNatClampNeg)))) < ((nI 10) * r9) → _)
            refine ⟨fun c4 => ?_, fun c4 => ?_⟩
            · show mm_u _ _ _ _ _ _ [some (.ref 6), none, none, none, none, none, none, none, none, some (.int r7), some (.int (((x1 - (I1 24 r1.toNatClampNeg)) * (I7 66 r6.toNatClampNeg)) + ((x2 - (I1 25 r1.toNatClampNeg)) * (I7 67 r6.toNatClampNeg)))), some (.int (((I7 66 r6.toNatClampNeg) * (x2 - (I1 25 r1.toNatClampNeg))) - ((I7 67 r6.toNatClampNeg) * (x1 - (I1 24 r1.toNatClampNeg))))), some (.int ((((x1 - (I1 24 r1.toNatClampNeg)) * (x1 - (I1 24 r1.toNatClampNeg))) + ((x2 - (I1 25 r1.toNatClampNeg)) * (x2 - (I1 25 r1.toNatClampNeg)))) * (nI 4)))] [] ((fl, n1, n2, true, q, ad), I9, J9)
              show (((nI 0) : Int32) = 0 ∨ ((nI 0) : Int32) = 1) ∧ _
              refine ⟨(by decide), ?_⟩
              exact (h9.2.1 c4)
            · show mm_b _ _ _ _ _ [some (.ref 6), none, none, none, none, none, none, none, none, some (.int r7), some (.int (((x1 - (I1 24 r1.toNatClampNeg)) * (I7 66 r6.toNatClampNeg)) + ((x2 - (I1 25 r1.toNatClampNeg)) * (I7 67 r6.toNatClampNeg)))), some (.int (((I7 66 r6.toNatClampNeg) * (x2 - (I1 25 r1.toNatClampNeg))) - ((I7 67 r6.toNatClampNeg) * (x1 - (I1 24 r1.toNatClampNeg))))), some (.int ((((x1 - (I1 24 r1.toNatClampNeg)) * (x1 - (I1 24 r1.toNatClampNeg))) + ((x2 - (I1 25 r1.toNatClampNeg)) * (x2 - (I1 25 r1.toNatClampNeg)))) * (nI 4)))] [] ((fl, n1, n2, true, q, ad), I9, J9)
              show vp_in r7 4 ∧ _
              refine ⟨(h9.2.2 c4).1, ?_⟩
              show mm_b _ _ _ _ _ [some (.ref 6), none, none, none, none, none, none, none, none, some (.int r7), some (.int (((x1 - (I1 24 r1.toNatClampNeg)) * (I7 66 r6.toNatClampNeg)) + ((x2 - (I1 25 r1.toNatClampNeg)) * (I7 67 r6.toNatClampNeg)))), some (.int (((I7 66 r6.toNatClampNeg) * (x2 - (I1 25 r1.toNatClampNeg))) - ((I7 67 r6.toNatClampNeg) * (x1 - (I1 24 r1.toNatClampNeg))))), some (.int ((((x1 - (I1 24 r1.toNatClampNeg)) * (x1 - (I1 24 r1.toNatClampNeg))) + ((x2 - (I1 25 r1.toNatClampNeg)) * (x2 - (I1 25 r1.toNatClampNeg)))) * (nI 4)))] [.int (I9 29 r7.toNatClampNeg), .int ((((x1 - (I1 24 r1.toNatClampNeg)) * (x1 - (I1 24 r1.toNatClampNeg))) + ((x2 - (I1 25 r1.toNatClampNeg)) * (x2 - (I1 25 r1.toNatClampNeg)))) * (nI 4))] ((fl, n1, n2, true, q, ad), I9, J9)
              show vp_in r7 4 ∧ _
              refine ⟨(h9.2.2 c4).2.1, ?_⟩
              show mm_b _ _ _ _ _ [some (.ref 6), none, none, none, none, none, none, none, none, some (.int r7), some (.int (((x1 - (I1 24 r1.toNatClampNeg)) * (I7 66 r6.toNatClampNeg)) + ((x2 - (I1 25 r1.toNatClampNeg)) * (I7 67 r6.toNatClampNeg)))), some (.int (((I7 66 r6.toNatClampNeg) * (x2 - (I1 25 r1.toNatClampNeg))) - ((I7 67 r6.toNatClampNeg) * (x1 - (I1 24 r1.toNatClampNeg))))), some (.int ((((x1 - (I1 24 r1.toNatClampNeg)) * (x1 - (I1 24 r1.toNatClampNeg))) + ((x2 - (I1 25 r1.toNatClampNeg)) * (x2 - (I1 25 r1.toNatClampNeg)))) * (nI 4)))] [.int (I9 29 r7.toNatClampNeg), .int (I9 29 r7.toNatClampNeg), .int ((((x1 - (I1 24 r1.toNatClampNeg)) * (x1 - (I1 24 r1.toNatClampNeg))) + ((x2 - (I1 25 r1.toNatClampNeg)) * (x2 - (I1 25 r1.toNatClampNeg)))) * (nI 4))] ((fl, n1, n2, true, q, ad), I9, J9)
              show (((I9 29 r7.toNatClampNeg) * (I9 29 r7.toNatClampNeg)) < ((((x1 - (I1 24 r1.toNatClampNeg)) * (x1 - (I1 24 r1.toNatClampNeg))) + ((x2 - (I1 25 r1.toNatClampNeg)) * (x2 - (I1 25 r1.toNatClampNeg)))) * (nI 4)) → _) ∧ (¬ ((I9 29 r7.toNatClampNeg) * (I9 29 r7.toNatClampNeg)) < ((((x1 - (I1 24 r1.toNatClampNeg)) * (x1 - (I1 24 r1.toNatClampNeg))) + ((x2 - (I1 25 r1.toNatClampNeg)) * (x2 - (I1 25 r1.toNatClampNeg)))) * (nI 4)) → _)
              refine ⟨fun c5 => ?_, fun c5 => ?_⟩
              · show mm_u _ _ _ _ _ _ [some (.ref 6), none, none, none, none, none, none, none, none, some (.int r7), some (.int (((x1 - (I1 24 r1.toNatClampNeg)) * (I7 66 r6.toNatClampNeg)) + ((x2 - (I1 25 r1.toNatClampNeg)) * (I7 67 r6.toNatClampNeg)))), some (.int (((I7 66 r6.toNatClampNeg) * (x2 - (I1 25 r1.toNatClampNeg))) - ((I7 67 r6.toNatClampNeg) * (x1 - (I1 24 r1.toNatClampNeg))))), some (.int ((((x1 - (I1 24 r1.toNatClampNeg)) * (x1 - (I1 24 r1.toNatClampNeg))) + ((x2 - (I1 25 r1.toNatClampNeg)) * (x2 - (I1 25 r1.toNatClampNeg)))) * (nI 4)))] [] ((fl, n1, n2, true, q, ad), I9, J9)
                show (((nI 0) : Int32) = 0 ∨ ((nI 0) : Int32) = 1) ∧ _
                refine ⟨(by decide), ?_⟩
                exact ((h9.2.2 c4).2.2.1 c5)
              · show mm_b _ _ _ _ _ [some (.ref 6), none, none, none, none, none, none, none, none, some (.int r7), some (.int (((x1 - (I1 24 r1.toNatClampNeg)) * (I7 66 r6.toNatClampNeg)) + ((x2 - (I1 25 r1.toNatClampNeg)) * (I7 67 r6.toNatClampNeg)))), some (.int (((I7 66 r6.toNatClampNeg) * (x2 - (I1 25 r1.toNatClampNeg))) - ((I7 67 r6.toNatClampNeg) * (x1 - (I1 24 r1.toNatClampNeg))))), some (.int ((((x1 - (I1 24 r1.toNatClampNeg)) * (x1 - (I1 24 r1.toNatClampNeg))) + ((x2 - (I1 25 r1.toNatClampNeg)) * (x2 - (I1 25 r1.toNatClampNeg)))) * (nI 4)))] [] ((fl, n1, n2, true, q, ad), I9, J9)
                show (((nI 1) : Int32) = 0 ∨ ((nI 1) : Int32) = 1) ∧ _
                refine ⟨(by decide), ?_⟩
                exact ((h9.2.2 c4).2.2.2 c5)
      · show mm_b _ _ _ _ _ [some (.ref 6), some (.int x0), some (.int x1), some (.int x2), some (.int x3), some (.int r1), some (.int (x1 - (I1 24 r1.toNatClampNeg))), some (.int (x2 - (I1 25 r1.toNatClampNeg))), none, none, none, none, none] [] ((fl, n1, n2, true, q, ad), I1, J1)
        show (((nI 1) : Int32) = 0 ∨ ((nI 1) : Int32) = 1) ∧ _
        refine ⟨(by decide), ?_⟩
        exact ((h1.2.2.2 c0).2 c1)
/- 3 ThreeBreaths$Board findUnlikeFans -/
theorem fx_3 {d : Nat} {fl : Nat → Bool} {n1 n2 : Nat} {p q : Bool} {ad : Nat → Nat} {I : mmI} {J : mmJ} {Q : mmQ} (h : mm_wc d 279 [.ref 11, .int (nI 0)] ((fl, 0, 0, p, q, ad), I, J) (fun v τ => ∃ I1 J1, v = none ∧ τ = ((fl, 0, 0, p, q, ad), I1, J1) ∧ mm_w Q (mm_wc d) bk_3 15 [some (.ref 6), some (.int (nI 0)), none] [] ((fl, n1, n2, p, q, ad), (mm_up I1 6 7 (nI 0)), J1))) : mm_wc (d + 1) 3 [.ref 6] ((fl, n1, n2, p, q, ad), I, J) Q := by
  refine mm_call (c := 3) rfl rfl ?_
  refine mm_go [15] 80 ?_
  show mm_wc d 279 [.ref 11, .int (nI 0)] ((fl, 0, 0, p, q, ad), I, J) _
  refine mm_wcm h ?_
  rintro v τ ⟨I1, J1, rfl, rfl, h1⟩
  refine mm_r0' ⟨rfl, ?_⟩
  exact h1
theorem fx_3_15 {d : Nat} {a1 : Int32} {fl : Nat → Bool} {n1 n2 : Nat} {p q : Bool} {ad : Nat → Nat} {I : mmI} {J : mmJ} {Q : mmQ} (h : (((I 6 2) ≤ a1 → Q none ((fl, n1, n2, p, q, ad), I, J)) ∧ (¬ (I 6 2) ≤ a1 → (vp_in a1 320 ∧ (vp_in (I 7 a1.toNatClampNeg) 1024 ∧ ((¬ (I 11 ((I 7 a1.toNatClampNeg)).toNatClampNeg) = (nI 0) → (vp_in (I 7 a1.toNatClampNeg) 1024 ∧ (vp_in a1 320 ∧ (vp_in a1 320 ∧ (vp_in ((mm_up I 8 a1.toNatClampNeg ((I 11 ((I 7 a1.toNatClampNeg)).toNatClampNeg) - (nI 1))) 8 a1.toNatClampNeg) 320 ∧ (vp_in ((mm_up I 8 a1.toNatClampNeg ((I 11 ((I 7 a1.toNatClampNeg)).toNatClampNeg) - (nI 1))) 8 a1.toNatClampNeg) 320 ∧ mm_w Q (mm_wc d) bk_3 15 [some (.ref 6), some (.int (a1 + (nI 1))), none] [] ((fl, n1, n2, p, q, ad), (mm_up (mm_up I 8 a1.toNatClampNeg ((I 11 ((I 7 a1.toNatClampNeg)).toNatClampNeg) - (nI 1))) 10 (((mm_up I 8 a1.toNatClampNeg ((I 11 ((I 7 a1.toNatClampNeg)).toNatClampNeg) - (nI 1))) 8 a1.toNatClampNeg)).toNatClampNeg ((I 10 (((mm_up I 8 a1.toNatClampNeg ((I 11 ((I 7 a1.toNatClampNeg)).toNatClampNeg) - (nI 1))) 8 a1.toNatClampNeg)).toNatClampNeg) + (nI 1))), J))))))) ∧ ((I 11 ((I 7 a1.toNatClampNeg)).toNatClampNeg) = (nI 0) → (vp_in (I 6 7) 320 ∧ (vp_in (I 6 7) 320 ∧ (vp_in (I 7 a1.toNatClampNeg) 1024 ∧ (vp_in (I 7 a1.toNatClampNeg) 1024 ∧ (vp_in a1 320 ∧ (vp_in a1 320 ∧ (vp_in ((mm_up (mm_up (mm_up (mm_up (mm_up I 9 ((I 6 7)).toNatClampNeg (I 7 a1.toNatClampNeg)) 10 ((I 6 7)).toNatClampNeg (nI 0)) 6 7 ((I 6 7) + (nI 1))) 11 ((I 7 a1.toNatClampNeg)).toNatClampNeg ((I 6 7) + (nI 1))) 8 a1.toNatClampNeg (((mm_up (mm_up (mm_up (mm_up I 9 ((I 6 7)).toNatClampNeg (I 7 a1.toNatClampNeg)) 10 ((I 6 7)).toNatClampNeg (nI 0)) 6 7 ((I 6 7) + (nI 1))) 11 ((I 7 a1.toNatClampNeg)).toNatClampNeg ((I 6 7) + (nI 1))) 11 ((I 7 a1.toNatClampNeg)).toNatClampNeg) - (nI 1))) 8 a1.toNatClampNeg) 320 ∧ (vp_in ((mm_up (mm_up (mm_up (mm_up (mm_up I 9 ((I 6 7)).toNatClampNeg (I 7 a1.toNatClampNeg)) 10 ((I 6 7)).toNatClampNeg (nI 0)) 6 7 ((I 6 7) + (nI 1))) 11 ((I 7 a1.toNatClampNeg)).toNatClampNeg ((I 6 7) + (nI 1))) 8 a1.toNatClampNeg (((mm_up (mm_up (mm_up (mm_up I 9 ((I 6 7)).toNatClampNeg (I 7 a1.toNatClampNeg)) 10 ((I 6 7)).toNatClampNeg (nI 0)) 6 7 ((I 6 7) + (nI 1))) 11 ((I 7 a1.toNatClampNeg)).toNatClampNeg ((I 6 7) + (nI 1))) 11 ((I 7 a1.toNatClampNeg)).toNatClampNeg) - (nI 1))) 8 a1.toNatClampNeg) 320 ∧ mm_w Q (mm_wc d) bk_3 15 [some (.ref 6), some (.int (a1 + (nI 1))), none] [] ((fl, n1, n2, p, q, ad), (mm_up (mm_up (mm_up (mm_up (mm_up (mm_up I 9 ((I 6 7)).toNatClampNeg (I 7 a1.toNatClampNeg)) 10 ((I 6 7)).toNatClampNeg (nI 0)) 6 7 ((I 6 7) + (nI 1))) 11 ((I 7 a1.toNatClampNeg)).toNatClampNeg ((I 6 7) + (nI 1))) 8 a1.toNatClampNeg (((mm_up (mm_up (mm_up (mm_up I 9 ((I 6 7)).toNatClampNeg (I 7 a1.toNatClampNeg)) 10 ((I 6 7)).toNatClampNeg (nI 0)) 6 7 ((I 6 7) + (nI 1))) 11 ((I 7 a1.toNatClampNeg)).toNatClampNeg ((I 6 7) + (nI 1))) 11 ((I 7 a1.toNatClampNeg)).toNatClampNeg) - (nI 1))) 10 (((mm_up (mm_up (mm_up (mm_up (mm_up I 9 ((I 6 7)).toNatClampNeg (I 7 a1.toNatClampNeg)) 10 ((I 6 7)).toNatClampNeg (nI 0)) 6 7 ((I 6 7) + (nI 1))) 11 ((I 7 a1.toNatClampNeg)).toNatClampNeg ((I 6 7) + (nI 1))) 8 a1.toNatClampNeg (((mm_up (mm_up (mm_up (mm_up I 9 ((I 6 7)).toNatClampNeg (I 7 a1.toNatClampNeg)) 10 ((I 6 7)).toNatClampNeg (nI 0)) 6 7 ((I 6 7) + (nI 1))) 11 ((I 7 a1.toNatClampNeg)).toNatClampNeg ((I 6 7) + (nI 1))) 11 ((I 7 a1.toNatClampNeg)).toNatClampNeg) - (nI 1))) 8 a1.toNatClampNeg)).toNatClampNeg (((mm_up (mm_up I 9 ((I 6 7)).toNatClampNeg (I 7 a1.toNatClampNeg)) 10 ((I 6 7)).toNatClampNeg (nI 0)) 10 (((mm_up (mm_up (mm_up (mm_up (mm_up I 9 ((I 6 7)).toNatClampNeg (I 7 a1.toNatClampNeg)) 10 ((I 6 7)).toNatClampNeg (nI 0)) 6 7 ((I 6 7) + (nI 1))) 11 ((I 7 a1.toNatClampNeg)).toNatClampNeg ((I 6 7) + (nI 1))) 8 a1.toNatClampNeg (((mm_up (mm_up (mm_up (mm_up I 9 ((I 6 7)).toNatClampNeg (I 7 a1.toNatClampNeg)) 10 ((I 6 7)).toNatClampNeg (nI 0)) 6 7 ((I 6 7) + (nI 1))) 11 ((I 7 a1.toNatClampNeg)).toNatClampNeg ((I 6 7) + (nI 1))) 11 ((I 7 a1.toNatClampNeg)).toNatClampNeg) - (nI 1))) 8 a1.toNatClampNeg)).toNatClampNeg) + (nI 1))), J)))))))))))))))) : mm_w Q (mm_wc (d)) bk_3 15 [some (.ref 6), some (.int a1), none] [] ((fl, n1, n2, p, q, ad), I, J) := by
  refine mm_go [15] 80 ?_
  show ((I 6 2) ≤ a1 → _) ∧ (¬ (I 6 2) ≤ a1 → _)
  refine ⟨fun c0 => ?_, fun c0 => ?_⟩
  · exact (h.1 c0)
  · show mm_b _ _ _ _ _ [some (.ref 6), some (.int a1), none] [] ((fl, n1, n2, p, q, ad), I, J)
    show vp_in a1 320 ∧ _
    refine ⟨(h.2 c0).1, ?_⟩
    show mm_b _ _ _ _ _ [some (.ref 6), some (.int a1), none] [.int (I 7 a1.toNatClampNeg)] ((fl, n1, n2, p, q, ad), I, J)
    show vp_in (I 7 a1.toNatClampNeg) 1024 ∧ _
    refine ⟨(h.2 c0).2.1, ?_⟩
    show mm_b _ _ _ _ _ [some (.ref 6), some (.int a1), some (.int (I 7 a1.toNatClampNeg))] [.int (I 11 ((I 7 a1.toNatClampNeg)).toNatClampNeg)] ((fl, n1, n2, p, q, ad), I, J)
    show (¬ (I 11 ((I 7 a1.toNatClampNeg)).toNatClampNeg) = (nI 0) → _) ∧ ((I 11 ((I 7 a1.toNatClampNeg)).toNatClampNeg) = (nI 0) → _)
    refine ⟨fun c1 => ?_, fun c1 => ?_⟩
    · show mm_u _ _ _ _ _ _ [some (.ref 6), some (.int a1), some (.int (I 7 a1.toNatClampNeg))] [] ((fl, n1, n2, p, q, ad), I, J)
      show vp_in (I 7 a1.toNatClampNeg) 1024 ∧ _
      refine ⟨((h.2 c0).2.2.1 c1).1, ?_⟩
      show mm_b _ _ _ _ _ [some (.ref 6), some (.int a1), some (.int (I 7 a1.toNatClampNeg))] [.int (I 11 ((I 7 a1.toNatClampNeg)).toNatClampNeg), .int a1, .ref 8] ((fl, n1, n2, p, q, ad), I, J)
      show vp_in a1 320 ∧ _
      refine ⟨((h.2 c0).2.2.1 c1).2.1, ?_⟩
      show mm_b _ _ _ _ _ [some (.ref 6), some (.int a1), some (.int (I 7 a1.toNatClampNeg))] [] ((fl, n1, n2, p, q, ad), (mm_up I 8 a1.toNatClampNeg ((I 11 ((I 7 a1.toNatClampNeg)).toNatClampNeg) - (nI 1))), J)
      show vp_in a1 320 ∧ _
      refine ⟨((h.2 c0).2.2.1 c1).2.2.1, ?_⟩
      show mm_b _ _ _ _ _ [some (.ref 6), some (.int a1), some (.int (I 7 a1.toNatClampNeg))] [.int ((mm_up I 8 a1.toNatClampNeg ((I 11 ((I 7 a1.toNatClampNeg)).toNatClampNeg) - (nI 1))) 8 a1.toNatClampNeg), .ref 10] ((fl, n1, n2, p, q, ad), (mm_up I 8 a1.toNatClampNeg ((I 11 ((I 7 a1.toNatClampNeg)).toNatClampNeg) - (nI 1))), J)
      show vp_in ((mm_up I 8 a1.toNatClampNeg ((I 11 ((I 7 a1.toNatClampNeg)).toNatClampNeg) - (nI 1))) 8 a1.toNatClampNeg) 320 ∧ _
      refine ⟨((h.2 c0).2.2.1 c1).2.2.2.1, ?_⟩
      show mm_b _ _ _ _ _ [some (.ref 6), some (.int a1), some (.int (I 7 a1.toNatClampNeg))] [.int (I 10 (((mm_up I 8 a1.toNatClampNeg ((I 11 ((I 7 a1.toNatClampNeg)).toNatClampNeg) - (nI 1))) 8 a1.toNatClampNeg)).toNatClampNeg), .int ((mm_up I 8 a1.toNatClampNeg ((I 11 ((I 7 a1.toNatClampNeg)).toNatClampNeg) - (nI 1))) 8 a1.toNatClampNeg), .ref 10] ((fl, n1, n2, p, q, ad), (mm_up I 8 a1.toNatClampNeg ((I 11 ((I 7 a1.toNatClampNeg)).toNatClampNeg) - (nI 1))), J)
      show vp_in ((mm_up I 8 a1.toNatClampNeg ((I 11 ((I 7 a1.toNatClampNeg)).toNatClampNeg) - (nI 1))) 8 a1.toNatClampNeg) 320 ∧ _
      refine ⟨((h.2 c0).2.2.1 c1).2.2.2.2.1, ?_⟩
      exact ((h.2 c0).2.2.1 c1).2.2.2.2.2
    · show mm_b _ _ _ _ _ [some (.ref 6), some (.int a1), some (.int (I 7 a1.toNatClampNeg))] [] ((fl, n1, n2, p, q, ad), I, J)
      show vp_in (I 6 7) 320 ∧ _
      refine ⟨((h.2 c0).2.2.2 c1).1, ?_⟩
      show mm_b _ _ _ _ _ [some (.ref 6), some (.int a1), some (.int (I 7 a1.toNatClampNeg))] [] ((fl, n1, n2, p, q, ad), (mm_up I 9 ((I 6 7)).toNatClampNeg (I 7 a1.toNatClampNeg)), J)
      show vp_in (I 6 7) 320 ∧ _
      refine ⟨((h.2 c0).2.2.2 c1).2.1, ?_⟩
      show mm_b _ _ _ _ _ [some (.ref 6), some (.int a1), some (.int (I 7 a1.toNatClampNeg))] [] ((fl, n1, n2, p, q, ad), (mm_up (mm_up I 9 ((I 6 7)).toNatClampNeg (I 7 a1.toNatClampNeg)) 10 ((I 6 7)).toNatClampNeg (nI 0)), J)
      show vp_in (I 7 a1.toNatClampNeg) 1024 ∧ _
      refine ⟨((h.2 c0).2.2.2 c1).2.2.1, ?_⟩
      show mm_b _ _ _ _ _ [some (.ref 6), some (.int a1), some (.int (I 7 a1.toNatClampNeg))] [] ((fl, n1, n2, p, q, ad), (mm_up (mm_up (mm_up (mm_up I 9 ((I 6 7)).toNatClampNeg (I 7 a1.toNatClampNeg)) 10 ((I 6 7)).toNatClampNeg (nI 0)) 6 7 ((I 6 7) + (nI 1))) 11 ((I 7 a1.toNatClampNeg)).toNatClampNeg ((I 6 7) + (nI 1))), J)
      show vp_in (I 7 a1.toNatClampNeg) 1024 ∧ _
      refine ⟨((h.2 c0).2.2.2 c1).2.2.2.1, ?_⟩
      show mm_b _ _ _ _ _ [some (.ref 6), some (.int a1), some (.int (I 7 a1.toNatClampNeg))] [.int ((mm_up (mm_up (mm_up (mm_up I 9 ((I 6 7)).toNatClampNeg (I 7 a1.toNatClampNeg)) 10 ((I 6 7)).toNatClampNeg (nI 0)) 6 7 ((I 6 7) + (nI 1))) 11 ((I 7 a1.toNatClampNeg)).toNatClampNeg ((I 6 7) + (nI 1))) 11 ((I 7 a1.toNatClampNeg)).toNatClampNeg), .int a1, .ref 8] ((fl, n1, n2, p, q, ad), (mm_up (mm_up (mm_up (mm_up I 9 ((I 6 7)).toNatClampNeg (I 7 a1.toNatClampNeg)) 10 ((I 6 7)).toNatClampNeg (nI 0)) 6 7 ((I 6 7) + (nI 1))) 11 ((I 7 a1.toNatClampNeg)).toNatClampNeg ((I 6 7) + (nI 1))), J)
      show vp_in a1 320 ∧ _
      refine ⟨((h.2 c0).2.2.2 c1).2.2.2.2.1, ?_⟩
      show mm_b _ _ _ _ _ [some (.ref 6), some (.int a1), some (.int (I 7 a1.toNatClampNeg))] [] ((fl, n1, n2, p, q, ad), (mm_up (mm_up (mm_up (mm_up (mm_up I 9 ((I 6 7)).toNatClampNeg (I 7 a1.toNatClampNeg)) 10 ((I 6 7)).toNatClampNeg (nI 0)) 6 7 ((I 6 7) + (nI 1))) 11 ((I 7 a1.toNatClampNeg)).toNatClampNeg ((I 6 7) + (nI 1))) 8 a1.toNatClampNeg (((mm_up (mm_up (mm_up (mm_up I 9 ((I 6 7)).toNatClampNeg (I 7 a1.toNatClampNeg)) 10 ((I 6 7)).toNatClampNeg (nI 0)) 6 7 ((I 6 7) + (nI 1))) 11 ((I 7 a1.toNatClampNeg)).toNatClampNeg ((I 6 7) + (nI 1))) 11 ((I 7 a1.toNatClampNeg)).toNatClampNeg) - (nI 1))), J)
      show vp_in a1 320 ∧ _
      refine ⟨((h.2 c0).2.2.2 c1).2.2.2.2.2.1, ?_⟩
      show mm_b _ _ _ _ _ [some (.ref 6), some (.int a1), some (.int (I 7 a1.toNatClampNeg))] [.int ((mm_up (mm_up (mm_up (mm_up (mm_up I 9 ((I 6 7)).toNatClampNeg (I 7 a1.toNatClampNeg)) 10 ((I 6 7)).toNatClampNeg (nI 0)) 6 7 ((I 6 7) + (nI 1))) 11 ((I 7 a1.toNatClampNeg)).toNatClampNeg ((I 6 7) + (nI 1))) 8 a1.toNatClampNeg (((mm_up (mm_up (mm_up (mm_up I 9 ((I 6 7)).toNatClampNeg (I 7 a1.toNatClampNeg)) 10 ((I 6 7)).toNatClampNeg (nI 0)) 6 7 ((I 6 7) + (nI 1))) 11 ((I 7 a1.toNatClampNeg)).toNatClampNeg ((I 6 7) + (nI 1))) 11 ((I 7 a1.toNatClampNeg)).toNatClampNeg) - (nI 1))) 8 a1.toNatClampNeg), .ref 10] ((fl, n1, n2, p, q, ad), (mm_up (mm_up (mm_up (mm_up (mm_up I 9 ((I 6 7)).toNatClampNeg (I 7 a1.toNatClampNeg)) 10 ((I 6 7)).toNatClampNeg (nI 0)) 6 7 ((I 6 7) + (nI 1))) 11 ((I 7 a1.toNatClampNeg)).toNatClampNeg ((I 6 7) + (nI 1))) 8 a1.toNatClampNeg (((mm_up (mm_up (mm_up (mm_up I 9 ((I 6 7)).toNatClampNeg (I 7 a1.toNatClampNeg)) 10 ((I 6 7)).toNatClampNeg (nI 0)) 6 7 ((I 6 7) + (nI 1))) 11 ((I 7 a1.toNatClampNeg)).toNatClampNeg ((I 6 7) + (nI 1))) 11 ((I 7 a1.toNatClampNeg)).toNatClampNeg) - (nI 1))), J)
      show vp_in ((mm_up (mm_up (mm_up (mm_up (mm_up I 9 ((I 6 7)).toNatClampNeg (I 7 a1.toNatClampNeg)) 10 ((I 6 7)).toNatClampNeg (nI 0)) 6 7 ((I 6 7) + (nI 1))) 11 ((I 7 a1.toNatClampNeg)).toNatClampNeg ((I 6 7) + (nI 1))) 8 a1.toNatClampNeg (((mm_up (mm_up (mm_up (mm_up I 9 ((I 6 7)).toNatClampNeg (I 7 a1.toNatClampNeg)) 10 ((I 6 7)).toNatClampNeg (nI 0)) 6 7 ((I 6 7) + (nI 1))) 11 ((I 7 a1.toNatClampNeg)).toNatClampNeg ((I 6 7) + (nI 1))) 11 ((I 7 a1.toNatClampNeg)).toNatClampNeg) - (nI 1))) 8 a1.toNatClampNeg) 320 ∧ _
      refine ⟨((h.2 c0).2.2.2 c1).2.2.2.2.2.2.1, ?_⟩
      show mm_b _ _ _ _ _ [some (.ref 6), some (.int a1), some (.int (I 7 a1.toNatClampNeg))] [.int ((mm_up (mm_up I 9 ((I 6 7)).toNatClampNeg (I 7 a1.toNatClampNeg)) 10 ((I 6 7)).toNatClampNeg (nI 0)) 10 (((mm_up (mm_up (mm_up (mm_up (mm_up I 9 ((I 6 7)).toNatClampNeg (I 7 a1.toNatClampNeg)) 10 ((I 6 7)).toNatClampNeg (nI 0)) 6 7 ((I 6 7) + (nI 1))) 11 ((I 7 a1.toNatClampNeg)).toNatClampNeg ((I 6 7) + (nI 1))) 8 a1.toNatClampNeg (((mm_up (mm_up (mm_up (mm_up I 9 ((I 6 7)).toNatClampNeg (I 7 a1.toNatClampNeg)) 10 ((I 6 7)).toNatClampNeg (nI 0)) 6 7 ((I 6 7) + (nI 1))) 11 ((I 7 a1.toNatClampNeg)).toNatClampNeg ((I 6 7) + (nI 1))) 11 ((I 7 a1.toNatClampNeg)).toNatClampNeg) - (nI 1))) 8 a1.toNatClampNeg)).toNatClampNeg), .int ((mm_up (mm_up (mm_up (mm_up (mm_up I 9 ((I 6 7)).toNatClampNeg (I 7 a1.toNatClampNeg)) 10 ((I 6 7)).toNatClampNeg (nI 0)) 6 7 ((I 6 7) + (nI 1))) 11 ((I 7 a1.toNatClampNeg)).toNatClampNeg ((I 6 7) + (nI 1))) 8 a1.toNatClampNeg (((mm_up (mm_up (mm_up (mm_up I 9 ((I 6 7)).toNatClampNeg (I 7 a1.toNatClampNeg)) 10 ((I 6 7)).toNatClampNeg (nI 0)) 6 7 ((I 6 7) + (nI 1))) 11 ((I 7 a1.toNatClampNeg)).toNatClampNeg ((I 6 7) + (nI 1))) 11 ((I 7 a1.toNatClampNeg)).toNatClampNeg) - (nI 1))) 8 a1.toNatClampNeg), .ref 10] ((fl, n1, n2, p, q, ad), (mm_up (mm_up (mm_up (mm_up (mm_up I 9 ((I 6 7)).toNatClampNeg (I 7 a1.toNatClampNeg)) 10 ((I 6 7)).toNatClampNeg (nI 0)) 6 7 ((I 6 7) + (nI 1))) 11 ((I 7 a1.toNatClampNeg)).toNatClampNeg ((I 6 7) + (nI 1))) 8 a1.toNatClampNeg (((mm_up (mm_up (mm_up (mm_up I 9 ((I 6 7)).toNatClampNeg (I 7 a1.toNatClampNeg)) 10 ((I 6 7)).toNatClampNeg (nI 0)) 6 7 ((I 6 7) + (nI 1))) 11 ((I 7 a1.toNatClampNeg)).toNatClampNeg ((I 6 7) + (nI 1))) 11 ((I 7 a1.toNatClampNeg)).toNatClampNeg) - (nI 1))), J)
      show vp_in ((mm_up (mm_up (mm_up (mm_up (mm_up I 9 ((I 6 7)).toNatClampNeg (I 7 a1.toNatClampNeg)) 10 ((I 6 7)).toNatClampNeg (nI 0)) 6 7 ((I 6 7) + (nI 1))) 11 ((I 7 a1.toNatClampNeg)).toNatClampNeg ((I 6 7) + (nI 1))) 8 a1.toNatClampNeg (((mm_up (mm_up (mm_up (mm_up I 9 ((I 6 7)).toNatClampNeg (I 7 a1.toNatClampNeg)) 10 ((I 6 7)).toNatClampNeg (nI 0)) 6 7 ((I 6 7) + (nI 1))) 11 ((I 7 a1.toNatClampNeg)).toNatClampNeg ((I 6 7) + (nI 1))) 11 ((I 7 a1.toNatClampNeg)).toNatClampNeg) - (nI 1))) 8 a1.toNatClampNeg) 320 ∧ _
      refine ⟨((h.2 c0).2.2.2 c1).2.2.2.2.2.2.2.1, ?_⟩
      exact ((h.2 c0).2.2.2 c1).2.2.2.2.2.2.2.2
/- 4 ThreeBreaths$Board findTricks -/
theorem fx_4 {d : Nat} {fl : Nat → Bool} {n1 n2 : Nat} {p q : Bool} {ad : Nat → Nat} {I : mmI} {J : mmJ} {Q : mmQ} (h : mm_wc d 279 [.ref 13, .int (nI 0)] ((fl, 0, 0, p, q, ad), (mm_up I 6 11 (nI 0)), J) (fun v τ => ∃ I1 J1, v = none ∧ τ = ((fl, 0, 0, p, q, ad), I1, J1) ∧ mm_w Q (mm_wc d) bk_4 17 [some (.ref 6), some (.int (nI 0)), some (.int (nI 0)), none] [] ((fl, n1, n2, p, q, ad), I1, J1))) : mm_wc (d + 1) 4 [.ref 6] ((fl, n1, n2, p, q, ad), I, J) Q := by
  refine mm_call (c := 4) rfl rfl ?_
  refine mm_go [17, 85, 100] 80 ?_
  show mm_wc d 279 [.ref 13, .int (nI 0)] ((fl, 0, 0, p, q, ad), (mm_up I 6 11 (nI 0)), J) _
  refine mm_wcm h ?_
  rintro v τ ⟨I1, J1, rfl, rfl, h1⟩
  refine mm_r0' ⟨rfl, ?_⟩
  exact h1
theorem fx_4_17 {d : Nat} {a1 : Int32} {a2 : Int32} {fl : Nat → Bool} {n1 n2 : Nat} {p q : Bool} {ad : Nat → Nat} {I : mmI} {J : mmJ} {Q : mmQ} (h : (((I (mm_ck p 1) 3) ≤ a2 → mm_w Q (mm_wc d) bk_4 85 [some (.ref 6), none, some (.int (nI 0)), none] [] ((fl, n1, n2, p, q, ad), I, J)) ∧ (¬ (I (mm_ck p 1) 3) ≤ a2 → (vp_in a2 10 ∧ ((¬ (I (mm_ck p 4) a2.toNatClampNeg) = (nI 3) → mm_w Q (mm_wc d) bk_4 17 [some (.ref 6), some (.int a1), some (.int (a2 + (nI 1))), none] [] ((fl, n1, n2, p, q, ad), I, J)) ∧ ((I (mm_ck p 4) a2.toNatClampNeg) = (nI 3) → (((nI 3) ≤ a1 → mm_w Q (mm_wc d) bk_4 17 [some (.ref 6), some (.int a1), some (.int (a2 + (nI 1))), none] [] ((fl, n1, n2, p, q, ad), I, J)) ∧ (¬ (nI 3) ≤ a1 → (vp_in a1 3 ∧ mm_w Q (mm_wc d) bk_4 17 [some (.ref 6), some (.int (a1 + (nI 1))), some (.int (a2 + (nI 1))), none] [] ((fl, n1, n2, p, q, ad), (mm_up (mm_up I 13 a1.toNatClampNeg ((nI 1) <<< (a2 &&& 31))) 6 11 ((I 6 11) ||| ((nI 1) <<< (a2 &&& 31)))), J)))))))))) : mm_w Q (mm_wc (d)) bk_4 17 [some (.ref 6), some (.int a1), some (.int a2), none] [] ((fl, n1, n2, p, q, ad), I, J) := by
  cases p
  · refine mm_go [17, 85, 100] 80 ?_
    show ((I 33 3) ≤ a2 → _) ∧ (¬ (I 33 3) ≤ a2 → _)
    refine ⟨fun c0 => ?_, fun c0 => ?_⟩
    · exact (h.1 c0)
    · show mm_b _ _ _ _ _ [some (.ref 6), some (.int a1), some (.int a2), none] [] ((fl, n1, n2, false, q, ad), I, J)
      show vp_in a2 10 ∧ _
      refine ⟨(h.2 c0).1, ?_⟩
      show mm_b _ _ _ _ _ [some (.ref 6), some (.int a1), some (.int a2), none] [.int (I 36 a2.toNatClampNeg)] ((fl, n1, n2, false, q, ad), I, J)
      show (¬ (I 36 a2.toNatClampNeg) = (nI 3) → _) ∧ ((I 36 a2.toNatClampNeg) = (nI 3) → _)
      refine ⟨fun c1 => ?_, fun c1 => ?_⟩
      · exact ((h.2 c0).2.1 c1)
      · show mm_b _ _ _ _ _ [some (.ref 6), some (.int a1), some (.int a2), none] [] ((fl, n1, n2, false, q, ad), I, J)
        show ((nI 3) ≤ a1 → _) ∧ (¬ (nI 3) ≤ a1 → _)
        refine ⟨fun c2 => ?_, fun c2 => ?_⟩
        · exact (((h.2 c0).2.2 c1).1 c2)
        · show mm_b _ _ _ _ _ [some (.ref 6), some (.int a1), some (.int a2), none] [] ((fl, n1, n2, false, q, ad), I, J)
          show vp_in a1 3 ∧ _
          refine ⟨(((h.2 c0).2.2 c1).2 c2).1, ?_⟩
          exact (((h.2 c0).2.2 c1).2 c2).2
  · refine mm_go [17, 85, 100] 80 ?_
    show ((I 19 3) ≤ a2 → _) ∧ (¬ (I 19 3) ≤ a2 → _)
    refine ⟨fun c0 => ?_, fun c0 => ?_⟩
    · exact (h.1 c0)
    · show mm_b _ _ _ _ _ [some (.ref 6), some (.int a1), some (.int a2), none] [] ((fl, n1, n2, true, q, ad), I, J)
      show vp_in a2 10 ∧ _
      refine ⟨(h.2 c0).1, ?_⟩
      show mm_b _ _ _ _ _ [some (.ref 6), some (.int a1), some (.int a2), none] [.int (I 22 a2.toNatClampNeg)] ((fl, n1, n2, true, q, ad), I, J)
      show (¬ (I 22 a2.toNatClampNeg) = (nI 3) → _) ∧ ((I 22 a2.toNatClampNeg) = (nI 3) → _)
      refine ⟨fun c1 => ?_, fun c1 => ?_⟩
      · exact ((h.2 c0).2.1 c1)
      · show mm_b _ _ _ _ _ [some (.ref 6), some (.int a1), some (.int a2), none] [] ((fl, n1, n2, true, q, ad), I, J)
        show ((nI 3) ≤ a1 → _) ∧ (¬ (nI 3) ≤ a1 → _)
        refine ⟨fun c2 => ?_, fun c2 => ?_⟩
        · exact (((h.2 c0).2.2 c1).1 c2)
        · show mm_b _ _ _ _ _ [some (.ref 6), some (.int a1), some (.int a2), none] [] ((fl, n1, n2, true, q, ad), I, J)
          show vp_in a1 3 ∧ _
          refine ⟨(((h.2 c0).2.2 c1).2 c2).1, ?_⟩
          exact (((h.2 c0).2.2 c1).2 c2).2
theorem fx_4_85 {d : Nat} {a2 : Int32} {fl : Nat → Bool} {n1 n2 : Nat} {p q : Bool} {ad : Nat → Nat} {I : mmI} {J : mmJ} {Q : mmQ} (h : (((nI 8) ≤ a2 → Q none ((fl, n1, n2, p, q, ad), I, J)) ∧ (¬ (nI 8) ≤ a2 → (vp_in a2 8 ∧ mm_w Q (mm_wc d) bk_4 100 [some (.ref 6), none, some (.int a2), some (.int (nI 0))] [] ((fl, n1, n2, p, q, ad), (mm_up I 14 a2.toNatClampNeg (nI 0)), J))))) : mm_w Q (mm_wc (d)) bk_4 85 [some (.ref 6), none, some (.int a2), none] [] ((fl, n1, n2, p, q, ad), I, J) := by
  refine mm_go [17, 85, 100] 80 ?_
  show ((nI 8) ≤ a2 → _) ∧ (¬ (nI 8) ≤ a2 → _)
  refine ⟨fun c0 => ?_, fun c0 => ?_⟩
  · exact (h.1 c0)
  · show mm_b _ _ _ _ _ [some (.ref 6), none, some (.int a2), none] [] ((fl, n1, n2, p, q, ad), I, J)
    show vp_in a2 8 ∧ _
    refine ⟨(h.2 c0).1, ?_⟩
    exact (h.2 c0).2
theorem fx_4_100 {d : Nat} {a2 : Int32} {a3 : Int32} {fl : Nat → Bool} {n1 n2 : Nat} {p q : Bool} {ad : Nat → Nat} {I : mmI} {J : mmJ} {Q : mmQ} (h : (((nI 3) ≤ a3 → mm_w Q (mm_wc d) bk_4 85 [some (.ref 6), none, some (.int (a2 + (nI 1))), none] [] ((fl, n1, n2, p, q, ad), I, J)) ∧ (¬ (nI 3) ≤ a3 → ((((a2 >>> (a3 &&& 31)) &&& (nI 1)) = (nI 0) → mm_w Q (mm_wc d) bk_4 100 [some (.ref 6), none, some (.int a2), some (.int (a3 + (nI 1)))] [] ((fl, n1, n2, p, q, ad), I, J)) ∧ (¬ ((a2 >>> (a3 &&& 31)) &&& (nI 1)) = (nI 0) → (vp_in a2 8 ∧ (vp_in a3 3 ∧ (vp_in a2 8 ∧ mm_w Q (mm_wc d) bk_4 100 [some (.ref 6), none, some (.int a2), some (.int (a3 + (nI 1)))] [] ((fl, n1, n2, p, q, ad), (mm_up I 14 a2.toNatClampNeg ((I 14 a2.toNatClampNeg) ||| (I 13 a3.toNatClampNeg))), J))))))))) : mm_w Q (mm_wc (d)) bk_4 100 [some (.ref 6), none, some (.int a2), some (.int a3)] [] ((fl, n1, n2, p, q, ad), I, J) := by
  refine mm_go [17, 85, 100] 80 ?_
  show ((nI 3) ≤ a3 → _) ∧ (¬ (nI 3) ≤ a3 → _)
  refine ⟨fun c0 => ?_, fun c0 => ?_⟩
  · exact (h.1 c0)
  · show mm_b _ _ _ _ _ [some (.ref 6), none, some (.int a2), some (.int a3)] [] ((fl, n1, n2, p, q, ad), I, J)
    show (((a2 >>> (a3 &&& 31)) &&& (nI 1)) = (nI 0) → _) ∧ (¬ ((a2 >>> (a3 &&& 31)) &&& (nI 1)) = (nI 0) → _)
    refine ⟨fun c1 => ?_, fun c1 => ?_⟩
    · exact ((h.2 c0).1 c1)
    · show mm_b _ _ _ _ _ [some (.ref 6), none, some (.int a2), some (.int a3)] [] ((fl, n1, n2, p, q, ad), I, J)
      show vp_in a2 8 ∧ _
      refine ⟨((h.2 c0).2 c1).1, ?_⟩
      show mm_b _ _ _ _ _ [some (.ref 6), none, some (.int a2), some (.int a3)] [.int (I 14 a2.toNatClampNeg), .int a2, .ref 14] ((fl, n1, n2, p, q, ad), I, J)
      show vp_in a3 3 ∧ _
      refine ⟨((h.2 c0).2 c1).2.1, ?_⟩
      show mm_b _ _ _ _ _ [some (.ref 6), none, some (.int a2), some (.int a3)] [.int (I 13 a3.toNatClampNeg), .int (I 14 a2.toNatClampNeg), .int a2, .ref 14] ((fl, n1, n2, p, q, ad), I, J)
      show vp_in a2 8 ∧ _
      refine ⟨((h.2 c0).2 c1).2.2.1, ?_⟩
      exact ((h.2 c0).2 c1).2.2.2
/- 5 ThreeBreaths$Board findLit -/
theorem fx_5 {d : Nat} {fl : Nat → Bool} {n1 n2 : Nat} {p q : Bool} {ad : Nat → Nat} {I : mmI} {J : mmJ} {Q : mmQ} (h : mm_w Q (mm_wc d) bk_5 9 [some (.ref 6), some (.int (nI 0)), none, none] [] ((fl, n1, n2, p, q, ad), (mm_up I 12 0 (nI 0)), J)) : mm_wc (d + 1) 5 [.ref 6] ((fl, n1, n2, p, q, ad), I, J) Q := by
  refine mm_call (c := 5) rfl rfl ?_
  refine mm_go [9, 31] 80 ?_
  show (vp_in (nI 0) 1024) ∧ _
  refine ⟨(mm_inl (by decide)), ?_⟩
  exact h
theorem fx_5_9 {d : Nat} {a1 : Int32} {fl : Nat → Bool} {n1 n2 : Nat} {p q : Bool} {ad : Nat → Nat} {I : mmI} {J : mmJ} {Q : mmQ} (h : (((I (mm_ck p 1) 3) ≤ a1 → Q none ((fl, n1, n2, p, q, ad), I, J)) ∧ (¬ (I (mm_ck p 1) 3) ≤ a1 → mm_wc d 6 [.ref 6, .int a1] ((fl, 0, 0, p, q, ad), I, J) (fun v τ => ∃ r1 I1 J1, v = some (.int r1) ∧ τ = ((fl, 0, 0, p, q, ad), I1, J1) ∧ mm_w Q (mm_wc d) bk_5 31 [some (.ref 6), some (.int a1), some (.int r1), some (.int (nI 0))] [] ((fl, n1, n2, p, q, ad), I1, J1))))) : mm_w Q (mm_wc (d)) bk_5 9 [some (.ref 6), some (.int a1), none, none] [] ((fl, n1, n2, p, q, ad), I, J) := by
  cases p
  · refine mm_go [9, 31] 80 ?_
    show ((I 33 3) ≤ a1 → _) ∧ (¬ (I 33 3) ≤ a1 → _)
    refine ⟨fun c0 => ?_, fun c0 => ?_⟩
    · exact (h.1 c0)
    · show mm_b _ _ _ _ _ [some (.ref 6), some (.int a1), none, none] [] ((fl, n1, n2, false, q, ad), I, J)
      show mm_wc d 6 [.ref 6, .int a1] ((fl, 0, 0, false, q, ad), I, J) _
      refine mm_wcm (h.2 c0) ?_
      rintro v τ ⟨r1, I1, J1, rfl, rfl, h1⟩
      refine mm_r1' ⟨rfl, ?_⟩
      exact h1
  · refine mm_go [9, 31] 80 ?_
    show ((I 19 3) ≤ a1 → _) ∧ (¬ (I 19 3) ≤ a1 → _)
    refine ⟨fun c0 => ?_, fun c0 => ?_⟩
    · exact (h.1 c0)
    · show mm_b _ _ _ _ _ [some (.ref 6), some (.int a1), none, none] [] ((fl, n1, n2, true, q, ad), I, J)
      show mm_wc d 6 [.ref 6, .int a1] ((fl, 0, 0, true, q, ad), I, J) _
      refine mm_wcm (h.2 c0) ?_
      rintro v τ ⟨r1, I1, J1, rfl, rfl, h1⟩
      refine mm_r1' ⟨rfl, ?_⟩
      exact h1
theorem fx_5_31 {d : Nat} {a1 : Int32} {a2 : Int32} {a3 : Int32} {fl : Nat → Bool} {n1 n2 : Nat} {p q : Bool} {ad : Nat → Nat} {I : mmI} {J : mmJ} {Q : mmQ} (h : ((((nI 1) <<< (a1 &&& 31)) ≤ a3 → mm_w Q (mm_wc d) bk_5 9 [some (.ref 6), some (.int (a1 + (nI 1))), none, none] [] ((fl, n1, n2, p, q, ad), I, J)) ∧ (¬ ((nI 1) <<< (a1 &&& 31)) ≤ a3 → (vp_in a3 1024 ∧ (vp_in (((nI 1) <<< (a1 &&& 31)) ||| a3) 1024 ∧ mm_w Q (mm_wc d) bk_5 31 [some (.ref 6), some (.int a1), some (.int a2), some (.int (a3 + (nI 1)))] [] ((fl, n1, n2, p, q, ad), (mm_up I 12 ((((nI 1) <<< (a1 &&& 31)) ||| a3)).toNatClampNeg (a2 ||| (I 12 a3.toNatClampNeg))), J)))))) : mm_w Q (mm_wc (d)) bk_5 31 [some (.ref 6), some (.int a1), some (.int a2), some (.int a3)] [] ((fl, n1, n2, p, q, ad), I, J) := by
  refine mm_go [9, 31] 80 ?_
  show (((nI 1) <<< (a1 &&& 31)) ≤ a3 → _) ∧ (¬ ((nI 1) <<< (a1 &&& 31)) ≤ a3 → _)
  refine ⟨fun c0 => ?_, fun c0 => ?_⟩
  · exact (h.1 c0)
  · show mm_b _ _ _ _ _ [some (.ref 6), some (.int a1), some (.int a2), some (.int a3)] [] ((fl, n1, n2, p, q, ad), I, J)
    show vp_in a3 1024 ∧ _
    refine ⟨(h.2 c0).1, ?_⟩
    show mm_b _ _ _ _ _ [some (.ref 6), some (.int a1), some (.int a2), some (.int a3)] [.int (I 12 a3.toNatClampNeg), .int a2, .int (((nI 1) <<< (a1 &&& 31)) ||| a3), .ref 12] ((fl, n1, n2, p, q, ad), I, J)
    show vp_in (((nI 1) <<< (a1 &&& 31)) ||| a3) 1024 ∧ _
    refine ⟨(h.2 c0).2.1, ?_⟩
    exact (h.2 c0).2.2
/- 6 ThreeBreaths$Board litBy -/
theorem fx_6 {d : Nat} {x0 : Int32} {fl : Nat → Bool} {n1 n2 : Nat} {p q : Bool} {ad : Nat → Nat} {I : mmI} {J : mmJ} {Q : mmQ} (h : mm_w Q (mm_wc d) bk_6 4 [some (.ref 6), some (.int x0), some (.int (nI 0)), some (.int (nI 0))] [] ((fl, n1, n2, p, q, ad), I, J)) : mm_wc (d + 1) 6 [.ref 6, .int x0] ((fl, n1, n2, p, q, ad), I, J) Q := by
  refine mm_call (c := 6) rfl rfl ?_
  refine mm_go [4] 80 ?_
  exact h
theorem fx_6_4 {d : Nat} {a1 : Int32} {a2 : Int32} {a3 : Int32} {fl : Nat → Bool} {n1 n2 : Nat} {p q : Bool} {ad : Nat → Nat} {I : mmI} {J : mmJ} {Q : mmQ} (h : (((I (mm_ck p 1) 3) ≤ a3 → Q (some (.int a2)) ((fl, n1, n2, p, q, ad), I, J)) ∧ (¬ (I (mm_ck p 1) 3) ≤ a3 → ((a3 = a1 → mm_w Q (mm_wc d) bk_6 4 [some (.ref 6), some (.int a1), some (.int a2), some (.int (a3 + (nI 1)))] [] ((fl, n1, n2, p, q, ad), I, J)) ∧ (¬ a3 = a1 → (vp_in a3 10 ∧ ((¬ (I (mm_ck p 4) a3.toNatClampNeg) = (nI 2) → mm_w Q (mm_wc d) bk_6 4 [some (.ref 6), some (.int a1), some (.int a2), some (.int (a3 + (nI 1)))] [] ((fl, n1, n2, p, q, ad), I, J)) ∧ ((I (mm_ck p 4) a3.toNatClampNeg) = (nI 2) → (vp_in a1 10 ∧ (vp_in a1 10 ∧ mm_wc d 7 [.ref 6, .int a3, .int (I (mm_ck p 2) a1.toNatClampNeg), .int (I (mm_ck p 3) a1.toNatClampNeg)] ((fl, 0, 0, p, q, ad), I, J) (fun v τ => ∃ r1 I1 J1, v = some (.int r1) ∧ τ = ((fl, 0, 0, p, q, ad), I1, J1) ∧ ((r1 = (nI 0) → mm_w Q (mm_wc d) bk_6 4 [some (.ref 6), some (.int a1), some (.int a2), some (.int (a3 + (nI 1)))] [] ((fl, n1, n2, p, q, ad), I1, J1)) ∧ (¬ r1 = (nI 0) → mm_w Q (mm_wc d) bk_6 4 [some (.ref 6), some (.int a1), some (.int (a2 ||| ((nI 1) <<< (a3 &&& 31)))), some (.int (a3 + (nI 1)))] [] ((fl, n1, n2, p, q, ad), I1, J1)))))))))))))) : mm_w Q (mm_wc (d)) bk_6 4 [some (.ref 6), some (.int a1), some (.int a2), some (.int a3)] [] ((fl, n1, n2, p, q, ad), I, J) := by
  cases p
  · refine mm_go [4] 80 ?_
    show ((I 33 3) ≤ a3 → _) ∧ (¬ (I 33 3) ≤ a3 → _)
    refine ⟨fun c0 => ?_, fun c0 => ?_⟩
    · exact (h.1 c0)
    · show mm_b _ _ _ _ _ [some (.ref 6), some (.int a1), some (.int a2), some (.int a3)] [] ((fl, n1, n2, false, q, ad), I, J)
      show (a3 = a1 → _) ∧ (¬ a3 = a1 → _)
      refine ⟨fun c1 => ?_, fun c1 => ?_⟩
      · exact ((h.2 c0).1 c1)
      · show mm_b _ _ _ _ _ [some (.ref 6), some (.int a1), some (.int a2), some (.int a3)] [] ((fl, n1, n2, false, q, ad), I, J)
        show vp_in a3 10 ∧ _
        refine ⟨((h.2 c0).2 c1).1, ?_⟩
        show mm_b _ _ _ _ _ [some (.ref 6), some (.int a1), some (.int a2), some (.int a3)] [.int (I 36 a3.toNatClampNeg)] ((fl, n1, n2, false, q, ad), I, J)
        show (¬ (I 36 a3.toNatClampNeg) = (nI 2) → _) ∧ ((I 36 a3.toNatClampNeg) = (nI 2) → _)
        refine ⟨fun c2 => ?_, fun c2 => ?_⟩
        · exact (((h.2 c0).2 c1).2.1 c2)
        · show mm_b _ _ _ _ _ [some (.ref 6), some (.int a1), some (.int a2), some (.int a3)] [] ((fl, n1, n2, false, q, ad), I, J)
          show vp_in a1 10 ∧ _
          refine ⟨(((h.2 c0).2 c1).2.2 c2).1, ?_⟩
          show mm_b _ _ _ _ _ [some (.ref 6), some (.int a1), some (.int a2), some (.int a3)] [.int (I 34 a1.toNatClampNeg), .int a3, .ref 6] ((fl, n1, n2, false, q, ad), I, J)
          show vp_in a1 10 ∧ _
          refine ⟨(((h.2 c0).2 c1).2.2 c2).2.1, ?_⟩
          show mm_b _ _ _ _ _ [some (.ref 6), some (.int a1), some (.int a2), some (.int a3)] [.int (I 35 a1.toNatClampNeg), .int (I 34 a1.toNatClampNeg), .int a3, .ref 6] ((fl, n1, n2, false, q, ad), I, J)
          show mm_wc d 7 [.ref 6, .int a3, .int (I 34 a1.toNatClampNeg), .int (I 35 a1.toNatClampNeg)] ((fl, 0, 0, false, q, ad), I, J) _
          refine mm_wcm ((((h.2 c0).2 c1).2.2 c2).2.2) ?_
          rintro v τ ⟨r1, I1, J1, rfl, rfl, h1⟩
          refine mm_r1' ⟨rfl, ?_⟩
          show mm_b _ _ _ _ _ [some (.ref 6), some (.int a1), some (.int a2), some (.int a3)] [.int r1] ((fl, n1, n2, false, q, ad), I1, J1)
          show (r1 = (nI 0) → _) ∧ (¬ r1 = (nI 0) → _)
          refine ⟨fun c3 => ?_, fun c3 => ?_⟩
          · exact (h1.1 c3)
          · exact (h1.2 c3)
  · refine mm_go [4] 80 ?_
    show ((I 19 3) ≤ a3 → _) ∧ (¬ (I 19 3) ≤ a3 → _)
    refine ⟨fun c0 => ?_, fun c0 => ?_⟩
    · exact (h.1 c0)
    · show mm_b _ _ _ _ _ [some (.ref 6), some (.int a1), some (.int a2), some (.int a3)] [] ((fl, n1, n2, true, q, ad), I, J)
      show (a3 = a1 → _) ∧ (¬ a3 = a1 → _)
      refine ⟨fun c1 => ?_, fun c1 => ?_⟩
      · exact ((h.2 c0).1 c1)
      · show mm_b _ _ _ _ _ [some (.ref 6), some (.int a1), some (.int a2), some (.int a3)] [] ((fl, n1, n2, true, q, ad), I, J)
        show vp_in a3 10 ∧ _
        refine ⟨((h.2 c0).2 c1).1, ?_⟩
        show mm_b _ _ _ _ _ [some (.ref 6), some (.int a1), some (.int a2), some (.int a3)] [.int (I 22 a3.toNatClampNeg)] ((fl, n1, n2, true, q, ad), I, J)
        show (¬ (I 22 a3.toNatClampNeg) = (nI 2) → _) ∧ ((I 22 a3.toNatClampNeg) = (nI 2) → _)
        refine ⟨fun c2 => ?_, fun c2 => ?_⟩
        · exact (((h.2 c0).2 c1).2.1 c2)
        · show mm_b _ _ _ _ _ [some (.ref 6), some (.int a1), some (.int a2), some (.int a3)] [] ((fl, n1, n2, true, q, ad), I, J)
          show vp_in a1 10 ∧ _
          refine ⟨(((h.2 c0).2 c1).2.2 c2).1, ?_⟩
          show mm_b _ _ _ _ _ [some (.ref 6), some (.int a1), some (.int a2), some (.int a3)] [.int (I 20 a1.toNatClampNeg), .int a3, .ref 6] ((fl, n1, n2, true, q, ad), I, J)
          show vp_in a1 10 ∧ _
          refine ⟨(((h.2 c0).2 c1).2.2 c2).2.1, ?_⟩
          show mm_b _ _ _ _ _ [some (.ref 6), some (.int a1), some (.int a2), some (.int a3)] [.int (I 21 a1.toNatClampNeg), .int (I 20 a1.toNatClampNeg), .int a3, .ref 6] ((fl, n1, n2, true, q, ad), I, J)
          show mm_wc d 7 [.ref 6, .int a3, .int (I 20 a1.toNatClampNeg), .int (I 21 a1.toNatClampNeg)] ((fl, 0, 0, true, q, ad), I, J) _
          refine mm_wcm ((((h.2 c0).2 c1).2.2 c2).2.2) ?_
          rintro v τ ⟨r1, I1, J1, rfl, rfl, h1⟩
          refine mm_r1' ⟨rfl, ?_⟩
          show mm_b _ _ _ _ _ [some (.ref 6), some (.int a1), some (.int a2), some (.int a3)] [.int r1] ((fl, n1, n2, true, q, ad), I1, J1)
          show (r1 = (nI 0) → _) ∧ (¬ r1 = (nI 0) → _)
          refine ⟨fun c3 => ?_, fun c3 => ?_⟩
          · exact (h1.1 c3)
          · exact (h1.2 c3)
/- 7 ThreeBreaths$Board isNear -/
theorem fx_7 {d : Nat} {x0 : Int32} {x1 : Int32} {x2 : Int32} {fl : Nat → Bool} {n1 n2 : Nat} {p q : Bool} {ad : Nat → Nat} {I : mmI} {J : mmJ} {Q : mmQ} (h : (vp_in x0 10 ∧ (vp_in x0 10 ∧ ((((I (mm_ck p 0) 7) * (I (mm_ck p 0) 7)) < ((((I (mm_ck p 2) x0.toNatClampNeg) - x1) * ((I (mm_ck p 2) x0.toNatClampNeg) - x1)) + (((I (mm_ck p 3) x0.toNatClampNeg) - x2) * ((I (mm_ck p 3) x0.toNatClampNeg) - x2))) → Q (some (.int (nI 0))) ((fl, n1, n2, p, q, ad), I, J)) ∧ (¬ ((I (mm_ck p 0) 7) * (I (mm_ck p 0) 7)) < ((((I (mm_ck p 2) x0.toNatClampNeg) - x1) * ((I (mm_ck p 2) x0.toNatClampNeg) - x1)) + (((I (mm_ck p 3) x0.toNatClampNeg) - x2) * ((I (mm_ck p 3) x0.toNatClampNeg) - x2))) → Q (some (.int (nI 1))) ((fl, n1, n2, p, q, ad), I, J)))))) : mm_wc (d + 1) 7 [.ref 6, .int x0, .int x1, .int x2] ((fl, n1, n2, p, q, ad), I, J) Q := by
  cases p
  · refine mm_call (c := 7) rfl rfl ?_
    refine mm_go [] 80 ?_
    show vp_in x0 10 ∧ _
    refine ⟨h.1, ?_⟩
    show mm_b _ _ _ _ _ [some (.ref 6), some (.int x0), some (.int x1), some (.int x2), none, none] [.int (I 34 x0.toNatClampNeg)] ((fl, n1, n2, false, q, ad), I, J)
    show vp_in x0 10 ∧ _
    refine ⟨h.2.1, ?_⟩
    show mm_b _ _ _ _ _ [some (.ref 6), some (.int x0), some (.int x1), some (.int x2), some (.int ((I 34 x0.toNatClampNeg) - x1)), none] [.int (I 35 x0.toNatClampNeg)] ((fl, n1, n2, false, q, ad), I, J)
    show (((I 32 7) * (I 32 7)) < ((((I 34 x0.toNatClampNeg) - x1) * ((I 34 x0.toNatClampNeg) - x1)) + (((I 35 x0.toNatClampNeg) - x2) * ((I 35 x0.toNatClampNeg) - x2))) → _) ∧ (¬ ((I 32 7) * (I 32 7)) < ((((I 34 x0.toNatClampNeg) - x1) * ((I 34 x0.toNatClampNeg) - x1)) + (((I 35 x0.toNatClampNeg) - x2) * ((I 35 x0.toNatClampNeg) - x2))) → _)
    refine ⟨fun c0 => ?_, fun c0 => ?_⟩
    · show mm_u _ _ _ _ _ _ [some (.ref 6), some (.int x0), some (.int x1), some (.int x2), some (.int ((I 34 x0.toNatClampNeg) - x1)), some (.int ((I 35 x0.toNatClampNeg) - x2))] [] ((fl, n1, n2, false, q, ad), I, J)
      show (((nI 0) : Int32) = 0 ∨ ((nI 0) : Int32) = 1) ∧ _
      refine ⟨(by decide), ?_⟩
      exact (h.2.2.1 c0)
    · show mm_b _ _ _ _ _ [some (.ref 6), some (.int x0), some (.int x1), some (.int x2), some (.int ((I 34 x0.toNatClampNeg) - x1)), some (.int ((I 35 x0.toNatClampNeg) - x2))] [] ((fl, n1, n2, false, q, ad), I, J)
      show (((nI 1) : Int32) = 0 ∨ ((nI 1) : Int32) = 1) ∧ _
      refine ⟨(by decide), ?_⟩
      exact (h.2.2.2 c0)
  · refine mm_call (c := 7) rfl rfl ?_
    refine mm_go [] 80 ?_
    show vp_in x0 10 ∧ _
    refine ⟨h.1, ?_⟩
    show mm_b _ _ _ _ _ [some (.ref 6), some (.int x0), some (.int x1), some (.int x2), none, none] [.int (I 20 x0.toNatClampNeg)] ((fl, n1, n2, true, q, ad), I, J)
    show vp_in x0 10 ∧ _
    refine ⟨h.2.1, ?_⟩
    show mm_b _ _ _ _ _ [some (.ref 6), some (.int x0), some (.int x1), some (.int x2), some (.int ((I 20 x0.toNatClampNeg) - x1)), none] [.int (I 21 x0.toNatClampNeg)] ((fl, n1, n2, true, q, ad), I, J)
    show (((I 18 7) * (I 18 7)) < ((((I 20 x0.toNatClampNeg) - x1) * ((I 20 x0.toNatClampNeg) - x1)) + (((I 21 x0.toNatClampNeg) - x2) * ((I 21 x0.toNatClampNeg) - x2))) → _) ∧ (¬ ((I 18 7) * (I 18 7)) < ((((I 20 x0.toNatClampNeg) - x1) * ((I 20 x0.toNatClampNeg) - x1)) + (((I 21 x0.toNatClampNeg) - x2) * ((I 21 x0.toNatClampNeg) - x2))) → _)
    refine ⟨fun c0 => ?_, fun c0 => ?_⟩
    · show mm_u _ _ _ _ _ _ [some (.ref 6), some (.int x0), some (.int x1), some (.int x2), some (.int ((I 20 x0.toNatClampNeg) - x1)), some (.int ((I 21 x0.toNatClampNeg) - x2))] [] ((fl, n1, n2, true, q, ad), I, J)
      show (((nI 0) : Int32) = 0 ∨ ((nI 0) : Int32) = 1) ∧ _
      refine ⟨(by decide), ?_⟩
      exact (h.2.2.1 c0)
    · show mm_b _ _ _ _ _ [some (.ref 6), some (.int x0), some (.int x1), some (.int x2), some (.int ((I 20 x0.toNatClampNeg) - x1)), some (.int ((I 21 x0.toNatClampNeg) - x2))] [] ((fl, n1, n2, true, q, ad), I, J)
      show (((nI 1) : Int32) = 0 ∨ ((nI 1) : Int32) = 1) ∧ _
      refine ⟨(by decide), ?_⟩
      exact (h.2.2.2 c0)
/- 8 ThreeBreaths$Board lightersOf -/
theorem fx_8 {d : Nat} {x0 : Int32} {fl : Nat → Bool} {n1 n2 : Nat} {p q : Bool} {ad : Nat → Nat} {I : mmI} {J : mmJ} {Q : mmQ} (h : (vp_in x0 10 ∧ (((I (mm_ck p 4) x0.toNatClampNeg) = (nI 2) → mm_w Q (mm_wc d) bk_8 19 [some (.ref 6), some (.int x0), some (.int (nI 0)), some (.int (nI 0))] [] ((fl, n1, n2, p, q, ad), I, J)) ∧ (¬ (I (mm_ck p 4) x0.toNatClampNeg) = (nI 2) → Q (some (.int (nI 0))) ((fl, n1, n2, p, q, ad), I, J))))) : mm_wc (d + 1) 8 [.ref 6, .int x0] ((fl, n1, n2, p, q, ad), I, J) Q := by
  cases p
  · refine mm_call (c := 8) rfl rfl ?_
    refine mm_go [19] 80 ?_
    show vp_in x0 10 ∧ _
    refine ⟨h.1, ?_⟩
    show mm_b _ _ _ _ _ [some (.ref 6), some (.int x0), some (.int (nI 0)), none] [.int (I 36 x0.toNatClampNeg)] ((fl, n1, n2, false, q, ad), I, J)
    show ((I 36 x0.toNatClampNeg) = (nI 2) → _) ∧ (¬ (I 36 x0.toNatClampNeg) = (nI 2) → _)
    refine ⟨fun c0 => ?_, fun c0 => ?_⟩
    · exact (h.2.1 c0)
    · exact (h.2.2 c0)
  · refine mm_call (c := 8) rfl rfl ?_
    refine mm_go [19] 80 ?_
    show vp_in x0 10 ∧ _
    refine ⟨h.1, ?_⟩
    show mm_b _ _ _ _ _ [some (.ref 6), some (.int x0), some (.int (nI 0)), none] [.int (I 22 x0.toNatClampNeg)] ((fl, n1, n2, true, q, ad), I, J)
    show ((I 22 x0.toNatClampNeg) = (nI 2) → _) ∧ (¬ (I 22 x0.toNatClampNeg) = (nI 2) → _)
    refine ⟨fun c0 => ?_, fun c0 => ?_⟩
    · exact (h.2.1 c0)
    · exact (h.2.2 c0)
theorem fx_8_19 {d : Nat} {a1 : Int32} {a2 : Int32} {a3 : Int32} {fl : Nat → Bool} {n1 n2 : Nat} {p q : Bool} {ad : Nat → Nat} {I : mmI} {J : mmJ} {Q : mmQ} (h : (((I (mm_ck p 1) 3) ≤ a3 → Q (some (.int a2)) ((fl, n1, n2, p, q, ad), I, J)) ∧ (¬ (I (mm_ck p 1) 3) ≤ a3 → ((a3 = a1 → mm_w Q (mm_wc d) bk_8 19 [some (.ref 6), some (.int a1), some (.int a2), some (.int (a3 + (nI 1)))] [] ((fl, n1, n2, p, q, ad), I, J)) ∧ (¬ a3 = a1 → (vp_in a3 10 ∧ (vp_in a3 10 ∧ mm_wc d 7 [.ref 6, .int a1, .int (I (mm_ck p 2) a3.toNatClampNeg), .int (I (mm_ck p 3) a3.toNatClampNeg)] ((fl, 0, 0, p, q, ad), I, J) (fun v τ => ∃ r1 I1 J1, v = some (.int r1) ∧ τ = ((fl, 0, 0, p, q, ad), I1, J1) ∧ ((r1 = (nI 0) → mm_w Q (mm_wc d) bk_8 19 [some (.ref 6), some (.int a1), some (.int a2), some (.int (a3 + (nI 1)))] [] ((fl, n1, n2, p, q, ad), I1, J1)) ∧ (¬ r1 = (nI 0) → mm_w Q (mm_wc d) bk_8 19 [some (.ref 6), some (.int a1), some (.int (a2 ||| ((nI 1) <<< (a3 &&& 31)))), some (.int (a3 + (nI 1)))] [] ((fl, n1, n2, p, q, ad), I1, J1))))))))))) : mm_w Q (mm_wc (d)) bk_8 19 [some (.ref 6), some (.int a1), some (.int a2), some (.int a3)] [] ((fl, n1, n2, p, q, ad), I, J) := by
  cases p
  · refine mm_go [19] 80 ?_
    show ((I 33 3) ≤ a3 → _) ∧ (¬ (I 33 3) ≤ a3 → _)
    refine ⟨fun c0 => ?_, fun c0 => ?_⟩
    · exact (h.1 c0)
    · show mm_b _ _ _ _ _ [some (.ref 6), some (.int a1), some (.int a2), some (.int a3)] [] ((fl, n1, n2, false, q, ad), I, J)
      show (a3 = a1 → _) ∧ (¬ a3 = a1 → _)
      refine ⟨fun c1 => ?_, fun c1 => ?_⟩
      · exact ((h.2 c0).1 c1)
      · show mm_b _ _ _ _ _ [some (.ref 6), some (.int a1), some (.int a2), some (.int a3)] [] ((fl, n1, n2, false, q, ad), I, J)
        show vp_in a3 10 ∧ _
        refine ⟨((h.2 c0).2 c1).1, ?_⟩
        show mm_b _ _ _ _ _ [some (.ref 6), some (.int a1), some (.int a2), some (.int a3)] [.int (I 34 a3.toNatClampNeg), .int a1, .ref 6] ((fl, n1, n2, false, q, ad), I, J)
        show vp_in a3 10 ∧ _
        refine ⟨((h.2 c0).2 c1).2.1, ?_⟩
        show mm_b _ _ _ _ _ [some (.ref 6), some (.int a1), some (.int a2), some (.int a3)] [.int (I 35 a3.toNatClampNeg), .int (I 34 a3.toNatClampNeg), .int a1, .ref 6] ((fl, n1, n2, false, q, ad), I, J)
        show mm_wc d 7 [.ref 6, .int a1, .int (I 34 a3.toNatClampNeg), .int (I 35 a3.toNatClampNeg)] ((fl, 0, 0, false, q, ad), I, J) _
        refine mm_wcm (((h.2 c0).2 c1).2.2) ?_
        rintro v τ ⟨r1, I1, J1, rfl, rfl, h1⟩
        refine mm_r1' ⟨rfl, ?_⟩
        show mm_b _ _ _ _ _ [some (.ref 6), some (.int a1), some (.int a2), some (.int a3)] [.int r1] ((fl, n1, n2, false, q, ad), I1, J1)
        show (r1 = (nI 0) → _) ∧ (¬ r1 = (nI 0) → _)
        refine ⟨fun c2 => ?_, fun c2 => ?_⟩
        · exact (h1.1 c2)
        · exact (h1.2 c2)
  · refine mm_go [19] 80 ?_
    show ((I 19 3) ≤ a3 → _) ∧ (¬ (I 19 3) ≤ a3 → _)
    refine ⟨fun c0 => ?_, fun c0 => ?_⟩
    · exact (h.1 c0)
    · show mm_b _ _ _ _ _ [some (.ref 6), some (.int a1), some (.int a2), some (.int a3)] [] ((fl, n1, n2, true, q, ad), I, J)
      show (a3 = a1 → _) ∧ (¬ a3 = a1 → _)
      refine ⟨fun c1 => ?_, fun c1 => ?_⟩
      · exact ((h.2 c0).1 c1)
      · show mm_b _ _ _ _ _ [some (.ref 6), some (.int a1), some (.int a2), some (.int a3)] [] ((fl, n1, n2, true, q, ad), I, J)
        show vp_in a3 10 ∧ _
        refine ⟨((h.2 c0).2 c1).1, ?_⟩
        show mm_b _ _ _ _ _ [some (.ref 6), some (.int a1), some (.int a2), some (.int a3)] [.int (I 20 a3.toNatClampNeg), .int a1, .ref 6] ((fl, n1, n2, true, q, ad), I, J)
        show vp_in a3 10 ∧ _
        refine ⟨((h.2 c0).2 c1).2.1, ?_⟩
        show mm_b _ _ _ _ _ [some (.ref 6), some (.int a1), some (.int a2), some (.int a3)] [.int (I 21 a3.toNatClampNeg), .int (I 20 a3.toNatClampNeg), .int a1, .ref 6] ((fl, n1, n2, true, q, ad), I, J)
        show mm_wc d 7 [.ref 6, .int a1, .int (I 20 a3.toNatClampNeg), .int (I 21 a3.toNatClampNeg)] ((fl, 0, 0, true, q, ad), I, J) _
        refine mm_wcm (((h.2 c0).2 c1).2.2) ?_
        rintro v τ ⟨r1, I1, J1, rfl, rfl, h1⟩
        refine mm_r1' ⟨rfl, ?_⟩
        show mm_b _ _ _ _ _ [some (.ref 6), some (.int a1), some (.int a2), some (.int a3)] [.int r1] ((fl, n1, n2, true, q, ad), I1, J1)
        show (r1 = (nI 0) → _) ∧ (¬ r1 = (nI 0) → _)
        refine ⟨fun c2 => ?_, fun c2 => ?_⟩
        · exact (h1.1 c2)
        · exact (h1.2 c2)
/- 9 ThreeBreaths$Board breathBy -/
theorem fx_9 {d : Nat} {x0 : Int32} {x1 : Int32} {x2 : Int32} {fl : Nat → Bool} {n1 n2 : Nat} {p q : Bool} {ad : Nat → Nat} {I : mmI} {J : mmJ} {Q : mmQ} (h : Q (some (.int (((nI 16) * (((I (mm_ck p 5) 3) * x0) + x1)) + x2))) ((fl, n1, n2, p, q, ad), I, J)) : mm_wc (d + 1) 9 [.ref 6, .int x0, .int x1, .int x2] ((fl, n1, n2, p, q, ad), I, J) Q := by
  cases p
  · refine mm_call (c := 9) rfl rfl ?_
    refine mm_go [] 80 ?_
    exact h
  · refine mm_call (c := 9) rfl rfl ?_
    refine mm_go [] 80 ?_
    exact h
/- 10 ThreeBreaths$Board wayOf -/
theorem fx_10 {d : Nat} {x0 : Int32} {fl : Nat → Bool} {n1 n2 : Nat} {p q : Bool} {ad : Nat → Nat} {I : mmI} {J : mmJ} {Q : mmQ} (h : Q (some (.int (x0 - x0 / (nI 16) * (nI 16)))) ((fl, n1, n2, p, q, ad), I, J)) : mm_wc (d + 1) 10 [.ref 6, .int x0] ((fl, n1, n2, p, q, ad), I, J) Q := by
  refine mm_call (c := 10) rfl rfl ?_
  refine mm_go [] 80 ?_
  show (¬ ((nI 16) : Int32) = 0) ∧ _
  refine ⟨(by decide), ?_⟩
  exact h
/- 11 ThreeBreaths$Board placeOf -/
theorem fx_11 {d : Nat} {x0 : Int32} {fl : Nat → Bool} {n1 n2 : Nat} {p q : Bool} {ad : Nat → Nat} {I : mmI} {J : mmJ} {Q : mmQ} (h : ((¬ (I (mm_ck p 5) 3) = (nI 0) → (¬ (I (mm_ck p 5) 3) = 0 ∧ Q (some (.int ((x0 / (nI 16)) - (x0 / (nI 16)) / (I (mm_ck p 5) 3) * (I (mm_ck p 5) 3)))) ((fl, n1, n2, p, q, ad), I, J))) ∧ ((I (mm_ck p 5) 3) = (nI 0) → Q (some (.int (nI 0))) ((fl, n1, n2, p, q, ad), I, J)))) : mm_wc (d + 1) 11 [.ref 6, .int x0] ((fl, n1, n2, p, q, ad), I, J) Q := by
  cases p
  · refine mm_call (c := 11) rfl rfl ?_
    refine mm_go [] 80 ?_
    show (¬ (I 37 3) = (nI 0) → _) ∧ ((I 37 3) = (nI 0) → _)
    refine ⟨fun c0 => ?_, fun c0 => ?_⟩
    · show mm_u _ _ _ _ _ _ [some (.ref 6), some (.int x0)] [] ((fl, n1, n2, false, q, ad), I, J)
      show (¬ ((nI 16) : Int32) = 0) ∧ _
      refine ⟨(by decide), ?_⟩
      show mm_b _ _ _ _ _ [some (.ref 6), some (.int x0)] [.int (x0 / (nI 16))] ((fl, n1, n2, false, q, ad), I, J)
      show ¬ (I 37 3) = 0 ∧ _
      refine ⟨(h.1 c0).1, ?_⟩
      exact (h.1 c0).2
    · exact (h.2 c0)
  · refine mm_call (c := 11) rfl rfl ?_
    refine mm_go [] 80 ?_
    show (¬ (I 23 3) = (nI 0) → _) ∧ ((I 23 3) = (nI 0) → _)
    refine ⟨fun c0 => ?_, fun c0 => ?_⟩
    · show mm_u _ _ _ _ _ _ [some (.ref 6), some (.int x0)] [] ((fl, n1, n2, true, q, ad), I, J)
      show (¬ ((nI 16) : Int32) = 0) ∧ _
      refine ⟨(by decide), ?_⟩
      show mm_b _ _ _ _ _ [some (.ref 6), some (.int x0)] [.int (x0 / (nI 16))] ((fl, n1, n2, true, q, ad), I, J)
      show ¬ (I 23 3) = 0 ∧ _
      refine ⟨(h.1 c0).1, ?_⟩
      exact (h.1 c0).2
    · exact (h.2 c0)
/- 12 ThreeBreaths$Board personOf -/
theorem fx_12 {d : Nat} {x0 : Int32} {fl : Nat → Bool} {n1 n2 : Nat} {p q : Bool} {ad : Nat → Nat} {I : mmI} {J : mmJ} {Q : mmQ} (h : ((¬ (I (mm_ck p 5) 3) = (nI 0) → (¬ (I (mm_ck p 5) 3) = 0 ∧ Q (some (.int ((x0 / (nI 16)) / (I (mm_ck p 5) 3)))) ((fl, n1, n2, p, q, ad), I, J))) ∧ ((I (mm_ck p 5) 3) = (nI 0) → Q (some (.int (nI 0))) ((fl, n1, n2, p, q, ad), I, J)))) : mm_wc (d + 1) 12 [.ref 6, .int x0] ((fl, n1, n2, p, q, ad), I, J) Q := by
  cases p
  · refine mm_call (c := 12) rfl rfl ?_
    refine mm_go [] 80 ?_
    show (¬ (I 37 3) = (nI 0) → _) ∧ ((I 37 3) = (nI 0) → _)
    refine ⟨fun c0 => ?_, fun c0 => ?_⟩
    · show mm_u _ _ _ _ _ _ [some (.ref 6), some (.int x0)] [] ((fl, n1, n2, false, q, ad), I, J)
      show (¬ ((nI 16) : Int32) = 0) ∧ _
      refine ⟨(by decide), ?_⟩
      show mm_b _ _ _ _ _ [some (.ref 6), some (.int x0)] [.int (x0 / (nI 16))] ((fl, n1, n2, false, q, ad), I, J)
      show ¬ (I 37 3) = 0 ∧ _
      refine ⟨(h.1 c0).1, ?_⟩
      exact (h.1 c0).2
    · exact (h.2 c0)
  · refine mm_call (c := 12) rfl rfl ?_
    refine mm_go [] 80 ?_
    show (¬ (I 23 3) = (nI 0) → _) ∧ ((I 23 3) = (nI 0) → _)
    refine ⟨fun c0 => ?_, fun c0 => ?_⟩
    · show mm_u _ _ _ _ _ _ [some (.ref 6), some (.int x0)] [] ((fl, n1, n2, true, q, ad), I, J)
      show (¬ ((nI 16) : Int32) = 0) ∧ _
      refine ⟨(by decide), ?_⟩
      show mm_b _ _ _ _ _ [some (.ref 6), some (.int x0)] [.int (x0 / (nI 16))] ((fl, n1, n2, true, q, ad), I, J)
      show ¬ (I 23 3) = 0 ∧ _
      refine ⟨(h.1 c0).1, ?_⟩
      exact (h.1 c0).2
    · exact (h.2 c0)
/- 13 ThreeBreaths$Board unlikeFansWithCandles -/
theorem fx_13 {d : Nat} {fl : Nat → Bool} {n1 n2 : Nat} {p q : Bool} {ad : Nat → Nat} {I : mmI} {J : mmJ} {Q : mmQ} (h : ((¬ (I 11 0) = (nI 0) → Q (some (.int ((I 6 7) - (nI 1)))) ((fl, n1, n2, p, q, ad), I, J)) ∧ ((I 11 0) = (nI 0) → Q (some (.int (I 6 7))) ((fl, n1, n2, p, q, ad), I, J)))) : mm_wc (d + 1) 13 [.ref 6] ((fl, n1, n2, p, q, ad), I, J) Q := by
  refine mm_call (c := 13) rfl rfl ?_
  refine mm_go [] 80 ?_
  show (vp_in (nI 0) 1024) ∧ _
  refine ⟨(mm_inl (by decide)), ?_⟩
  show mm_b _ _ _ _ _ [some (.ref 6)] [.int (I 11 0)] ((fl, n1, n2, p, q, ad), I, J)
  show (¬ (I 11 0) = (nI 0) → _) ∧ ((I 11 0) = (nI 0) → _)
  refine ⟨fun c0 => ?_, fun c0 => ?_⟩
  · exact (h.1 c0)
  · exact (h.2 c0)
/- 14 ThreeBreaths$Board outOfAllFans -/
theorem fx_14 {d : Nat} {fl : Nat → Bool} {n1 n2 : Nat} {p q : Bool} {ad : Nat → Nat} {I : mmI} {J : mmJ} {Q : mmQ} (h : mm_w Q (mm_wc d) bk_14 4 [some (.ref 6), some (.int (nI 0)), some (.int (nI 0))] [] ((fl, n1, n2, p, q, ad), I, J)) : mm_wc (d + 1) 14 [.ref 6] ((fl, n1, n2, p, q, ad), I, J) Q := by
  refine mm_call (c := 14) rfl rfl ?_
  refine mm_go [4] 80 ?_
  exact h
theorem fx_14_4 {d : Nat} {a1 : Int32} {a2 : Int32} {fl : Nat → Bool} {n1 n2 : Nat} {p q : Bool} {ad : Nat → Nat} {I : mmI} {J : mmJ} {Q : mmQ} (h : (((I 6 7) ≤ a2 → mm_wc d 15 [.ref 6] ((fl, 0, 0, p, q, ad), I, J) (fun v τ => ∃ r1 I1 J1, v = some (.int r1) ∧ τ = ((fl, 0, 0, p, q, ad), I1, J1) ∧ Q (some (.int (r1 &&& (a1 ^^^ (-1))))) ((fl, n1, n2, p, q, ad), I1, J1))) ∧ (¬ (I 6 7) ≤ a2 → (vp_in a2 320 ∧ mm_w Q (mm_wc d) bk_14 4 [some (.ref 6), some (.int (a1 ||| (I 9 a2.toNatClampNeg))), some (.int (a2 + (nI 1)))] [] ((fl, n1, n2, p, q, ad), I, J))))) : mm_w Q (mm_wc (d)) bk_14 4 [some (.ref 6), some (.int a1), some (.int a2)] [] ((fl, n1, n2, p, q, ad), I, J) := by
  refine mm_go [4] 80 ?_
  show ((I 6 7) ≤ a2 → _) ∧ (¬ (I 6 7) ≤ a2 → _)
  refine ⟨fun c0 => ?_, fun c0 => ?_⟩
  · show mm_u _ _ _ _ _ _ [some (.ref 6), some (.int a1), some (.int a2)] [] ((fl, n1, n2, p, q, ad), I, J)
    show mm_wc d 15 [.ref 6] ((fl, 0, 0, p, q, ad), I, J) _
    refine mm_wcm (h.1 c0) ?_
    rintro v τ ⟨r1, I1, J1, rfl, rfl, h1⟩
    refine mm_r1' ⟨rfl, ?_⟩
    exact h1
  · show mm_b _ _ _ _ _ [some (.ref 6), some (.int a1), some (.int a2)] [] ((fl, n1, n2, p, q, ad), I, J)
    show vp_in a2 320 ∧ _
    refine ⟨(h.2 c0).1, ?_⟩
    exact (h.2 c0).2
/- 15 ThreeBreaths$Board allCandles -/
theorem fx_15 {d : Nat} {fl : Nat → Bool} {n1 n2 : Nat} {p q : Bool} {ad : Nat → Nat} {I : mmI} {J : mmJ} {Q : mmQ} (h : Q (some (.int (((nI 1) <<< ((I (mm_ck p 1) 3) &&& 31)) - (nI 1)))) ((fl, n1, n2, p, q, ad), I, J)) : mm_wc (d + 1) 15 [.ref 6] ((fl, n1, n2, p, q, ad), I, J) Q := by
  cases p
  · refine mm_call (c := 15) rfl rfl ?_
    refine mm_go [] 80 ?_
    exact h
  · refine mm_call (c := 15) rfl rfl ?_
    refine mm_go [] 80 ?_
    exact h
/- 16 ThreeBreaths$Board allBurning -/
theorem fx_16 {d : Nat} {fl : Nat → Bool} {n1 n2 : Nat} {p q : Bool} {ad : Nat → Nat} {I : mmI} {J : mmJ} {Q : mmQ} (h : mm_wc d 15 [.ref 6] ((fl, 0, 0, p, q, ad), I, J) (fun v τ => ∃ r1 I1 J1, v = some (.int r1) ∧ τ = ((fl, 0, 0, p, q, ad), I1, J1) ∧ mm_wc d 23 [.ref 6, .int r1, .int (nI 0)] ((fl, 0, 0, p, q, ad), I1, J1) (fun v τ => ∃ r2 I2 J2, v = some (.int r2) ∧ τ = ((fl, 0, 0, p, q, ad), I2, J2) ∧ Q (some (.int r2)) ((fl, n1, n2, p, q, ad), I2, J2)))) : mm_wc (d + 1) 16 [.ref 6] ((fl, n1, n2, p, q, ad), I, J) Q := by
  refine mm_call (c := 16) rfl rfl ?_
  refine mm_go [] 80 ?_
  show mm_wc d 15 [.ref 6] ((fl, 0, 0, p, q, ad), I, J) _
  refine mm_wcm h ?_
  rintro v τ ⟨r1, I1, J1, rfl, rfl, h1⟩
  refine mm_r1' ⟨rfl, ?_⟩
  show mm_b _ _ _ _ _ [some (.ref 6)] [.int r1, .ref 6] ((fl, n1, n2, p, q, ad), I1, J1)
  show mm_wc d 23 [.ref 6, .int r1, .int (nI 0)] ((fl, 0, 0, p, q, ad), I1, J1) _
  refine mm_wcm h1 ?_
  rintro v τ ⟨r2, I2, J2, rfl, rfl, h2⟩
  refine mm_r1' ⟨rfl, ?_⟩
  exact h2
/- 17 ThreeBreaths$Board burningIn -/
theorem fx_17 {d : Nat} {x0 : Int32} {fl : Nat → Bool} {n1 n2 : Nat} {p q : Bool} {ad : Nat → Nat} {I : mmI} {J : mmJ} {Q : mmQ} (h : Q (some (.int (x0 >>> ((nI 3) &&& 31)))) ((fl, n1, n2, p, q, ad), I, J)) : mm_wc (d + 1) 17 [.ref 6, .int x0] ((fl, n1, n2, p, q, ad), I, J) Q := by
  refine mm_call (c := 17) rfl rfl ?_
  refine mm_go [] 80 ?_
  exact h
/- 18 ThreeBreaths$Board countIn -/
theorem fx_18 {d : Nat} {x0 : Int32} {fl : Nat → Bool} {n1 n2 : Nat} {p q : Bool} {ad : Nat → Nat} {I : mmI} {J : mmJ} {Q : mmQ} (h : mm_wc d 278 [.int (x0 >>> ((nI 3) &&& 31))] ((fl, 0, 0, p, q, ad), I, J) (fun v τ => ∃ r1 I1 J1, v = some (.int r1) ∧ τ = ((fl, 0, 0, p, q, ad), I1, J1) ∧ Q (some (.int r1)) ((fl, n1, n2, p, q, ad), I1, J1))) : mm_wc (d + 1) 18 [.ref 6, .int x0] ((fl, n1, n2, p, q, ad), I, J) Q := by
  refine mm_call (c := 18) rfl rfl ?_
  refine mm_go [] 80 ?_
  show mm_wc d 278 [.int (x0 >>> ((nI 3) &&& 31))] ((fl, 0, 0, p, q, ad), I, J) _
  refine mm_wcm h ?_
  rintro v τ ⟨r1, I1, J1, rfl, rfl, h1⟩
  refine mm_r1' ⟨rfl, ?_⟩
  exact h1
/- 19 ThreeBreaths$Board dazedIn -/
theorem fx_19 {d : Nat} {x0 : Int32} {fl : Nat → Bool} {n1 n2 : Nat} {p q : Bool} {ad : Nat → Nat} {I : mmI} {J : mmJ} {Q : mmQ} (h : (vp_in (x0 &&& (nI 7)) 8 ∧ Q (some (.int (I 14 ((x0 &&& (nI 7))).toNatClampNeg))) ((fl, n1, n2, p, q, ad), I, J))) : mm_wc (d + 1) 19 [.ref 6, .int x0] ((fl, n1, n2, p, q, ad), I, J) Q := by
  refine mm_call (c := 19) rfl rfl ?_
  refine mm_go [] 80 ?_
  show vp_in (x0 &&& (nI 7)) 8 ∧ _
  refine ⟨h.1, ?_⟩
  exact h.2
/- 20 ThreeBreaths$Board burns -/
theorem fx_20 {d : Nat} {x0 : Int32} {x1 : Int32} {fl : Nat → Bool} {n1 n2 : Nat} {p q : Bool} {ad : Nat → Nat} {I : mmI} {J : mmJ} {Q : mmQ} (h : mm_wc d 17 [.ref 6, .int x0] ((fl, 0, 0, p, q, ad), I, J) (fun v τ => ∃ r1 I1 J1, v = some (.int r1) ∧ τ = ((fl, 0, 0, p, q, ad), I1, J1) ∧ ((((r1 >>> (x1 &&& 31)) &&& (nI 1)) = (nI 0) → Q (some (.int (nI 0))) ((fl, n1, n2, p, q, ad), I1, J1)) ∧ (¬ ((r1 >>> (x1 &&& 31)) &&& (nI 1)) = (nI 0) → Q (some (.int (nI 1))) ((fl, n1, n2, p, q, ad), I1, J1))))) : mm_wc (d + 1) 20 [.ref 6, .int x0, .int x1] ((fl, n1, n2, p, q, ad), I, J) Q := by
  refine mm_call (c := 20) rfl rfl ?_
  refine mm_go [] 80 ?_
  show mm_wc d 17 [.ref 6, .int x0] ((fl, 0, 0, p, q, ad), I, J) _
  refine mm_wcm h ?_
  rintro v τ ⟨r1, I1, J1, rfl, rfl, h1⟩
  refine mm_r1' ⟨rfl, ?_⟩
  show mm_b _ _ _ _ _ [some (.ref 6), some (.int x0), some (.int x1)] [.int r1] ((fl, n1, n2, p, q, ad), I1, J1)
  show (((r1 >>> (x1 &&& 31)) &&& (nI 1)) = (nI 0) → _) ∧ (¬ ((r1 >>> (x1 &&& 31)) &&& (nI 1)) = (nI 0) → _)
  refine ⟨fun c0 => ?_, fun c0 => ?_⟩
  · show mm_u _ _ _ _ _ _ [some (.ref 6), some (.int x0), some (.int x1)] [] ((fl, n1, n2, p, q, ad), I1, J1)
    show (((nI 0) : Int32) = 0 ∨ ((nI 0) : Int32) = 1) ∧ _
    refine ⟨(by decide), ?_⟩
    exact (h1.1 c0)
  · show mm_b _ _ _ _ _ [some (.ref 6), some (.int x0), some (.int x1)] [] ((fl, n1, n2, p, q, ad), I1, J1)
    show (((nI 1) : Int32) = 0 ∨ ((nI 1) : Int32) = 1) ∧ _
    refine ⟨(by decide), ?_⟩
    exact (h1.2 c0)
/- 21 ThreeBreaths$Board withLit -/
theorem fx_21 {d : Nat} {x0 : Int32} {x1 : Int32} {fl : Nat → Bool} {n1 n2 : Nat} {p q : Bool} {ad : Nat → Nat} {I : mmI} {J : mmJ} {Q : mmQ} (h : mm_wc d 17 [.ref 6, .int x0] ((fl, 0, 0, p, q, ad), I, J) (fun v τ => ∃ r1 I1 J1, v = some (.int r1) ∧ τ = ((fl, 0, 0, p, q, ad), I1, J1) ∧ mm_wc d 19 [.ref 6, .int x0] ((fl, 0, 0, p, q, ad), I1, J1) (fun v τ => ∃ r2 I2 J2, v = some (.int r2) ∧ τ = ((fl, 0, 0, p, q, ad), I2, J2) ∧ mm_wc d 23 [.ref 6, .int (r1 ||| ((nI 1) <<< (x1 &&& 31))), .int r2] ((fl, 0, 0, p, q, ad), I2, J2) (fun v τ => ∃ r3 I3 J3, v = some (.int r3) ∧ τ = ((fl, 0, 0, p, q, ad), I3, J3) ∧ Q (some (.int r3)) ((fl, n1, n2, p, q, ad), I3, J3))))) : mm_wc (d + 1) 21 [.ref 6, .int x0, .int x1] ((fl, n1, n2, p, q, ad), I, J) Q := by
  refine mm_call (c := 21) rfl rfl ?_
  refine mm_go [] 80 ?_
  show mm_wc d 17 [.ref 6, .int x0] ((fl, 0, 0, p, q, ad), I, J) _
  refine mm_wcm h ?_
  rintro v τ ⟨r1, I1, J1, rfl, rfl, h1⟩
  refine mm_r1' ⟨rfl, ?_⟩
  show mm_b _ _ _ _ _ [some (.ref 6), some (.int x0), some (.int x1)] [.int r1, .ref 6] ((fl, n1, n2, p, q, ad), I1, J1)
  show mm_wc d 19 [.ref 6, .int x0] ((fl, 0, 0, p, q, ad), I1, J1) _
  refine mm_wcm h1 ?_
  rintro v τ ⟨r2, I2, J2, rfl, rfl, h2⟩
  refine mm_r1' ⟨rfl, ?_⟩
  show mm_b _ _ _ _ _ [some (.ref 6), some (.int x0), some (.int x1)] [.int r2, .int (r1 ||| ((nI 1) <<< (x1 &&& 31))), .ref 6] ((fl, n1, n2, p, q, ad), I2, J2)
  show mm_wc d 23 [.ref 6, .int (r1 ||| ((nI 1) <<< (x1 &&& 31))), .int r2] ((fl, 0, 0, p, q, ad), I2, J2) _
  refine mm_wcm h2 ?_
  rintro v τ ⟨r3, I3, J3, rfl, rfl, h3⟩
  refine mm_r1' ⟨rfl, ?_⟩
  exact h3
/- 22 ThreeBreaths$Board without -/
theorem fx_22 {d : Nat} {x0 : Int32} {x1 : Int32} {fl : Nat → Bool} {n1 n2 : Nat} {p q : Bool} {ad : Nat → Nat} {I : mmI} {J : mmJ} {Q : mmQ} (h : mm_wc d 17 [.ref 6, .int x0] ((fl, 0, 0, p, q, ad), I, J) (fun v τ => ∃ r1 I1 J1, v = some (.int r1) ∧ τ = ((fl, 0, 0, p, q, ad), I1, J1) ∧ mm_wc d 19 [.ref 6, .int x0] ((fl, 0, 0, p, q, ad), I1, J1) (fun v τ => ∃ r2 I2 J2, v = some (.int r2) ∧ τ = ((fl, 0, 0, p, q, ad), I2, J2) ∧ mm_wc d 23 [.ref 6, .int (r1 &&& (((nI 1) <<< (x1 &&& 31)) ^^^ (-1))), .int (r2 &&& (((nI 1) <<< (x1 &&& 31)) ^^^ (-1)))] ((fl, 0, 0, p, q, ad), I2, J2) (fun v τ => ∃ r3 I3 J3, v = some (.int r3) ∧ τ = ((fl, 0, 0, p, q, ad), I3, J3) ∧ Q (some (.int r3)) ((fl, n1, n2, p, q, ad), I3, J3))))) : mm_wc (d + 1) 22 [.ref 6, .int x0, .int x1] ((fl, n1, n2, p, q, ad), I, J) Q := by
  refine mm_call (c := 22) rfl rfl ?_
  refine mm_go [] 80 ?_
  show mm_wc d 17 [.ref 6, .int x0] ((fl, 0, 0, p, q, ad), I, J) _
  refine mm_wcm h ?_
  rintro v τ ⟨r1, I1, J1, rfl, rfl, h1⟩
  refine mm_r1' ⟨rfl, ?_⟩
  show mm_b _ _ _ _ _ [some (.ref 6), some (.int x0), some (.int x1)] [.int r1, .ref 6] ((fl, n1, n2, p, q, ad), I1, J1)
  show mm_wc d 19 [.ref 6, .int x0] ((fl, 0, 0, p, q, ad), I1, J1) _
  refine mm_wcm h1 ?_
  rintro v τ ⟨r2, I2, J2, rfl, rfl, h2⟩
  refine mm_r1' ⟨rfl, ?_⟩
  show mm_b _ _ _ _ _ [some (.ref 6), some (.int x0), some (.int x1)] [.int r2, .int (r1 &&& (((nI 1) <<< (x1 &&& 31)) ^^^ (-1))), .ref 6] ((fl, n1, n2, p, q, ad), I2, J2)
  show mm_wc d 23 [.ref 6, .int (r1 &&& (((nI 1) <<< (x1 &&& 31)) ^^^ (-1))), .int (r2 &&& (((nI 1) <<< (x1 &&& 31)) ^^^ (-1)))] ((fl, 0, 0, p, q, ad), I2, J2) _
  refine mm_wcm h2 ?_
  rintro v τ ⟨r3, I3, J3, rfl, rfl, h3⟩
  refine mm_r1' ⟨rfl, ?_⟩
  exact h3
/- 23 ThreeBreaths$Board moment -/
theorem fx_23 {d : Nat} {x0 : Int32} {x1 : Int32} {fl : Nat → Bool} {n1 n2 : Nat} {p q : Bool} {ad : Nat → Nat} {I : mmI} {J : mmJ} {Q : mmQ} (h : ((x1 = (nI 0) → Q (some (.int ((x0 <<< ((nI 3) &&& 31)) ||| (nI 0)))) ((fl, n1, n2, p, q, ad), I, J)) ∧ (¬ x1 = (nI 0) → mm_w Q (mm_wc d) bk_23 9 [some (.ref 6), some (.int x0), some (.int x1), some (.int (nI 0)), some (.int (nI 0))] [] ((fl, n1, n2, p, q, ad), I, J)))) : mm_wc (d + 1) 23 [.ref 6, .int x0, .int x1] ((fl, n1, n2, p, q, ad), I, J) Q := by
  refine mm_call (c := 23) rfl rfl ?_
  refine mm_go [9] 80 ?_
  show (x1 = (nI 0) → _) ∧ (¬ x1 = (nI 0) → _)
  refine ⟨fun c0 => ?_, fun c0 => ?_⟩
  · exact (h.1 c0)
  · exact (h.2 c0)
theorem fx_23_9 {d : Nat} {a1 : Int32} {a2 : Int32} {a3 : Int32} {a4 : Int32} {fl : Nat → Bool} {n1 n2 : Nat} {p q : Bool} {ad : Nat → Nat} {I : mmI} {J : mmJ} {Q : mmQ} (h : (((nI 3) ≤ a4 → Q (some (.int ((a1 <<< ((nI 3) &&& 31)) ||| a3))) ((fl, n1, n2, p, q, ad), I, J)) ∧ (¬ (nI 3) ≤ a4 → (vp_in a4 3 ∧ (((a2 &&& (I 13 a4.toNatClampNeg)) = (nI 0) → mm_w Q (mm_wc d) bk_23 9 [some (.ref 6), some (.int a1), some (.int a2), some (.int a3), some (.int (a4 + (nI 1)))] [] ((fl, n1, n2, p, q, ad), I, J)) ∧ (¬ (a2 &&& (I 13 a4.toNatClampNeg)) = (nI 0) → mm_w Q (mm_wc d) bk_23 9 [some (.ref 6), some (.int a1), some (.int a2), some (.int (a3 ||| ((nI 1) <<< (a4 &&& 31)))), some (.int (a4 + (nI 1)))] [] ((fl, n1, n2, p, q, ad), I, J))))))) : mm_w Q (mm_wc (d)) bk_23 9 [some (.ref 6), some (.int a1), some (.int a2), some (.int a3), some (.int a4)] [] ((fl, n1, n2, p, q, ad), I, J) := by
  refine mm_go [9] 80 ?_
  show ((nI 3) ≤ a4 → _) ∧ (¬ (nI 3) ≤ a4 → _)
  refine ⟨fun c0 => ?_, fun c0 => ?_⟩
  · exact (h.1 c0)
  · show mm_b _ _ _ _ _ [some (.ref 6), some (.int a1), some (.int a2), some (.int a3), some (.int a4)] [] ((fl, n1, n2, p, q, ad), I, J)
    show vp_in a4 3 ∧ _
    refine ⟨(h.2 c0).1, ?_⟩
    show mm_b _ _ _ _ _ [some (.ref 6), some (.int a1), some (.int a2), some (.int a3), some (.int a4)] [.int (I 13 a4.toNatClampNeg), .int a2] ((fl, n1, n2, p, q, ad), I, J)
    show ((a2 &&& (I 13 a4.toNatClampNeg)) = (nI 0) → _) ∧ (¬ (a2 &&& (I 13 a4.toNatClampNeg)) = (nI 0) → _)
    refine ⟨fun c1 => ?_, fun c1 => ?_⟩
    · exact ((h.2 c0).2.1 c1)
    · exact ((h.2 c0).2.2 c1)
/- 24 ThreeBreaths$Board behind -/
theorem fx_24 {d : Nat} {x0 : Int32} {x1 : Int32} {fl : Nat → Bool} {n1 n2 : Nat} {p q : Bool} {ad : Nat → Nat} {I : mmI} {J : mmJ} {Q : mmQ} (h : (vp_in (x0 &&& (nI 7)) 8 ∧ (vp_in ((((x0 >>> ((nI 3) &&& 31)) &&& (x1 ^^^ (-1))) ||| ((((x0 >>> ((nI 3) &&& 31)) &&& x1) &&& (I 6 11)) &&& ((I 14 ((x0 &&& (nI 7))).toNatClampNeg) ^^^ (-1)))) &&& (nI 1023)) 1024 ∧ ((((((x0 >>> ((nI 3) &&& 31)) &&& (x1 ^^^ (-1))) ||| ((((x0 >>> ((nI 3) &&& 31)) &&& x1) &&& (I 6 11)) &&& ((I 14 ((x0 &&& (nI 7))).toNatClampNeg) ^^^ (-1)))) &&& (nI 1024)) = (nI 0) → mm_wc d 23 [.ref 6, .int ((((x0 >>> ((nI 3) &&& 31)) &&& (x1 ^^^ (-1))) ||| ((((x0 >>> ((nI 3) &&& 31)) &&& x1) &&& (I 6 11)) &&& ((I 14 ((x0 &&& (nI 7))).toNatClampNeg) ^^^ (-1)))) ||| ((I 12 (((((x0 >>> ((nI 3) &&& 31)) &&& (x1 ^^^ (-1))) ||| ((((x0 >>> ((nI 3) &&& 31)) &&& x1) &&& (I 6 11)) &&& ((I 14 ((x0 &&& (nI 7))).toNatClampNeg) ^^^ (-1)))) &&& (nI 1023))).toNatClampNeg) &&& ((I 6 13) ^^^ (-1)))), .int ((((x0 >>> ((nI 3) &&& 31)) &&& x1) &&& (I 6 11)) &&& ((I 14 ((x0 &&& (nI 7))).toNatClampNeg) ^^^ (-1)))] ((fl, 0, 0, p, q, ad), I, J) (fun v τ => ∃ r1 I1 J1, v = some (.int r1) ∧ τ = ((fl, 0, 0, p, q, ad), I1, J1) ∧ Q (some (.int r1)) ((fl, n1, n2, p, q, ad), I1, J1))) ∧ (¬ ((((x0 >>> ((nI 3) &&& 31)) &&& (x1 ^^^ (-1))) ||| ((((x0 >>> ((nI 3) &&& 31)) &&& x1) &&& (I 6 11)) &&& ((I 14 ((x0 &&& (nI 7))).toNatClampNeg) ^^^ (-1)))) &&& (nI 1024)) = (nI 0) → mm_wc d 23 [.ref 6, .int ((((x0 >>> ((nI 3) &&& 31)) &&& (x1 ^^^ (-1))) ||| ((((x0 >>> ((nI 3) &&& 31)) &&& x1) &&& (I 6 11)) &&& ((I 14 ((x0 &&& (nI 7))).toNatClampNeg) ^^^ (-1)))) ||| (((I 12 (((((x0 >>> ((nI 3) &&& 31)) &&& (x1 ^^^ (-1))) ||| ((((x0 >>> ((nI 3) &&& 31)) &&& x1) &&& (I 6 11)) &&& ((I 14 ((x0 &&& (nI 7))).toNatClampNeg) ^^^ (-1)))) &&& (nI 1023))).toNatClampNeg) ||| (I 6 14)) &&& ((I 6 13) ^^^ (-1)))), .int ((((x0 >>> ((nI 3) &&& 31)) &&& x1) &&& (I 6 11)) &&& ((I 14 ((x0 &&& (nI 7))).toNatClampNeg) ^^^ (-1)))] ((fl, 0, 0, p, q, ad), I, J) (fun v τ => ∃ r2 I2 J2, v = some (.int r2) ∧ τ = ((fl, 0, 0, p, q, ad), I2, J2) ∧ Q (some (.int r2)) ((fl, n1, n2, p, q, ad), I2, J2))))))) : mm_wc (d + 1) 24 [.ref 6, .int x0, .int x1] ((fl, n1, n2, p, q, ad), I, J) Q := by
  refine mm_call (c := 24) rfl rfl ?_
  refine mm_go [] 80 ?_
  show vp_in (x0 &&& (nI 7)) 8 ∧ _
  refine ⟨h.1, ?_⟩
  show mm_b _ _ _ _ _ [some (.ref 6), some (.int x0), some (.int x1), some (.int (x0 >>> ((nI 3) &&& 31))), none, none, none] [.int (I 14 ((x0 &&& (nI 7))).toNatClampNeg), .int (((x0 >>> ((nI 3) &&& 31)) &&& x1) &&& (I 6 11))] ((fl, n1, n2, p, q, ad), I, J)
  show vp_in ((((x0 >>> ((nI 3) &&& 31)) &&& (x1 ^^^ (-1))) ||| ((((x0 >>> ((nI 3) &&& 31)) &&& x1) &&& (I 6 11)) &&& ((I 14 ((x0 &&& (nI 7))).toNatClampNeg) ^^^ (-1)))) &&& (nI 1023)) 1024 ∧ _
  refine ⟨h.2.1, ?_⟩
  show mm_b _ _ _ _ _ [some (.ref 6), some (.int x0), some (.int x1), some (.int (x0 >>> ((nI 3) &&& 31))), some (.int ((((x0 >>> ((nI 3) &&& 31)) &&& x1) &&& (I 6 11)) &&& ((I 14 ((x0 &&& (nI 7))).toNatClampNeg) ^^^ (-1)))), some (.int (((x0 >>> ((nI 3) &&& 31)) &&& (x1 ^^^ (-1))) ||| ((((x0 >>> ((nI 3) &&& 31)) &&& x1) &&& (I 6 11)) &&& ((I 14 ((x0 &&& (nI 7))).toNatClampNeg) ^^^ (-1))))), none] [.int (I 12 (((((x0 >>> ((nI 3) &&& 31)) &&& (x1 ^^^ (-1))) ||| ((((x0 >>> ((nI 3) &&& 31)) &&& x1) &&& (I 6 11)) &&& ((I 14 ((x0 &&& (nI 7))).toNatClampNeg) ^^^ (-1)))) &&& (nI 1023))).toNatClampNeg)] ((fl, n1, n2, p, q, ad), I, J)
  show (((((x0 >>> ((nI 3) &&& 31)) &&& (x1 ^^^ (-1))) ||| ((((x0 >>> ((nI 3) &&& 31)) &&& x1) &&& (I 6 11)) &&& ((I 14 ((x0 &&& (nI 7))).toNatClampNeg) ^^^ (-1)))) &&& (nI 1024)) = (nI 0) → _) ∧ (¬ ((((x0 >>> ((nI 3) &&& 31)) &&& (x1 ^^^ (-1))) ||| ((((x0 >>> ((nI 3) &&& 31)) &&& x1) &&& (I 6 11)) &&& ((I 14 ((x0 &&& (nI 7))).toNatClampNeg) ^^^ (-1)))) &&& (nI 1024)) = (nI 0) → _)
  refine ⟨fun c0 => ?_, fun c0 => ?_⟩
  · show mm_u _ _ _ _ _ _ [some (.ref 6), some (.int x0), some (.int x1), some (.int (x0 >>> ((nI 3) &&& 31))), some (.int ((((x0 >>> ((nI 3) &&& 31)) &&& x1) &&& (I 6 11)) &&& ((I 14 ((x0 &&& (nI 7))).toNatClampNeg) ^^^ (-1)))), some (.int (((x0 >>> ((nI 3) &&& 31)) &&& (x1 ^^^ (-1))) ||| ((((x0 >>> ((nI 3) &&& 31)) &&& x1) &&& (I 6 11)) &&& ((I 14 ((x0 &&& (nI 7))).toNatClampNeg) ^^^ (-1))))), some (.int (I 12 (((((x0 >>> ((nI 3) &&& 31)) &&& (x1 ^^^ (-1))) ||| ((((x0 >>> ((nI 3) &&& 31)) &&& x1) &&& (I 6 11)) &&& ((I 14 ((x0 &&& (nI 7))).toNatClampNeg) ^^^ (-1)))) &&& (nI 1023))).toNatClampNeg))] [] ((fl, n1, n2, p, q, ad), I, J)
    show mm_wc d 23 [.ref 6, .int ((((x0 >>> ((nI 3) &&& 31)) &&& (x1 ^^^ (-1))) ||| ((((x0 >>> ((nI 3) &&& 31)) &&& x1) &&& (I 6 11)) &&& ((I 14 ((x0 &&& (nI 7))).toNatClampNeg) ^^^ (-1)))) ||| ((I 12 (((((x0 >>> ((nI 3) &&& 31)) &&& (x1 ^^^ (-1))) ||| ((((x0 >>> ((nI 3) &&& 31)) &&& x1) &&& (I 6 11)) &&& ((I 14 ((x0 &&& (nI 7))).toNatClampNeg) ^^^ (-1)))) &&& (nI 1023))).toNatClampNeg) &&& ((I 6 13) ^^^ (-1)))), .int ((((x0 >>> ((nI 3) &&& 31)) &&& x1) &&& (I 6 11)) &&& ((I 14 ((x0 &&& (nI 7))).toNatClampNeg) ^^^ (-1)))] ((fl, 0, 0, p, q, ad), I, J) _
    refine mm_wcm (h.2.2.1 c0) ?_
    rintro v τ ⟨r1, I1, J1, rfl, rfl, h1⟩
    refine mm_r1' ⟨rfl, ?_⟩
    exact h1
  · show mm_b _ _ _ _ _ [some (.ref 6), some (.int x0), some (.int x1), some (.int (x0 >>> ((nI 3) &&& 31))), some (.int ((((x0 >>> ((nI 3) &&& 31)) &&& x1) &&& (I 6 11)) &&& ((I 14 ((x0 &&& (nI 7))).toNatClampNeg) ^^^ (-1)))), some (.int (((x0 >>> ((nI 3) &&& 31)) &&& (x1 ^^^ (-1))) ||| ((((x0 >>> ((nI 3) &&& 31)) &&& x1) &&& (I 6 11)) &&& ((I 14 ((x0 &&& (nI 7))).toNatClampNeg) ^^^ (-1))))), some (.int (I 12 (((((x0 >>> ((nI 3) &&& 31)) &&& (x1 ^^^ (-1))) ||| ((((x0 >>> ((nI 3) &&& 31)) &&& x1) &&& (I 6 11)) &&& ((I 14 ((x0 &&& (nI 7))).toNatClampNeg) ^^^ (-1)))) &&& (nI 1023))).toNatClampNeg))] [] ((fl, n1, n2, p, q, ad), I, J)
    show mm_wc d 23 [.ref 6, .int ((((x0 >>> ((nI 3) &&& 31)) &&& (x1 ^^^ (-1))) ||| ((((x0 >>> ((nI 3) &&& 31)) &&& x1) &&& (I 6 11)) &&& ((I 14 ((x0 &&& (nI 7))).toNatClampNeg) ^^^ (-1)))) ||| (((I 12 (((((x0 >>> ((nI 3) &&& 31)) &&& (x1 ^^^ (-1))) ||| ((((x0 >>> ((nI 3) &&& 31)) &&& x1) &&& (I 6 11)) &&& ((I 14 ((x0 &&& (nI 7))).toNatClampNeg) ^^^ (-1)))) &&& (nI 1023))).toNatClampNeg) ||| (I 6 14)) &&& ((I 6 13) ^^^ (-1)))), .int ((((x0 >>> ((nI 3) &&& 31)) &&& x1) &&& (I 6 11)) &&& ((I 14 ((x0 &&& (nI 7))).toNatClampNeg) ^^^ (-1)))] ((fl, 0, 0, p, q, ad), I, J) _
    refine mm_wcm (h.2.2.2 c0) ?_
    rintro v τ ⟨r2, I2, J2, rfl, rfl, h2⟩
    refine mm_r1' ⟨rfl, ?_⟩
    exact h2
/- 25 ThreeBreaths$Board gainOf -/
theorem fx_25 {d : Nat} {x0 : Int32} {x1 : Int32} {fl : Nat → Bool} {n1 n2 : Nat} {p q : Bool} {ad : Nat → Nat} {I : mmI} {J : mmJ} {Q : mmQ} (h : mm_wc d 18 [.ref 6, .int x0] ((fl, 0, 0, p, q, ad), I, J) (fun v τ => ∃ r1 I1 J1, v = some (.int r1) ∧ τ = ((fl, 0, 0, p, q, ad), I1, J1) ∧ mm_wc d 24 [.ref 6, .int x0, .int x1] ((fl, 0, 0, p, q, ad), I1, J1) (fun v τ => ∃ r2 I2 J2, v = some (.int r2) ∧ τ = ((fl, 0, 0, p, q, ad), I2, J2) ∧ mm_wc d 18 [.ref 6, .int r2] ((fl, 0, 0, p, q, ad), I2, J2) (fun v τ => ∃ r3 I3 J3, v = some (.int r3) ∧ τ = ((fl, 0, 0, p, q, ad), I3, J3) ∧ Q (some (.int (r1 - r3))) ((fl, n1, n2, p, q, ad), I3, J3))))) : mm_wc (d + 1) 25 [.ref 6, .int x0, .int x1] ((fl, n1, n2, p, q, ad), I, J) Q := by
  refine mm_call (c := 25) rfl rfl ?_
  refine mm_go [] 80 ?_
  show mm_wc d 18 [.ref 6, .int x0] ((fl, 0, 0, p, q, ad), I, J) _
  refine mm_wcm h ?_
  rintro v τ ⟨r1, I1, J1, rfl, rfl, h1⟩
  refine mm_r1' ⟨rfl, ?_⟩
  show mm_b _ _ _ _ _ [some (.ref 6), some (.int x0), some (.int x1)] [.int r1] ((fl, n1, n2, p, q, ad), I1, J1)
  show mm_wc d 24 [.ref 6, .int x0, .int x1] ((fl, 0, 0, p, q, ad), I1, J1) _
  refine mm_wcm h1 ?_
  rintro v τ ⟨r2, I2, J2, rfl, rfl, h2⟩
  refine mm_r1' ⟨rfl, ?_⟩
  show mm_b _ _ _ _ _ [some (.ref 6), some (.int x0), some (.int x1)] [.int r2, .ref 6, .int r1] ((fl, n1, n2, p, q, ad), I2, J2)
  show mm_wc d 18 [.ref 6, .int r2] ((fl, 0, 0, p, q, ad), I2, J2) _
  refine mm_wcm h2 ?_
  rintro v τ ⟨r3, I3, J3, rfl, rfl, h3⟩
  refine mm_r1' ⟨rfl, ?_⟩
  exact h3
/- 26 ThreeBreaths$Board greediest -/
theorem fx_26 {d : Nat} {x0 : Int32} {fl : Nat → Bool} {n1 n2 : Nat} {p q : Bool} {ad : Nat → Nat} {I : mmI} {J : mmJ} {Q : mmQ} (h : mm_w Q (mm_wc d) bk_26 8 [some (.ref 6), some (.int x0), some (.int (nI 0)), some (.int (-100)), some (.int (nI 0)), none] [] ((fl, n1, n2, p, q, ad), I, J)) : mm_wc (d + 1) 26 [.ref 6, .int x0] ((fl, n1, n2, p, q, ad), I, J) Q := by
  refine mm_call (c := 26) rfl rfl ?_
  refine mm_go [8] 80 ?_
  exact h
theorem fx_26_8 {d : Nat} {a1 : Int32} {a2 : Int32} {a3 : Int32} {a4 : Int32} {fl : Nat → Bool} {n1 n2 : Nat} {p q : Bool} {ad : Nat → Nat} {I : mmI} {J : mmJ} {Q : mmQ} (h : (((I 6 2) ≤ a4 → Q (some (.int a2)) ((fl, n1, n2, p, q, ad), I, J)) ∧ (¬ (I 6 2) ≤ a4 → (vp_in a4 320 ∧ mm_wc d 25 [.ref 6, .int a1, .int (I 7 a4.toNatClampNeg)] ((fl, 0, 0, p, q, ad), I, J) (fun v τ => ∃ r1 I1 J1, v = some (.int r1) ∧ τ = ((fl, 0, 0, p, q, ad), I1, J1) ∧ ((r1 ≤ a3 → mm_w Q (mm_wc d) bk_26 8 [some (.ref 6), some (.int a1), some (.int a2), some (.int a3), some (.int (a4 + (nI 1))), none] [] ((fl, n1, n2, p, q, ad), I1, J1)) ∧ (¬ r1 ≤ a3 → mm_w Q (mm_wc d) bk_26 8 [some (.ref 6), some (.int a1), some (.int a4), some (.int r1), some (.int (a4 + (nI 1))), none] [] ((fl, n1, n2, p, q, ad), I1, J1)))))))) : mm_w Q (mm_wc (d)) bk_26 8 [some (.ref 6), some (.int a1), some (.int a2), some (.int a3), some (.int a4), none] [] ((fl, n1, n2, p, q, ad), I, J) := by
  refine mm_go [8] 80 ?_
  show ((I 6 2) ≤ a4 → _) ∧ (¬ (I 6 2) ≤ a4 → _)
  refine ⟨fun c0 => ?_, fun c0 => ?_⟩
  · exact (h.1 c0)
  · show mm_b _ _ _ _ _ [some (.ref 6), some (.int a1), some (.int a2), some (.int a3), some (.int a4), none] [] ((fl, n1, n2, p, q, ad), I, J)
    show vp_in a4 320 ∧ _
    refine ⟨(h.2 c0).1, ?_⟩
    show mm_b _ _ _ _ _ [some (.ref 6), some (.int a1), some (.int a2), some (.int a3), some (.int a4), none] [.int (I 7 a4.toNatClampNeg), .int a1, .ref 6] ((fl, n1, n2, p, q, ad), I, J)
    show mm_wc d 25 [.ref 6, .int a1, .int (I 7 a4.toNatClampNeg)] ((fl, 0, 0, p, q, ad), I, J) _
    refine mm_wcm ((h.2 c0).2) ?_
    rintro v τ ⟨r1, I1, J1, rfl, rfl, h1⟩
    refine mm_r1' ⟨rfl, ?_⟩
    show mm_b _ _ _ _ _ [some (.ref 6), some (.int a1), some (.int a2), some (.int a3), some (.int a4), none] [.int r1] ((fl, n1, n2, p, q, ad), I1, J1)
    show (r1 ≤ a3 → _) ∧ (¬ r1 ≤ a3 → _)
    refine ⟨fun c1 => ?_, fun c1 => ?_⟩
    · exact (h1.1 c1)
    · exact (h1.2 c1)
/- 27 ThreeBreaths$Board behindGreed -/
theorem fx_27 {d : Nat} {x0 : Int32} {fl : Nat → Bool} {n1 n2 : Nat} {p q : Bool} {ad : Nat → Nat} {I : mmI} {J : mmJ} {Q : mmQ} (h : mm_w Q (mm_wc d) bk_27 4 [some (.ref 6), none, some (.int x0), some (.int (nI 0)), none] [] ((fl, n1, n2, p, q, ad), I, J)) : mm_wc (d + 1) 27 [.ref 6, .int x0] ((fl, n1, n2, p, q, ad), I, J) Q := by
  refine mm_call (c := 27) rfl rfl ?_
  refine mm_go [4] 80 ?_
  exact h
theorem fx_27_4 {d : Nat} {a2 : Int32} {a3 : Int32} {fl : Nat → Bool} {n1 n2 : Nat} {p q : Bool} {ad : Nat → Nat} {I : mmI} {J : mmJ} {Q : mmQ} (h : (((I (mm_ck p 0) 8) ≤ a3 → Q (some (.int a2)) ((fl, n1, n2, p, q, ad), I, J)) ∧ (¬ (I (mm_ck p 0) 8) ≤ a3 → mm_wc d 26 [.ref 6, .int a2] ((fl, 0, 0, p, q, ad), I, J) (fun v τ => ∃ r1 I1 J1, v = some (.int r1) ∧ τ = ((fl, 0, 0, p, q, ad), I1, J1) ∧ (vp_in r1 320 ∧ mm_wc d 25 [.ref 6, .int a2, .int (I1 7 r1.toNatClampNeg)] ((fl, 0, 0, p, q, ad), I1, J1) (fun v τ => ∃ r2 I2 J2, v = some (.int r2) ∧ τ = ((fl, 0, 0, p, q, ad), I2, J2) ∧ (((nI 0) < r2 → mm_wc d 24 [.ref 6, .int a2, .int (I1 7 r1.toNatClampNeg)] ((fl, 0, 0, p, q, ad), I2, J2) (fun v τ => ∃ r3 I3 J3, v = some (.int r3) ∧ τ = ((fl, 0, 0, p, q, ad), I3, J3) ∧ mm_w Q (mm_wc d) bk_27 4 [some (.ref 6), none, some (.int r3), some (.int (a3 + (nI 1))), none] [] ((fl, n1, n2, p, q, ad), I3, J3))) ∧ (¬ (nI 0) < r2 → Q (some (.int a2)) ((fl, n1, n2, p, q, ad), I2, J2))))))))) : mm_w Q (mm_wc (d)) bk_27 4 [some (.ref 6), none, some (.int a2), some (.int a3), none] [] ((fl, n1, n2, p, q, ad), I, J) := by
  cases p
  · refine mm_go [4] 80 ?_
    show ((I 32 8) ≤ a3 → _) ∧ (¬ (I 32 8) ≤ a3 → _)
    refine ⟨fun c0 => ?_, fun c0 => ?_⟩
    · exact (h.1 c0)
    · show mm_b _ _ _ _ _ [some (.ref 6), none, some (.int a2), some (.int a3), none] [] ((fl, n1, n2, false, q, ad), I, J)
      show mm_wc d 26 [.ref 6, .int a2] ((fl, 0, 0, false, q, ad), I, J) _
      refine mm_wcm (h.2 c0) ?_
      rintro v τ ⟨r1, I1, J1, rfl, rfl, h1⟩
      refine mm_r1' ⟨rfl, ?_⟩
      show mm_b _ _ _ _ _ [some (.ref 6), none, some (.int a2), some (.int a3), none] [.int r1, .ref 7] ((fl, n1, n2, false, q, ad), I1, J1)
      show vp_in r1 320 ∧ _
      refine ⟨h1.1, ?_⟩
      show mm_b _ _ _ _ _ [some (.ref 6), none, some (.int a2), some (.int a3), none] [.int (I1 7 r1.toNatClampNeg)] ((fl, n1, n2, false, q, ad), I1, J1)
      show mm_wc d 25 [.ref 6, .int a2, .int (I1 7 r1.toNatClampNeg)] ((fl, 0, 0, false, q, ad), I1, J1) _
      refine mm_wcm (h1.2) ?_
      rintro v τ ⟨r2, I2, J2, rfl, rfl, h2⟩
      refine mm_r1' ⟨rfl, ?_⟩
      show mm_b _ _ _ _ _ [some (.ref 6), none, some (.int a2), some (.int a3), some (.int (I1 7 r1.toNatClampNeg))] [.int r2] ((fl, n1, n2, false, q, ad), I2, J2)
      show ((nI 0) < r2 → _) ∧ (¬ (nI 0) < r2 → _)
      refine ⟨fun c1 => ?_, fun c1 => ?_⟩
      · show mm_u _ _ _ _ _ _ [some (.ref 6), none, some (.int a2), some (.int a3), some (.int (I1 7 r1.toNatClampNeg))] [] ((fl, n1, n2, false, q, ad), I2, J2)
        show mm_wc d 24 [.ref 6, .int a2, .int (I1 7 r1.toNatClampNeg)] ((fl, 0, 0, false, q, ad), I2, J2) _
        refine mm_wcm (h2.1 c1) ?_
        rintro v τ ⟨r3, I3, J3, rfl, rfl, h3⟩
        refine mm_r1' ⟨rfl, ?_⟩
        exact h3
      · exact (h2.2 c1)
  · refine mm_go [4] 80 ?_
    show ((I 18 8) ≤ a3 → _) ∧ (¬ (I 18 8) ≤ a3 → _)
    refine ⟨fun c0 => ?_, fun c0 => ?_⟩
    · exact (h.1 c0)
    · show mm_b _ _ _ _ _ [some (.ref 6), none, some (.int a2), some (.int a3), none] [] ((fl, n1, n2, true, q, ad), I, J)
      show mm_wc d 26 [.ref 6, .int a2] ((fl, 0, 0, true, q, ad), I, J) _
      refine mm_wcm (h.2 c0) ?_
      rintro v τ ⟨r1, I1, J1, rfl, rfl, h1⟩
      refine mm_r1' ⟨rfl, ?_⟩
      show mm_b _ _ _ _ _ [some (.ref 6), none, some (.int a2), some (.int a3), none] [.int r1, .ref 7] ((fl, n1, n2, true, q, ad), I1, J1)
      show vp_in r1 320 ∧ _
      refine ⟨h1.1, ?_⟩
      show mm_b _ _ _ _ _ [some (.ref 6), none, some (.int a2), some (.int a3), none] [.int (I1 7 r1.toNatClampNeg)] ((fl, n1, n2, true, q, ad), I1, J1)
      show mm_wc d 25 [.ref 6, .int a2, .int (I1 7 r1.toNatClampNeg)] ((fl, 0, 0, true, q, ad), I1, J1) _
      refine mm_wcm (h1.2) ?_
      rintro v τ ⟨r2, I2, J2, rfl, rfl, h2⟩
      refine mm_r1' ⟨rfl, ?_⟩
      show mm_b _ _ _ _ _ [some (.ref 6), none, some (.int a2), some (.int a3), some (.int (I1 7 r1.toNatClampNeg))] [.int r2] ((fl, n1, n2, true, q, ad), I2, J2)
      show ((nI 0) < r2 → _) ∧ (¬ (nI 0) < r2 → _)
      refine ⟨fun c1 => ?_, fun c1 => ?_⟩
      · show mm_u _ _ _ _ _ _ [some (.ref 6), none, some (.int a2), some (.int a3), some (.int (I1 7 r1.toNatClampNeg))] [] ((fl, n1, n2, true, q, ad), I2, J2)
        show mm_wc d 24 [.ref 6, .int a2, .int (I1 7 r1.toNatClampNeg)] ((fl, 0, 0, true, q, ad), I2, J2) _
        refine mm_wcm (h2.1 c1) ?_
        rintro v τ ⟨r3, I3, J3, rfl, rfl, h3⟩
        refine mm_r1' ⟨rfl, ?_⟩
        exact h3
      · exact (h2.2 c1)
/- 28 ThreeBreaths$Board seatGuest -/
theorem fx_28 {d : Nat} {x0 : Int32} {fl : Nat → Bool} {n1 n2 : Nat} {p q : Bool} {ad : Nat → Nat} {I : mmI} {J : mmJ} {Q : mmQ} (h : mm_w Q (mm_wc d) bk_28 7 [some (.ref 6), some (.int x0), some (.int (nI 0))] [] ((fl, n1, n2, p, q, ad), (mm_up I 6 14 (nI 0)), J)) : mm_wc (d + 1) 28 [.ref 6, .int x0] ((fl, n1, n2, p, q, ad), I, J) Q := by
  refine mm_call (c := 28) rfl rfl ?_
  refine mm_go [7] 80 ?_
  exact h
theorem fx_28_7 {d : Nat} {a1 : Int32} {a2 : Int32} {fl : Nat → Bool} {n1 n2 : Nat} {p q : Bool} {ad : Nat → Nat} {I : mmI} {J : mmJ} {Q : mmQ} (h : (((I (mm_ck p 1) 3) ≤ a2 → Q none ((fl, n1, n2, p, q, ad), I, J)) ∧ (¬ (I (mm_ck p 1) 3) ≤ a2 → (vp_in a2 10 ∧ ((¬ (I (mm_ck p 4) a2.toNatClampNeg) = (nI 2) → mm_w Q (mm_wc d) bk_28 7 [some (.ref 6), some (.int a1), some (.int (a2 + (nI 1)))] [] ((fl, n1, n2, p, q, ad), I, J)) ∧ ((I (mm_ck p 4) a2.toNatClampNeg) = (nI 2) → (vp_in a1 10 ∧ (vp_in a1 10 ∧ mm_wc d 7 [.ref 6, .int a2, .int (I (mm_ck p 9) a1.toNatClampNeg), .int (I (mm_ck p 10) a1.toNatClampNeg)] ((fl, 0, 0, p, q, ad), I, J) (fun v τ => ∃ r1 I1 J1, v = some (.int r1) ∧ τ = ((fl, 0, 0, p, q, ad), I1, J1) ∧ ((r1 = (nI 0) → mm_w Q (mm_wc d) bk_28 7 [some (.ref 6), some (.int a1), some (.int (a2 + (nI 1)))] [] ((fl, n1, n2, p, q, ad), I1, J1)) ∧ (¬ r1 = (nI 0) → mm_w Q (mm_wc d) bk_28 7 [some (.ref 6), some (.int a1), some (.int (a2 + (nI 1)))] [] ((fl, n1, n2, p, q, ad), (mm_up I1 6 14 ((I1 6 14) ||| ((nI 1) <<< (a2 &&& 31)))), J1)))))))))))) : mm_w Q (mm_wc (d)) bk_28 7 [some (.ref 6), some (.int a1), some (.int a2)] [] ((fl, n1, n2, p, q, ad), I, J) := by
  cases p
  · refine mm_go [7] 80 ?_
    show ((I 33 3) ≤ a2 → _) ∧ (¬ (I 33 3) ≤ a2 → _)
    refine ⟨fun c0 => ?_, fun c0 => ?_⟩
    · exact (h.1 c0)
    · show mm_b _ _ _ _ _ [some (.ref 6), some (.int a1), some (.int a2)] [] ((fl, n1, n2, false, q, ad), I, J)
      show vp_in a2 10 ∧ _
      refine ⟨(h.2 c0).1, ?_⟩
      show mm_b _ _ _ _ _ [some (.ref 6), some (.int a1), some (.int a2)] [.int (I 36 a2.toNatClampNeg)] ((fl, n1, n2, false, q, ad), I, J)
      show (¬ (I 36 a2.toNatClampNeg) = (nI 2) → _) ∧ ((I 36 a2.toNatClampNeg) = (nI 2) → _)
      refine ⟨fun c1 => ?_, fun c1 => ?_⟩
      · exact ((h.2 c0).2.1 c1)
      · show mm_b _ _ _ _ _ [some (.ref 6), some (.int a1), some (.int a2)] [] ((fl, n1, n2, false, q, ad), I, J)
        show vp_in a1 10 ∧ _
        refine ⟨((h.2 c0).2.2 c1).1, ?_⟩
        show mm_b _ _ _ _ _ [some (.ref 6), some (.int a1), some (.int a2)] [.int (I 41 a1.toNatClampNeg), .int a2, .ref 6] ((fl, n1, n2, false, q, ad), I, J)
        show vp_in a1 10 ∧ _
        refine ⟨((h.2 c0).2.2 c1).2.1, ?_⟩
        show mm_b _ _ _ _ _ [some (.ref 6), some (.int a1), some (.int a2)] [.int (I 42 a1.toNatClampNeg), .int (I 41 a1.toNatClampNeg), .int a2, .ref 6] ((fl, n1, n2, false, q, ad), I, J)
        show mm_wc d 7 [.ref 6, .int a2, .int (I 41 a1.toNatClampNeg), .int (I 42 a1.toNatClampNeg)] ((fl, 0, 0, false, q, ad), I, J) _
        refine mm_wcm (((h.2 c0).2.2 c1).2.2) ?_
        rintro v τ ⟨r1, I1, J1, rfl, rfl, h1⟩
        refine mm_r1' ⟨rfl, ?_⟩
        show mm_b _ _ _ _ _ [some (.ref 6), some (.int a1), some (.int a2)] [.int r1] ((fl, n1, n2, false, q, ad), I1, J1)
        show (r1 = (nI 0) → _) ∧ (¬ r1 = (nI 0) → _)
        refine ⟨fun c2 => ?_, fun c2 => ?_⟩
        · exact (h1.1 c2)
        · exact (h1.2 c2)
  · refine mm_go [7] 80 ?_
    show ((I 19 3) ≤ a2 → _) ∧ (¬ (I 19 3) ≤ a2 → _)
    refine ⟨fun c0 => ?_, fun c0 => ?_⟩
    · exact (h.1 c0)
    · show mm_b _ _ _ _ _ [some (.ref 6), some (.int a1), some (.int a2)] [] ((fl, n1, n2, true, q, ad), I, J)
      show vp_in a2 10 ∧ _
      refine ⟨(h.2 c0).1, ?_⟩
      show mm_b _ _ _ _ _ [some (.ref 6), some (.int a1), some (.int a2)] [.int (I 22 a2.toNatClampNeg)] ((fl, n1, n2, true, q, ad), I, J)
      show (¬ (I 22 a2.toNatClampNeg) = (nI 2) → _) ∧ ((I 22 a2.toNatClampNeg) = (nI 2) → _)
      refine ⟨fun c1 => ?_, fun c1 => ?_⟩
      · exact ((h.2 c0).2.1 c1)
      · show mm_b _ _ _ _ _ [some (.ref 6), some (.int a1), some (.int a2)] [] ((fl, n1, n2, true, q, ad), I, J)
        show vp_in a1 10 ∧ _
        refine ⟨((h.2 c0).2.2 c1).1, ?_⟩
        show mm_b _ _ _ _ _ [some (.ref 6), some (.int a1), some (.int a2)] [.int (I 27 a1.toNatClampNeg), .int a2, .ref 6] ((fl, n1, n2, true, q, ad), I, J)
        show vp_in a1 10 ∧ _
        refine ⟨((h.2 c0).2.2 c1).2.1, ?_⟩
        show mm_b _ _ _ _ _ [some (.ref 6), some (.int a1), some (.int a2)] [.int (I 28 a1.toNatClampNeg), .int (I 27 a1.toNatClampNeg), .int a2, .ref 6] ((fl, n1, n2, true, q, ad), I, J)
        show mm_wc d 7 [.ref 6, .int a2, .int (I 27 a1.toNatClampNeg), .int (I 28 a1.toNatClampNeg)] ((fl, 0, 0, true, q, ad), I, J) _
        refine mm_wcm (((h.2 c0).2.2 c1).2.2) ?_
        rintro v τ ⟨r1, I1, J1, rfl, rfl, h1⟩
        refine mm_r1' ⟨rfl, ?_⟩
        show mm_b _ _ _ _ _ [some (.ref 6), some (.int a1), some (.int a2)] [.int r1] ((fl, n1, n2, true, q, ad), I1, J1)
        show (r1 = (nI 0) → _) ∧ (¬ r1 = (nI 0) → _)
        refine ⟨fun c2 => ?_, fun c2 => ?_⟩
        · exact (h1.1 c2)
        · exact (h1.2 c2)
/- 29 ThreeBreaths$Board fanWithGuest -/
theorem fx_29 {d : Nat} {x0 : Int32} {x1 : Int32} {fl : Nat → Bool} {n1 n2 : Nat} {p q : Bool} {ad : Nat → Nat} {I : mmI} {J : mmJ} {Q : mmQ} (h : (vp_in x1 10 ∧ (vp_in x1 10 ∧ mm_wc d 2 [.ref 6, .int x0, .int (I (mm_ck p 9) x1.toNatClampNeg), .int (I (mm_ck p 10) x1.toNatClampNeg), .int (nI 0)] ((fl, 0, 0, p, q, ad), I, J) (fun v τ => ∃ r1 I1 J1, v = some (.int r1) ∧ τ = ((fl, 0, 0, p, q, ad), I1, J1) ∧ ((r1 = (nI 0) → (vp_in x0 320 ∧ Q (some (.int (I1 7 x0.toNatClampNeg))) ((fl, n1, n2, p, q, ad), I1, J1))) ∧ (¬ r1 = (nI 0) → (vp_in x0 320 ∧ Q (some (.int ((I1 7 x0.toNatClampNeg) ||| (nI 1024)))) ((fl, n1, n2, p, q, ad), I1, J1)))))))) : mm_wc (d + 1) 29 [.ref 6, .int x0, .int x1] ((fl, n1, n2, p, q, ad), I, J) Q := by
  cases p
  · refine mm_call (c := 29) rfl rfl ?_
    refine mm_go [] 80 ?_
    show vp_in x1 10 ∧ _
    refine ⟨h.1, ?_⟩
    show mm_b _ _ _ _ _ [some (.ref 6), some (.int x0), some (.int x1)] [.int (I 41 x1.toNatClampNeg), .int x0, .ref 6] ((fl, n1, n2, false, q, ad), I, J)
    show vp_in x1 10 ∧ _
    refine ⟨h.2.1, ?_⟩
    show mm_b _ _ _ _ _ [some (.ref 6), some (.int x0), some (.int x1)] [.int (I 42 x1.toNatClampNeg), .int (I 41 x1.toNatClampNeg), .int x0, .ref 6] ((fl, n1, n2, false, q, ad), I, J)
    show mm_wc d 2 [.ref 6, .int x0, .int (I 41 x1.toNatClampNeg), .int (I 42 x1.toNatClampNeg), .int (nI 0)] ((fl, 0, 0, false, q, ad), I, J) _
    refine mm_wcm (h.2.2) ?_
    rintro v τ ⟨r1, I1, J1, rfl, rfl, h1⟩
    refine mm_r1' ⟨rfl, ?_⟩
    show mm_b _ _ _ _ _ [some (.ref 6), some (.int x0), some (.int x1)] [.int r1] ((fl, n1, n2, false, q, ad), I1, J1)
    show (r1 = (nI 0) → _) ∧ (¬ r1 = (nI 0) → _)
    refine ⟨fun c0 => ?_, fun c0 => ?_⟩
    · show mm_u _ _ _ _ _ _ [some (.ref 6), some (.int x0), some (.int x1)] [] ((fl, n1, n2, false, q, ad), I1, J1)
      show vp_in x0 320 ∧ _
      refine ⟨(h1.1 c0).1, ?_⟩
      exact (h1.1 c0).2
    · show mm_b _ _ _ _ _ [some (.ref 6), some (.int x0), some (.int x1)] [] ((fl, n1, n2, false, q, ad), I1, J1)
      show vp_in x0 320 ∧ _
      refine ⟨(h1.2 c0).1, ?_⟩
      exact (h1.2 c0).2
  · refine mm_call (c := 29) rfl rfl ?_
    refine mm_go [] 80 ?_
    show vp_in x1 10 ∧ _
    refine ⟨h.1, ?_⟩
    show mm_b _ _ _ _ _ [some (.ref 6), some (.int x0), some (.int x1)] [.int (I 27 x1.toNatClampNeg), .int x0, .ref 6] ((fl, n1, n2, true, q, ad), I, J)
    show vp_in x1 10 ∧ _
    refine ⟨h.2.1, ?_⟩
    show mm_b _ _ _ _ _ [some (.ref 6), some (.int x0), some (.int x1)] [.int (I 28 x1.toNatClampNeg), .int (I 27 x1.toNatClampNeg), .int x0, .ref 6] ((fl, n1, n2, true, q, ad), I, J)
    show mm_wc d 2 [.ref 6, .int x0, .int (I 27 x1.toNatClampNeg), .int (I 28 x1.toNatClampNeg), .int (nI 0)] ((fl, 0, 0, true, q, ad), I, J) _
    refine mm_wcm (h.2.2) ?_
    rintro v τ ⟨r1, I1, J1, rfl, rfl, h1⟩
    refine mm_r1' ⟨rfl, ?_⟩
    show mm_b _ _ _ _ _ [some (.ref 6), some (.int x0), some (.int x1)] [.int r1] ((fl, n1, n2, true, q, ad), I1, J1)
    show (r1 = (nI 0) → _) ∧ (¬ r1 = (nI 0) → _)
    refine ⟨fun c0 => ?_, fun c0 => ?_⟩
    · show mm_u _ _ _ _ _ _ [some (.ref 6), some (.int x0), some (.int x1)] [] ((fl, n1, n2, true, q, ad), I1, J1)
      show vp_in x0 320 ∧ _
      refine ⟨(h1.1 c0).1, ?_⟩
      exact (h1.1 c0).2
    · show mm_b _ _ _ _ _ [some (.ref 6), some (.int x0), some (.int x1)] [] ((fl, n1, n2, true, q, ad), I1, J1)
      show vp_in x0 320 ∧ _
      refine ⟨(h1.2 c0).1, ?_⟩
      exact (h1.2 c0).2
/- 30 ThreeBreaths$Board wayBetween -/
theorem fx_30 {d : Nat} {x0 : Int32} {x1 : Int32} {fl : Nat → Bool} {n1 n2 : Nat} {p q : Bool} {ad : Nat → Nat} {I : mmI} {J : mmJ} {Q : mmQ} (h : (vp_in x0 10 ∧ (vp_in x1 10 ∧ mm_wc d 1000 [.int ((I (mm_ck p 6) x0.toNatClampNeg) - (I (mm_ck p 6) x1.toNatClampNeg))] ((fl, 0, 0, p, q, ad), I, J) (fun v τ => ∃ r1 I1 J1, v = some (.int r1) ∧ τ = ((fl, 0, 0, p, q, ad), I1, J1) ∧ (vp_in x0 10 ∧ (vp_in x1 10 ∧ mm_wc d 1000 [.int ((I1 (mm_ck p 7) x0.toNatClampNeg) - (I1 (mm_ck p 7) x1.toNatClampNeg))] ((fl, 0, 0, p, q, ad), I1, J1) (fun v τ => ∃ r2 I2 J2, v = some (.int r2) ∧ τ = ((fl, 0, 0, p, q, ad), I2, J2) ∧ Q (some (.int (r1 + r2))) ((fl, n1, n2, p, q, ad), I2, J2)))))))) : mm_wc (d + 1) 30 [.ref 6, .int x0, .int x1] ((fl, n1, n2, p, q, ad), I, J) Q := by
  cases p
  · refine mm_call (c := 30) rfl rfl ?_
    refine mm_go [] 80 ?_
    show vp_in x0 10 ∧ _
    refine ⟨h.1, ?_⟩
    show mm_b _ _ _ _ _ [some (.ref 6), some (.int x0), some (.int x1)] [.int (I 38 x0.toNatClampNeg)] ((fl, n1, n2, false, q, ad), I, J)
    show vp_in x1 10 ∧ _
    refine ⟨h.2.1, ?_⟩
    show mm_b _ _ _ _ _ [some (.ref 6), some (.int x0), some (.int x1)] [.int (I 38 x1.toNatClampNeg), .int (I 38 x0.toNatClampNeg)] ((fl, n1, n2, false, q, ad), I, J)
    show mm_wc d 1000 [.int ((I 38 x0.toNatClampNeg) - (I 38 x1.toNatClampNeg))] ((fl, 0, 0, false, q, ad), I, J) _
    refine mm_wcm (h.2.2) ?_
    rintro v τ ⟨r1, I1, J1, rfl, rfl, h1⟩
    refine mm_r1' ⟨rfl, ?_⟩
    show mm_b _ _ _ _ _ [some (.ref 6), some (.int x0), some (.int x1)] [.int r1] ((fl, n1, n2, false, q, ad), I1, J1)
    show vp_in x0 10 ∧ _
    refine ⟨h1.1, ?_⟩
    show mm_b _ _ _ _ _ [some (.ref 6), some (.int x0), some (.int x1)] [.int (I1 39 x0.toNatClampNeg), .int r1] ((fl, n1, n2, false, q, ad), I1, J1)
    show vp_in x1 10 ∧ _
    refine ⟨h1.2.1, ?_⟩
    show mm_b _ _ _ _ _ [some (.ref 6), some (.int x0), some (.int x1)] [.int (I1 39 x1.toNatClampNeg), .int (I1 39 x0.toNatClampNeg), .int r1] ((fl, n1, n2, false, q, ad), I1, J1)
    show mm_wc d 1000 [.int ((I1 39 x0.toNatClampNeg) - (I1 39 x1.toNatClampNeg))] ((fl, 0, 0, false, q, ad), I1, J1) _
    refine mm_wcm (h1.2.2) ?_
    rintro v τ ⟨r2, I2, J2, rfl, rfl, h2⟩
    refine mm_r1' ⟨rfl, ?_⟩
    exact h2
  · refine mm_call (c := 30) rfl rfl ?_
    refine mm_go [] 80 ?_
    show vp_in x0 10 ∧ _
    refine ⟨h.1, ?_⟩
    show mm_b _ _ _ _ _ [some (.ref 6), some (.int x0), some (.int x1)] [.int (I 24 x0.toNatClampNeg)] ((fl, n1, n2, true, q, ad), I, J)
    show vp_in x1 10 ∧ _
    refine ⟨h.2.1, ?_⟩
    show mm_b _ _ _ _ _ [some (.ref 6), some (.int x0), some (.int x1)] [.int (I 24 x1.toNatClampNeg), .int (I 24 x0.toNatClampNeg)] ((fl, n1, n2, true, q, ad), I, J)
    show mm_wc d 1000 [.int ((I 24 x0.toNatClampNeg) - (I 24 x1.toNatClampNeg))] ((fl, 0, 0, true, q, ad), I, J) _
    refine mm_wcm (h.2.2) ?_
    rintro v τ ⟨r1, I1, J1, rfl, rfl, h1⟩
    refine mm_r1' ⟨rfl, ?_⟩
    show mm_b _ _ _ _ _ [some (.ref 6), some (.int x0), some (.int x1)] [.int r1] ((fl, n1, n2, true, q, ad), I1, J1)
    show vp_in x0 10 ∧ _
    refine ⟨h1.1, ?_⟩
    show mm_b _ _ _ _ _ [some (.ref 6), some (.int x0), some (.int x1)] [.int (I1 25 x0.toNatClampNeg), .int r1] ((fl, n1, n2, true, q, ad), I1, J1)
    show vp_in x1 10 ∧ _
    refine ⟨h1.2.1, ?_⟩
    show mm_b _ _ _ _ _ [some (.ref 6), some (.int x0), some (.int x1)] [.int (I1 25 x1.toNatClampNeg), .int (I1 25 x0.toNatClampNeg), .int r1] ((fl, n1, n2, true, q, ad), I1, J1)
    show mm_wc d 1000 [.int ((I1 25 x0.toNatClampNeg) - (I1 25 x1.toNatClampNeg))] ((fl, 0, 0, true, q, ad), I1, J1) _
    refine mm_wcm (h1.2.2) ?_
    rintro v τ ⟨r2, I2, J2, rfl, rfl, h2⟩
    refine mm_r1' ⟨rfl, ?_⟩
    exact h2
/- 31 ThreeBreaths$Cake clear -/
theorem fx_31 {d : Nat} {fl : Nat → Bool} {n1 n2 : Nat} {p q : Bool} {ad : Nat → Nat} {I : mmI} {J : mmJ} {Q : mmQ} (h : Q none ((fl, n1, n2, p, q, ad), (mm_up (mm_up (mm_up (mm_up (mm_up (mm_up (mm_up (mm_up (mm_up (mm_up (mm_up I (mm_ck q 1) 3 (nI 0)) (mm_ck q 5) 3 (nI 0)) (mm_ck q 8) 3 (nI 0)) (mm_ck q 0) 6 (nI 0)) (mm_ck q 0) 7 (-1)) (mm_ck q 0) 8 (nI 0)) (mm_ck q 13) 0 (nI 0)) (mm_ck q 13) 1 (nI 1)) (mm_ck q 13) 2 (nI 0)) (mm_ck q 0) 10 (nI 0)) (mm_ck q 0) 11 (-2)), J)) : mm_wc (d + 1) 31 [.ref (mm_ck q 0)] ((fl, n1, n2, p, q, ad), I, J) Q := by
  cases q
  · refine mm_call (c := 31) rfl rfl ?_
    refine mm_go [] 80 ?_
    show (vp_in (nI 0) 3) ∧ _
    refine ⟨(mm_inl (by decide)), ?_⟩
    show mm_b _ _ _ _ _ [some (.ref 32)] [] ((fl, n1, n2, p, false, ad), (mm_up (mm_up (mm_up (mm_up (mm_up (mm_up (mm_up I 33 3 (nI 0)) 37 3 (nI 0)) 40 3 (nI 0)) 32 6 (nI 0)) 32 7 (-1)) 32 8 (nI 0)) 45 0 (nI 0)), J)
    show (vp_in (nI 1) 3) ∧ _
    refine ⟨(mm_inl (by decide)), ?_⟩
    show mm_b _ _ _ _ _ [some (.ref 32)] [] ((fl, n1, n2, p, false, ad), (mm_up (mm_up (mm_up (mm_up (mm_up (mm_up (mm_up (mm_up I 33 3 (nI 0)) 37 3 (nI 0)) 40 3 (nI 0)) 32 6 (nI 0)) 32 7 (-1)) 32 8 (nI 0)) 45 0 (nI 0)) 45 1 (nI 1)), J)
    show (vp_in (nI 2) 3) ∧ _
    refine ⟨(mm_inl (by decide)), ?_⟩
    show mm_b _ _ _ _ _ [some (.ref 32)] [] ((fl, n1, n2, p, false, ad), (mm_up (mm_up (mm_up (mm_up (mm_up (mm_up (mm_up (mm_up (mm_up I 33 3 (nI 0)) 37 3 (nI 0)) 40 3 (nI 0)) 32 6 (nI 0)) 32 7 (-1)) 32 8 (nI 0)) 45 0 (nI 0)) 45 1 (nI 1)) 45 2 (nI 0)), J)
    show (((nI 0) : Int32) = 0 ∨ ((nI 0) : Int32) = 1) ∧ _
    refine ⟨(by decide), ?_⟩
    exact h
  · refine mm_call (c := 31) rfl rfl ?_
    refine mm_go [] 80 ?_
    show (vp_in (nI 0) 3) ∧ _
    refine ⟨(mm_inl (by decide)), ?_⟩
    show mm_b _ _ _ _ _ [some (.ref 18)] [] ((fl, n1, n2, p, true, ad), (mm_up (mm_up (mm_up (mm_up (mm_up (mm_up (mm_up I 19 3 (nI 0)) 23 3 (nI 0)) 26 3 (nI 0)) 18 6 (nI 0)) 18 7 (-1)) 18 8 (nI 0)) 31 0 (nI 0)), J)
    show (vp_in (nI 1) 3) ∧ _
    refine ⟨(mm_inl (by decide)), ?_⟩
    show mm_b _ _ _ _ _ [some (.ref 18)] [] ((fl, n1, n2, p, true, ad), (mm_up (mm_up (mm_up (mm_up (mm_up (mm_up (mm_up (mm_up I 19 3 (nI 0)) 23 3 (nI 0)) 26 3 (nI 0)) 18 6 (nI 0)) 18 7 (-1)) 18 8 (nI 0)) 31 0 (nI 0)) 31 1 (nI 1)), J)
    show (vp_in (nI 2) 3) ∧ _
    refine ⟨(mm_inl (by decide)), ?_⟩
    show mm_b _ _ _ _ _ [some (.ref 18)] [] ((fl, n1, n2, p, true, ad), (mm_up (mm_up (mm_up (mm_up (mm_up (mm_up (mm_up (mm_up (mm_up I 19 3 (nI 0)) 23 3 (nI 0)) 26 3 (nI 0)) 18 6 (nI 0)) 18 7 (-1)) 18 8 (nI 0)) 31 0 (nI 0)) 31 1 (nI 1)) 31 2 (nI 0)), J)
    show (((nI 0) : Int32) = 0 ∨ ((nI 0) : Int32) = 1) ∧ _
    refine ⟨(by decide), ?_⟩
    exact h
/- 32 ThreeBreaths$Cake lacks -/
theorem fx_32 {d : Nat} {fl : Nat → Bool} {n1 n2 : Nat} {p q : Bool} {ad : Nat → Nat} {I : mmI} {J : mmJ} {Q : mmQ} (h : (((I (mm_ck q 0) 7) = (-1) → Q (some (.int (nI 1))) ((fl, n1, n2, p, q, ad), I, J)) ∧ (¬ (I (mm_ck q 0) 7) = (-1) → (((I (mm_ck q 1) 3) = (nI 0) → Q (some (.int (nI 1))) ((fl, n1, n2, p, q, ad), I, J)) ∧ (¬ (I (mm_ck q 1) 3) = (nI 0) → (((I (mm_ck q 5) 3) = (nI 0) → Q (some (.int (nI 1))) ((fl, n1, n2, p, q, ad), I, J)) ∧ (¬ (I (mm_ck q 5) 3) = (nI 0) → ((¬ (I (mm_ck q 0) 6) = (nI 0) → Q (some (.int (nI 0))) ((fl, n1, n2, p, q, ad), I, J)) ∧ ((I (mm_ck q 0) 6) = (nI 0) → Q (some (.int (nI 1))) ((fl, n1, n2, p, q, ad), I, J)))))))))) : mm_wc (d + 1) 32 [.ref (mm_ck q 0)] ((fl, n1, n2, p, q, ad), I, J) Q := by
  cases q
  · refine mm_call (c := 32) rfl rfl ?_
    refine mm_go [] 80 ?_
    show ((I 32 7) = (-1) → _) ∧ (¬ (I 32 7) = (-1) → _)
    refine ⟨fun c0 => ?_, fun c0 => ?_⟩
    · show mm_u _ _ _ _ _ _ [some (.ref 32)] [] ((fl, n1, n2, p, false, ad), I, J)
      show (((nI 1) : Int32) = 0 ∨ ((nI 1) : Int32) = 1) ∧ _
      refine ⟨(by decide), ?_⟩
      exact (h.1 c0)
    · show mm_b _ _ _ _ _ [some (.ref 32)] [] ((fl, n1, n2, p, false, ad), I, J)
      show ((I 33 3) = (nI 0) → _) ∧ (¬ (I 33 3) = (nI 0) → _)
      refine ⟨fun c1 => ?_, fun c1 => ?_⟩
      · show mm_u _ _ _ _ _ _ [some (.ref 32)] [] ((fl, n1, n2, p, false, ad), I, J)
        show (((nI 1) : Int32) = 0 ∨ ((nI 1) : Int32) = 1) ∧ _
        refine ⟨(by decide), ?_⟩
        exact ((h.2 c0).1 c1)
      · show mm_b _ _ _ _ _ [some (.ref 32)] [] ((fl, n1, n2, p, false, ad), I, J)
        show ((I 37 3) = (nI 0) → _) ∧ (¬ (I 37 3) = (nI 0) → _)
        refine ⟨fun c2 => ?_, fun c2 => ?_⟩
        · show mm_u _ _ _ _ _ _ [some (.ref 32)] [] ((fl, n1, n2, p, false, ad), I, J)
          show (((nI 1) : Int32) = 0 ∨ ((nI 1) : Int32) = 1) ∧ _
          refine ⟨(by decide), ?_⟩
          exact (((h.2 c0).2 c1).1 c2)
        · show mm_b _ _ _ _ _ [some (.ref 32)] [] ((fl, n1, n2, p, false, ad), I, J)
          show (¬ (I 32 6) = (nI 0) → _) ∧ ((I 32 6) = (nI 0) → _)
          refine ⟨fun c3 => ?_, fun c3 => ?_⟩
          · show mm_u _ _ _ _ _ _ [some (.ref 32)] [] ((fl, n1, n2, p, false, ad), I, J)
            show (((nI 0) : Int32) = 0 ∨ ((nI 0) : Int32) = 1) ∧ _
            refine ⟨(by decide), ?_⟩
            exact ((((h.2 c0).2 c1).2 c2).1 c3)
          · show mm_b _ _ _ _ _ [some (.ref 32)] [] ((fl, n1, n2, p, false, ad), I, J)
            show (((nI 1) : Int32) = 0 ∨ ((nI 1) : Int32) = 1) ∧ _
            refine ⟨(by decide), ?_⟩
            exact ((((h.2 c0).2 c1).2 c2).2 c3)
  · refine mm_call (c := 32) rfl rfl ?_
    refine mm_go [] 80 ?_
    show ((I 18 7) = (-1) → _) ∧ (¬ (I 18 7) = (-1) → _)
    refine ⟨fun c0 => ?_, fun c0 => ?_⟩
    · show mm_u _ _ _ _ _ _ [some (.ref 18)] [] ((fl, n1, n2, p, true, ad), I, J)
      show (((nI 1) : Int32) = 0 ∨ ((nI 1) : Int32) = 1) ∧ _
      refine ⟨(by decide), ?_⟩
      exact (h.1 c0)
    · show mm_b _ _ _ _ _ [some (.ref 18)] [] ((fl, n1, n2, p, true, ad), I, J)
      show ((I 19 3) = (nI 0) → _) ∧ (¬ (I 19 3) = (nI 0) → _)
      refine ⟨fun c1 => ?_, fun c1 => ?_⟩
      · show mm_u _ _ _ _ _ _ [some (.ref 18)] [] ((fl, n1, n2, p, true, ad), I, J)
        show (((nI 1) : Int32) = 0 ∨ ((nI 1) : Int32) = 1) ∧ _
        refine ⟨(by decide), ?_⟩
        exact ((h.2 c0).1 c1)
      · show mm_b _ _ _ _ _ [some (.ref 18)] [] ((fl, n1, n2, p, true, ad), I, J)
        show ((I 23 3) = (nI 0) → _) ∧ (¬ (I 23 3) = (nI 0) → _)
        refine ⟨fun c2 => ?_, fun c2 => ?_⟩
        · show mm_u _ _ _ _ _ _ [some (.ref 18)] [] ((fl, n1, n2, p, true, ad), I, J)
          show (((nI 1) : Int32) = 0 ∨ ((nI 1) : Int32) = 1) ∧ _
          refine ⟨(by decide), ?_⟩
          exact (((h.2 c0).2 c1).1 c2)
        · show mm_b _ _ _ _ _ [some (.ref 18)] [] ((fl, n1, n2, p, true, ad), I, J)
          show (¬ (I 18 6) = (nI 0) → _) ∧ ((I 18 6) = (nI 0) → _)
          refine ⟨fun c3 => ?_, fun c3 => ?_⟩
          · show mm_u _ _ _ _ _ _ [some (.ref 18)] [] ((fl, n1, n2, p, true, ad), I, J)
            show (((nI 0) : Int32) = 0 ∨ ((nI 0) : Int32) = 1) ∧ _
            refine ⟨(by decide), ?_⟩
            exact ((((h.2 c0).2 c1).2 c2).1 c3)
          · show mm_b _ _ _ _ _ [some (.ref 18)] [] ((fl, n1, n2, p, true, ad), I, J)
            show (((nI 1) : Int32) = 0 ∨ ((nI 1) : Int32) = 1) ∧ _
            refine ⟨(by decide), ?_⟩
            exact ((((h.2 c0).2 c1).2 c2).2 c3)
/- 33 ThreeBreaths$Cake trickCount -/
theorem fx_33 {d : Nat} {fl : Nat → Bool} {n1 n2 : Nat} {p q : Bool} {ad : Nat → Nat} {I : mmI} {J : mmJ} {Q : mmQ} (h : mm_w Q (mm_wc d) bk_33 4 [some (.ref (mm_ck q 0)), some (.int (nI 0)), some (.int (nI 0))] [] ((fl, n1, n2, p, q, ad), I, J)) : mm_wc (d + 1) 33 [.ref (mm_ck q 0)] ((fl, n1, n2, p, q, ad), I, J) Q := by
  cases q
  · refine mm_call (c := 33) rfl rfl ?_
    refine mm_go [4] 80 ?_
    exact h
  · refine mm_call (c := 33) rfl rfl ?_
    refine mm_go [4] 80 ?_
    exact h
theorem fx_33_4 {d : Nat} {a1 : Int32} {a2 : Int32} {fl : Nat → Bool} {n1 n2 : Nat} {p q : Bool} {ad : Nat → Nat} {I : mmI} {J : mmJ} {Q : mmQ} (h : (((I (mm_ck q 1) 3) ≤ a2 → Q (some (.int a1)) ((fl, n1, n2, p, q, ad), I, J)) ∧ (¬ (I (mm_ck q 1) 3) ≤ a2 → (vp_in a2 10 ∧ ((¬ (I (mm_ck q 4) a2.toNatClampNeg) = (nI 3) → mm_w Q (mm_wc d) bk_33 4 [some (.ref (mm_ck q 0)), some (.int a1), some (.int (a2 + (nI 1)))] [] ((fl, n1, n2, p, q, ad), I, J)) ∧ ((I (mm_ck q 4) a2.toNatClampNeg) = (nI 3) → mm_w Q (mm_wc d) bk_33 4 [some (.ref (mm_ck q 0)), some (.int (a1 + (nI 1))), some (.int (a2 + (nI 1)))] [] ((fl, n1, n2, p, q, ad), I, J))))))) : mm_w Q (mm_wc (d)) bk_33 4 [some (.ref (mm_ck q 0)), some (.int a1), some (.int a2)] [] ((fl, n1, n2, p, q, ad), I, J) := by
  cases q
  · refine mm_go [4] 80 ?_
    show ((I 33 3) ≤ a2 → _) ∧ (¬ (I 33 3) ≤ a2 → _)
    refine ⟨fun c0 => ?_, fun c0 => ?_⟩
    · exact (h.1 c0)
    · show mm_b _ _ _ _ _ [some (.ref 32), some (.int a1), some (.int a2)] [] ((fl, n1, n2, p, false, ad), I, J)
      show vp_in a2 10 ∧ _
      refine ⟨(h.2 c0).1, ?_⟩
      show mm_b _ _ _ _ _ [some (.ref 32), some (.int a1), some (.int a2)] [.int (I 36 a2.toNatClampNeg)] ((fl, n1, n2, p, false, ad), I, J)
      show (¬ (I 36 a2.toNatClampNeg) = (nI 3) → _) ∧ ((I 36 a2.toNatClampNeg) = (nI 3) → _)
      refine ⟨fun c1 => ?_, fun c1 => ?_⟩
      · exact ((h.2 c0).2.1 c1)
      · exact ((h.2 c0).2.2 c1)
  · refine mm_go [4] 80 ?_
    show ((I 19 3) ≤ a2 → _) ∧ (¬ (I 19 3) ≤ a2 → _)
    refine ⟨fun c0 => ?_, fun c0 => ?_⟩
    · exact (h.1 c0)
    · show mm_b _ _ _ _ _ [some (.ref 18), some (.int a1), some (.int a2)] [] ((fl, n1, n2, p, true, ad), I, J)
      show vp_in a2 10 ∧ _
      refine ⟨(h.2 c0).1, ?_⟩
      show mm_b _ _ _ _ _ [some (.ref 18), some (.int a1), some (.int a2)] [.int (I 22 a2.toNatClampNeg)] ((fl, n1, n2, p, true, ad), I, J)
      show (¬ (I 22 a2.toNatClampNeg) = (nI 3) → _) ∧ ((I 22 a2.toNatClampNeg) = (nI 3) → _)
      refine ⟨fun c1 => ?_, fun c1 => ?_⟩
      · exact ((h.2 c0).2.1 c1)
      · exact ((h.2 c0).2.2 c1)
/- 34 ThreeBreaths$FanList start -/
theorem fx_34 {d : Nat} {b1 b2 : Bool} {n1 n2 : Nat} {p q : Bool} {ad : Nat → Nat} {I : mmI} {J : mmJ} {Q : mmQ} (h : Q none (((mm_fl true b1 b2), n1, n2, p, q, ad), (mm_up (mm_up I 77 3 (nI 0)) 77 5 ((I 77 5) + (nI 1))), J)) : mm_wc (d + 1) 34 [.ref 77] (((mm_fl true b1 b2), n1, n2, p, q, ad), I, J) Q := by
  refine mm_call (c := 34) rfl rfl ?_
  refine mm_go [] 80 ?_
  exact h
/- 35 ThreeBreaths$FanList add -/
theorem fx_35 {d : Nat} {x0 : Int32} {x1 : Int32} {b1 b2 : Bool} {n1 n2 : Nat} {p q : Bool} {ad : Nat → Nat} {I : mmI} {J : mmJ} {Q : mmQ} (h : (vp_in x1 2048 ∧ (((I 80 x1.toNatClampNeg) = (I 77 5) → Q none (((mm_fl true b1 b2), n1, n2, p, q, ad), I, J)) ∧ (¬ (I 80 x1.toNatClampNeg) = (I 77 5) → (((nI 320) ≤ (I 77 3) → Q none (((mm_fl true b1 b2), n1, n2, p, q, ad), I, J)) ∧ (¬ (nI 320) ≤ (I 77 3) → (vp_in x1 2048 ∧ (vp_in (I 77 3) 320 ∧ (vp_in (I 77 3) 320 ∧ Q none (((mm_fl true b1 b2), n1, n2, p, q, ad), (mm_up (mm_up (mm_up (mm_up I 80 x1.toNatClampNeg (I 77 5)) 78 ((I 77 3)).toNatClampNeg x1) 79 ((I 77 3)).toNatClampNeg x0) 77 3 ((I 77 3) + (nI 1))), J)))))))))) : mm_wc (d + 1) 35 [.ref 77, .int x0, .int x1] (((mm_fl true b1 b2), n1, n2, p, q, ad), I, J) Q := by
  refine mm_call (c := 35) rfl rfl ?_
  refine mm_go [] 80 ?_
  show vp_in x1 2048 ∧ _
  refine ⟨h.1, ?_⟩
  show mm_b _ _ _ _ _ [some (.ref 77), some (.int x0), some (.int x1)] [.int (I 80 x1.toNatClampNeg)] (((mm_fl true b1 b2), n1, n2, p, q, ad), I, J)
  show ((I 80 x1.toNatClampNeg) = (I 77 5) → _) ∧ (¬ (I 80 x1.toNatClampNeg) = (I 77 5) → _)
  refine ⟨fun c0 => ?_, fun c0 => ?_⟩
  · exact (h.2.1 c0)
  · show mm_b _ _ _ _ _ [some (.ref 77), some (.int x0), some (.int x1)] [] (((mm_fl true b1 b2), n1, n2, p, q, ad), I, J)
    show ((nI 320) ≤ (I 77 3) → _) ∧ (¬ (nI 320) ≤ (I 77 3) → _)
    refine ⟨fun c1 => ?_, fun c1 => ?_⟩
    · exact ((h.2.2 c0).1 c1)
    · show mm_b _ _ _ _ _ [some (.ref 77), some (.int x0), some (.int x1)] [] (((mm_fl true b1 b2), n1, n2, p, q, ad), I, J)
      show vp_in x1 2048 ∧ _
      refine ⟨((h.2.2 c0).2 c1).1, ?_⟩
      show mm_b _ _ _ _ _ [some (.ref 77), some (.int x0), some (.int x1)] [] (((mm_fl true b1 b2), n1, n2, p, q, ad), (mm_up I 80 x1.toNatClampNeg (I 77 5)), J)
      show vp_in (I 77 3) 320 ∧ _
      refine ⟨((h.2.2 c0).2 c1).2.1, ?_⟩
      show mm_b _ _ _ _ _ [some (.ref 77), some (.int x0), some (.int x1)] [] (((mm_fl true b1 b2), n1, n2, p, q, ad), (mm_up (mm_up I 80 x1.toNatClampNeg (I 77 5)) 78 ((I 77 3)).toNatClampNeg x1), J)
      show vp_in (I 77 3) 320 ∧ _
      refine ⟨((h.2.2 c0).2 c1).2.2.1, ?_⟩
      exact ((h.2.2 c0).2 c1).2.2.2
/- 36 ThreeBreaths$FanList list -/
theorem fx_36 {d : Nat} {x0 : Int32} {x1 : Int32} {x2 : Int32} {b1 b2 : Bool} {n1 n2 : Nat} {p q : Bool} {ad : Nat → Nat} {I : mmI} {J : mmJ} {Q : mmQ} (h : mm_wc d 34 [.ref 77] (((mm_fl true b1 b2), 0, 0, p, q, ad), I, J) (fun v τ => ∃ I1 J1, v = none ∧ τ = (((mm_fl true b1 b2), 0, 0, p, q, ad), I1, J1) ∧ mm_w Q (mm_wc d) bk_36 7 [some (.ref 77), some (.int x0), some (.int x1), some (.int x2), some (.int (nI 0)), none] [] (((mm_fl true b1 b2), n1, n2, p, q, ad), I1, J1))) : mm_wc (d + 1) 36 [.ref 77, .int x0, .int x1, .int x2] (((mm_fl true b1 b2), n1, n2, p, q, ad), I, J) Q := by
  refine mm_call (c := 36) rfl rfl ?_
  refine mm_go [7] 80 ?_
  show mm_wc d 34 [.ref 77] (((mm_fl true b1 b2), 0, 0, p, q, ad), I, J) _
  refine mm_wcm h ?_
  rintro v τ ⟨I1, J1, rfl, rfl, h1⟩
  refine mm_r0' ⟨rfl, ?_⟩
  exact h1
theorem fx_36_7 {d : Nat} {a1 : Int32} {a2 : Int32} {a3 : Int32} {a4 : Int32} {b1 b2 : Bool} {n1 n2 : Nat} {p q : Bool} {ad : Nat → Nat} {I : mmI} {J : mmJ} {Q : mmQ} (h : (((I 6 2) ≤ a4 → Q none (((mm_fl true b1 b2), n1, n2, p, q, ad), I, J)) ∧ (¬ (I 6 2) ≤ a4 → ((¬ a1 = (nI 1) → mm_wc d 12 [.ref 6, .int a4] (((mm_fl true b1 b2), 0, 0, p, q, ad), I, J) (fun v τ => ∃ r1 I1 J1, v = some (.int r1) ∧ τ = (((mm_fl true b1 b2), 0, 0, p, q, ad), I1, J1) ∧ ((a1 = (nI 4) → (vp_in a4 320 ∧ mm_wc d 35 [.ref 77, .int a4, .int (I1 7 a4.toNatClampNeg)] (((mm_fl true b1 b2), 0, 0, p, q, ad), I1, J1) (fun v τ => ∃ I2 J2, v = none ∧ τ = (((mm_fl true b1 b2), 0, 0, p, q, ad), I2, J2) ∧ mm_w Q (mm_wc d) bk_36 7 [some (.ref 77), some (.int a1), some (.int a2), some (.int a3), some (.int (a4 + (nI 1))), none] [] (((mm_fl true b1 b2), n1, n2, p, q, ad), I2, J2)))) ∧ (¬ a1 = (nI 4) → ((¬ r1 = a2 → ((¬ (nI 0) = a3 → mm_w Q (mm_wc d) bk_36 7 [some (.ref 77), some (.int a1), some (.int a2), some (.int a3), some (.int (a4 + (nI 1))), none] [] (((mm_fl true b1 b2), n1, n2, p, q, ad), I1, J1)) ∧ ((nI 0) = a3 → (vp_in a4 320 ∧ mm_wc d 35 [.ref 77, .int a4, .int (I1 7 a4.toNatClampNeg)] (((mm_fl true b1 b2), 0, 0, p, q, ad), I1, J1) (fun v τ => ∃ I3 J3, v = none ∧ τ = (((mm_fl true b1 b2), 0, 0, p, q, ad), I3, J3) ∧ mm_w Q (mm_wc d) bk_36 7 [some (.ref 77), some (.int a1), some (.int a2), some (.int a3), some (.int (a4 + (nI 1))), none] [] (((mm_fl true b1 b2), n1, n2, p, q, ad), I3, J3)))))) ∧ (r1 = a2 → ((¬ (nI 1) = a3 → mm_w Q (mm_wc d) bk_36 7 [some (.ref 77), some (.int a1), some (.int a2), some (.int a3), some (.int (a4 + (nI 1))), none] [] (((mm_fl true b1 b2), n1, n2, p, q, ad), I1, J1)) ∧ ((nI 1) = a3 → (vp_in a4 320 ∧ mm_wc d 35 [.ref 77, .int a4, .int (I1 7 a4.toNatClampNeg)] (((mm_fl true b1 b2), 0, 0, p, q, ad), I1, J1) (fun v τ => ∃ I4 J4, v = none ∧ τ = (((mm_fl true b1 b2), 0, 0, p, q, ad), I4, J4) ∧ mm_w Q (mm_wc d) bk_36 7 [some (.ref 77), some (.int a1), some (.int a2), some (.int a3), some (.int (a4 + (nI 1))), none] [] (((mm_fl true b1 b2), n1, n2, p, q, ad), I4, J4))))))))))) ∧ (a1 = (nI 1) → mm_wc d 11 [.ref 6, .int a4] (((mm_fl true b1 b2), 0, 0, p, q, ad), I, J) (fun v τ => ∃ r5 I5 J5, v = some (.int r5) ∧ τ = (((mm_fl true b1 b2), 0, 0, p, q, ad), I5, J5) ∧ ((a1 = (nI 4) → (vp_in a4 320 ∧ mm_wc d 35 [.ref 77, .int a4, .int (I5 7 a4.toNatClampNeg)] (((mm_fl true b1 b2), 0, 0, p, q, ad), I5, J5) (fun v τ => ∃ I6 J6, v = none ∧ τ = (((mm_fl true b1 b2), 0, 0, p, q, ad), I6, J6) ∧ mm_w Q (mm_wc d) bk_36 7 [some (.ref 77), some (.int a1), some (.int a2), some (.int a3), some (.int (a4 + (nI 1))), none] [] (((mm_fl true b1 b2), n1, n2, p, q, ad), I6, J6)))) ∧ (¬ a1 = (nI 4) → ((¬ r5 = a2 → ((¬ (nI 0) = a3 → mm_w Q (mm_wc d) bk_36 7 [some (.ref 77), some (.int a1), some (.int a2), some (.int a3), some (.int (a4 + (nI 1))), none] [] (((mm_fl true b1 b2), n1, n2, p, q, ad), I5, J5)) ∧ ((nI 0) = a3 → (vp_in a4 320 ∧ mm_wc d 35 [.ref 77, .int a4, .int (I5 7 a4.toNatClampNeg)] (((mm_fl true b1 b2), 0, 0, p, q, ad), I5, J5) (fun v τ => ∃ I7 J7, v = none ∧ τ = (((mm_fl true b1 b2), 0, 0, p, q, ad), I7, J7) ∧ mm_w Q (mm_wc d) bk_36 7 [some (.ref 77), some (.int a1), some (.int a2), some (.int a3), some (.int (a4 + (nI 1))), none] [] (((mm_fl true b1 b2), n1, n2, p, q, ad), I7, J7)))))) ∧ (r5 = a2 → ((¬ (nI 1) = a3 → mm_w Q (mm_wc d) bk_36 7 [some (.ref 77), some (.int a1), some (.int a2), some (.int a3), some (.int (a4 + (nI 1))), none] [] (((mm_fl true b1 b2), n1, n2, p, q, ad), I5, J5)) ∧ ((nI 1) = a3 → (vp_in a4 320 ∧ mm_wc d 35 [.ref 77, .int a4, .int (I5 7 a4.toNatClampNeg)] (((mm_fl true b1 b2), 0, 0, p, q, ad), I5, J5) (fun v τ => ∃ I8 J8, v = none ∧ τ = (((mm_fl true b1 b2), 0, 0, p, q, ad), I8, J8) ∧ mm_w Q (mm_wc d) bk_36 7 [some (.ref 77), some (.int a1), some (.int a2), some (.int a3), some (.int (a4 + (nI 1))), none] [] (((mm_fl true b1 b2), n1, n2, p, q, ad), I8, J8))))))))))))))) : mm_w Q (mm_wc (d)) bk_36 7 [some (.ref 77), some (.int a1), some (.int a2), some (.int a3), some (.int a4), none] [] (((mm_fl true b1 b2), n1, n2, p, q, ad), I, J) := by
  refine mm_go [7] 80 ?_
  show ((I 6 2) ≤ a4 → _) ∧ (¬ (I 6 2) ≤ a4 → _)
  refine ⟨fun c0 => ?_, fun c0 => ?_⟩
  · exact (h.1 c0)
  · show mm_b _ _ _ _ _ [some (.ref 77), some (.int a1), some (.int a2), some (.int a3), some (.int a4), none] [] (((mm_fl true b1 b2), n1, n2, p, q, ad), I, J)
    show (¬ a1 = (nI 1) → _) ∧ (a1 = (nI 1) → _)
    refine ⟨fun c1 => ?_, fun c1 => ?_⟩
    · show mm_u _ _ _ _ _ _ [some (.ref 77), some (.int a1), some (.int a2), some (.int a3), some (.int a4), none] [] (((mm_fl true b1 b2), n1, n2, p, q, ad), I, J)
      show mm_wc d 12 [.ref 6, .int a4] (((mm_fl true b1 b2), 0, 0, p, q, ad), I, J) _
      refine mm_wcm ((h.2 c0).1 c1) ?_
      rintro v τ ⟨r1, I1, J1, rfl, rfl, h1⟩
      refine mm_r1' ⟨rfl, ?_⟩
      show mm_b _ _ _ _ _ [some (.ref 77), some (.int a1), some (.int a2), some (.int a3), some (.int a4), none] [.int r1] (((mm_fl true b1 b2), n1, n2, p, q, ad), I1, J1)
      show (a1 = (nI 4) → _) ∧ (¬ a1 = (nI 4) → _)
      refine ⟨fun c2 => ?_, fun c2 => ?_⟩
      · show mm_u _ _ _ _ _ _ [some (.ref 77), some (.int a1), some (.int a2), some (.int a3), some (.int a4), some (.int r1)] [] (((mm_fl true b1 b2), n1, n2, p, q, ad), I1, J1)
        show vp_in a4 320 ∧ _
        refine ⟨(h1.1 c2).1, ?_⟩
        show mm_b _ _ _ _ _ [some (.ref 77), some (.int a1), some (.int a2), some (.int a3), some (.int a4), none] [.int (I1 7 a4.toNatClampNeg), .int a4, .ref 77] (((mm_fl true b1 b2), n1, n2, p, q, ad), I1, J1)
        show mm_wc d 35 [.ref 77, .int a4, .int (I1 7 a4.toNatClampNeg)] (((mm_fl true b1 b2), 0, 0, p, q, ad), I1, J1) _
        refine mm_wcm ((h1.1 c2).2) ?_
        rintro v τ ⟨I2, J2, rfl, rfl, h2⟩
        refine mm_r0' ⟨rfl, ?_⟩
        exact h2
      · show mm_b _ _ _ _ _ [some (.ref 77), some (.int a1), some (.int a2), some (.int a3), some (.int a4), some (.int r1)] [] (((mm_fl true b1 b2), n1, n2, p, q, ad), I1, J1)
        show (¬ r1 = a2 → _) ∧ (r1 = a2 → _)
        refine ⟨fun c3 => ?_, fun c3 => ?_⟩
        · show mm_u _ _ _ _ _ _ [some (.ref 77), some (.int a1), some (.int a2), some (.int a3), some (.int a4), some (.int r1)] [] (((mm_fl true b1 b2), n1, n2, p, q, ad), I1, J1)
          show (¬ (nI 0) = a3 → _) ∧ ((nI 0) = a3 → _)
          refine ⟨fun c4 => ?_, fun c4 => ?_⟩
          · exact (((h1.2 c2).1 c3).1 c4)
          · show mm_b _ _ _ _ _ [some (.ref 77), some (.int a1), some (.int a2), some (.int a3), some (.int a4), none] [] (((mm_fl true b1 b2), n1, n2, p, q, ad), I1, J1)
            show vp_in a4 320 ∧ _
            refine ⟨(((h1.2 c2).1 c3).2 c4).1, ?_⟩
            show mm_b _ _ _ _ _ [some (.ref 77), some (.int a1), some (.int a2), some (.int a3), some (.int a4), none] [.int (I1 7 a4.toNatClampNeg), .int a4, .ref 77] (((mm_fl true b1 b2), n1, n2, p, q, ad), I1, J1)
            show mm_wc d 35 [.ref 77, .int a4, .int (I1 7 a4.toNatClampNeg)] (((mm_fl true b1 b2), 0, 0, p, q, ad), I1, J1) _
            refine mm_wcm ((((h1.2 c2).1 c3).2 c4).2) ?_
            rintro v τ ⟨I3, J3, rfl, rfl, h3⟩
            refine mm_r0' ⟨rfl, ?_⟩
            exact h3
        · show mm_b _ _ _ _ _ [some (.ref 77), some (.int a1), some (.int a2), some (.int a3), some (.int a4), some (.int r1)] [] (((mm_fl true b1 b2), n1, n2, p, q, ad), I1, J1)
          show (¬ (nI 1) = a3 → _) ∧ ((nI 1) = a3 → _)
          refine ⟨fun c4 => ?_, fun c4 => ?_⟩
          · exact (((h1.2 c2).2 c3).1 c4)
          · show mm_b _ _ _ _ _ [some (.ref 77), some (.int a1), some (.int a2), some (.int a3), some (.int a4), none] [] (((mm_fl true b1 b2), n1, n2, p, q, ad), I1, J1)
            show vp_in a4 320 ∧ _
            refine ⟨(((h1.2 c2).2 c3).2 c4).1, ?_⟩
            show mm_b _ _ _ _ _ [some (.ref 77), some (.int a1), some (.int a2), some (.int a3), some (.int a4), none] [.int (I1 7 a4.toNatClampNeg), .int a4, .ref 77] (((mm_fl true b1 b2), n1, n2, p, q, ad), I1, J1)
            show mm_wc d 35 [.ref 77, .int a4, .int (I1 7 a4.toNatClampNeg)] (((mm_fl true b1 b2), 0, 0, p, q, ad), I1, J1) _
            refine mm_wcm ((((h1.2 c2).2 c3).2 c4).2) ?_
            rintro v τ ⟨I4, J4, rfl, rfl, h4⟩
            refine mm_r0' ⟨rfl, ?_⟩
            exact h4
    · show mm_b _ _ _ _ _ [some (.ref 77), some (.int a1), some (.int a2), some (.int a3), some (.int a4), none] [] (((mm_fl true b1 b2), n1, n2, p, q, ad), I, J)
      show mm_wc d 11 [.ref 6, .int a4] (((mm_fl true b1 b2), 0, 0, p, q, ad), I, J) _
      refine mm_wcm ((h.2 c0).2 c1) ?_
      rintro v τ ⟨r5, I5, J5, rfl, rfl, h5⟩
      refine mm_r1' ⟨rfl, ?_⟩
      show mm_b _ _ _ _ _ [some (.ref 77), some (.int a1), some (.int a2), some (.int a3), some (.int a4), none] [.int r5] (((mm_fl true b1 b2), n1, n2, p, q, ad), I5, J5)
      show (a1 = (nI 4) → _) ∧ (¬ a1 = (nI 4) → _)
      refine ⟨fun c2 => ?_, fun c2 => ?_⟩
      · show mm_u _ _ _ _ _ _ [some (.ref 77), some (.int a1), some (.int a2), some (.int a3), some (.int a4), some (.int r5)] [] (((mm_fl true b1 b2), n1, n2, p, q, ad), I5, J5)
        show vp_in a4 320 ∧ _
        refine ⟨(h5.1 c2).1, ?_⟩
        show mm_b _ _ _ _ _ [some (.ref 77), some (.int a1), some (.int a2), some (.int a3), some (.int a4), none] [.int (I5 7 a4.toNatClampNeg), .int a4, .ref 77] (((mm_fl true b1 b2), n1, n2, p, q, ad), I5, J5)
        show mm_wc d 35 [.ref 77, .int a4, .int (I5 7 a4.toNatClampNeg)] (((mm_fl true b1 b2), 0, 0, p, q, ad), I5, J5) _
        refine mm_wcm ((h5.1 c2).2) ?_
        rintro v τ ⟨I6, J6, rfl, rfl, h6⟩
        refine mm_r0' ⟨rfl, ?_⟩
        exact h6
      · show mm_b _ _ _ _ _ [some (.ref 77), some (.int a1), some (.int a2), some (.int a3), some (.int a4), some (.int r5)] [] (((mm_fl true b1 b2), n1, n2, p, q, ad), I5, J5)
        show (¬ r5 = a2 → _) ∧ (r5 = a2 → _)
        refine ⟨fun c3 => ?_, fun c3 => ?_⟩
        · show mm_u _ _ _ _ _ _ [some (.ref 77), some (.int a1), some (.int a2), some (.int a3), some (.int a4), some (.int r5)] [] (((mm_fl true b1 b2), n1, n2, p, q, ad), I5, J5)
          show (¬ (nI 0) = a3 → _) ∧ ((nI 0) = a3 → _)
          refine ⟨fun c4 => ?_, fun c4 => ?_⟩
          · exact (((h5.2 c2).1 c3).1 c4)
          · show mm_b _ _ _ _ _ [some (.ref 77), some (.int a1), some (.int a2), some (.int a3), some (.int a4), none] [] (((mm_fl true b1 b2), n1, n2, p, q, ad), I5, J5)
            show vp_in a4 320 ∧ _
            refine ⟨(((h5.2 c2).1 c3).2 c4).1, ?_⟩
            show mm_b _ _ _ _ _ [some (.ref 77), some (.int a1), some (.int a2), some (.int a3), some (.int a4), none] [.int (I5 7 a4.toNatClampNeg), .int a4, .ref 77] (((mm_fl true b1 b2), n1, n2, p, q, ad), I5, J5)
            show mm_wc d 35 [.ref 77, .int a4, .int (I5 7 a4.toNatClampNeg)] (((mm_fl true b1 b2), 0, 0, p, q, ad), I5, J5) _
            refine mm_wcm ((((h5.2 c2).1 c3).2 c4).2) ?_
            rintro v τ ⟨I7, J7, rfl, rfl, h7⟩
            refine mm_r0' ⟨rfl, ?_⟩
            exact h7
        · show mm_b _ _ _ _ _ [some (.ref 77), some (.int a1), some (.int a2), some (.int a3), some (.int a4), some (.int r5)] [] (((mm_fl true b1 b2), n1, n2, p, q, ad), I5, J5)
          show (¬ (nI 1) = a3 → _) ∧ ((nI 1) = a3 → _)
          refine ⟨fun c4 => ?_, fun c4 => ?_⟩
          · exact (((h5.2 c2).2 c3).1 c4)
          · show mm_b _ _ _ _ _ [some (.ref 77), some (.int a1), some (.int a2), some (.int a3), some (.int a4), none] [] (((mm_fl true b1 b2), n1, n2, p, q, ad), I5, J5)
            show vp_in a4 320 ∧ _
            refine ⟨(((h5.2 c2).2 c3).2 c4).1, ?_⟩
            show mm_b _ _ _ _ _ [some (.ref 77), some (.int a1), some (.int a2), some (.int a3), some (.int a4), none] [.int (I5 7 a4.toNatClampNeg), .int a4, .ref 77] (((mm_fl true b1 b2), n1, n2, p, q, ad), I5, J5)
            show mm_wc d 35 [.ref 77, .int a4, .int (I5 7 a4.toNatClampNeg)] (((mm_fl true b1 b2), 0, 0, p, q, ad), I5, J5) _
            refine mm_wcm ((((h5.2 c2).2 c3).2 c4).2) ?_
            rintro v τ ⟨I8, J8, rfl, rfl, h8⟩
            refine mm_r0' ⟨rfl, ?_⟩
            exact h8
/- 37 ThreeBreaths$FanList listWithGuest -/
theorem fx_37 {d : Nat} {x0 : Int32} {b1 b2 : Bool} {n1 n2 : Nat} {p q : Bool} {ad : Nat → Nat} {I : mmI} {J : mmJ} {Q : mmQ} (h : mm_wc d 34 [.ref 77] (((mm_fl true b1 b2), 0, 0, p, q, ad), I, J) (fun v τ => ∃ I1 J1, v = none ∧ τ = (((mm_fl true b1 b2), 0, 0, p, q, ad), I1, J1) ∧ mm_w Q (mm_wc d) bk_37 6 [some (.ref 77), some (.int x0), some (.int (nI 0))] [] (((mm_fl true b1 b2), n1, n2, p, q, ad), I1, J1))) : mm_wc (d + 1) 37 [.ref 77, .int x0] (((mm_fl true b1 b2), n1, n2, p, q, ad), I, J) Q := by
  refine mm_call (c := 37) rfl rfl ?_
  refine mm_go [6] 80 ?_
  show mm_wc d 34 [.ref 77] (((mm_fl true b1 b2), 0, 0, p, q, ad), I, J) _
  refine mm_wcm h ?_
  rintro v τ ⟨I1, J1, rfl, rfl, h1⟩
  refine mm_r0' ⟨rfl, ?_⟩
  exact h1
theorem fx_37_6 {d : Nat} {a1 : Int32} {a2 : Int32} {b1 b2 : Bool} {n1 n2 : Nat} {p q : Bool} {ad : Nat → Nat} {I : mmI} {J : mmJ} {Q : mmQ} (h : (((I 6 2) ≤ a2 → Q none (((mm_fl true b1 b2), n1, n2, p, q, ad), I, J)) ∧ (¬ (I 6 2) ≤ a2 → mm_wc d 29 [.ref 6, .int a2, .int a1] (((mm_fl true b1 b2), 0, 0, p, q, ad), I, J) (fun v τ => ∃ r1 I1 J1, v = some (.int r1) ∧ τ = (((mm_fl true b1 b2), 0, 0, p, q, ad), I1, J1) ∧ mm_wc d 35 [.ref 77, .int a2, .int r1] (((mm_fl true b1 b2), 0, 0, p, q, ad), I1, J1) (fun v τ => ∃ I2 J2, v = none ∧ τ = (((mm_fl true b1 b2), 0, 0, p, q, ad), I2, J2) ∧ mm_w Q (mm_wc d) bk_37 6 [some (.ref 77), some (.int a1), some (.int (a2 + (nI 1)))] [] (((mm_fl true b1 b2), n1, n2, p, q, ad), I2, J2)))))) : mm_w Q (mm_wc (d)) bk_37 6 [some (.ref 77), some (.int a1), some (.int a2)] [] (((mm_fl true b1 b2), n1, n2, p, q, ad), I, J) := by
  refine mm_go [6] 80 ?_
  show ((I 6 2) ≤ a2 → _) ∧ (¬ (I 6 2) ≤ a2 → _)
  refine ⟨fun c0 => ?_, fun c0 => ?_⟩
  · exact (h.1 c0)
  · show mm_b _ _ _ _ _ [some (.ref 77), some (.int a1), some (.int a2)] [] (((mm_fl true b1 b2), n1, n2, p, q, ad), I, J)
    show mm_wc d 29 [.ref 6, .int a2, .int a1] (((mm_fl true b1 b2), 0, 0, p, q, ad), I, J) _
    refine mm_wcm (h.2 c0) ?_
    rintro v τ ⟨r1, I1, J1, rfl, rfl, h1⟩
    refine mm_r1' ⟨rfl, ?_⟩
    show mm_b _ _ _ _ _ [some (.ref 77), some (.int a1), some (.int a2)] [.int r1, .int a2, .ref 77] (((mm_fl true b1 b2), n1, n2, p, q, ad), I1, J1)
    show mm_wc d 35 [.ref 77, .int a2, .int r1] (((mm_fl true b1 b2), 0, 0, p, q, ad), I1, J1) _
    refine mm_wcm h1 ?_
    rintro v τ ⟨I2, J2, rfl, rfl, h2⟩
    refine mm_r0' ⟨rfl, ?_⟩
    exact h2
