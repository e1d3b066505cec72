/- 227 ThreeBreathsModel greediest -/
theorem fx_227 {d : Nat} {fl : Nat → Bool} {n1 n2 : Nat} {p q : Bool} {ad : Nat → Nat} {I : mmI} {J : mmJ} {Q : mmQ} (h : mm_w Q (mm_wc d) bk_227 4 [some (.ref 46), some (.int (nI 0)), some (.int (nI 1))] [] ((fl, n1, n2, p, q, ad), I, J)) : mm_wc (d + 1) 227 [.ref 46] ((fl, n1, n2, p, q, ad), I, J) Q := by
  refine mm_call (c := 227) rfl rfl ?_
  refine mm_go [4] 80 ?_
  exact h
theorem fx_227_4 {d : Nat} {a1 : Int32} {a2 : Int32} {fl : Nat → Bool} {n1 n2 : Nat} {p q : Bool} {ad : Nat → Nat} {I : mmI} {J : mmJ} {Q : mmQ} (h : mm_wc d 206 [.ref 46] ((fl, 0, 0, p, q, ad), I, J) (fun v τ => ∃ r1 I1 J1, v = some (.int r1) ∧ τ = ((fl, 0, 0, p, q, ad), I1, J1) ∧ ((r1 ≤ a2 → Q (some (.int a1)) ((fl, n1, n2, p, q, ad), I1, J1)) ∧ (¬ r1 ≤ a2 → mm_wc d 225 [.ref 46, .int a2] ((fl, 0, 0, p, q, ad), I1, J1) (fun v τ => ∃ r2 I2 J2, v = some (.int r2) ∧ τ = ((fl, 0, 0, p, q, ad), I2, J2) ∧ mm_wc d 225 [.ref 46, .int a1] ((fl, 0, 0, p, q, ad), I2, J2) (fun v τ => ∃ r3 I3 J3, v = some (.int r3) ∧ τ = ((fl, 0, 0, p, q, ad), I3, J3) ∧ ((r2 ≤ r3 → mm_w Q (mm_wc d) bk_227 4 [some (.ref 46), some (.int a1), some (.int (a2 + (nI 1)))] [] ((fl, n1, n2, p, q, ad), I3, J3)) ∧ (¬ r2 ≤ r3 → mm_w Q (mm_wc d) bk_227 4 [some (.ref 46), some (.int a2), some (.int (a2 + (nI 1)))] [] ((fl, n1, n2, p, q, ad), I3, J3))))))))) : mm_w Q (mm_wc (d)) bk_227 4 [some (.ref 46), some (.int a1), some (.int a2)] [] ((fl, n1, n2, p, q, ad), I, J) := by
  refine mm_go [4] 80 ?_
  show mm_wc d 206 [.ref 46] ((fl, 0, 0, p, q, ad), I, J) _
  refine mm_wcm h ?_
  rintro v τ ⟨r1, I1, J1, rfl, rfl, h1⟩
  refine mm_r1' ⟨rfl, ?_⟩
  show mm_b _ _ _ _ _ [some (.ref 46), some (.int a1), some (.int a2)] [.int r1, .int a2] ((fl, n1, n2, p, q, ad), I1, J1)
  show (r1 ≤ a2 → _) ∧ (¬ r1 ≤ a2 → _)
  refine ⟨fun c0 => ?_, fun c0 => ?_⟩
  · exact (h1.1 c0)
  · show mm_b _ _ _ _ _ [some (.ref 46), some (.int a1), some (.int a2)] [] ((fl, n1, n2, p, q, ad), I1, J1)
    show mm_wc d 225 [.ref 46, .int a2] ((fl, 0, 0, p, q, ad), I1, J1) _
    refine mm_wcm (h1.2 c0) ?_
    rintro v τ ⟨r2, I2, J2, rfl, rfl, h2⟩
    refine mm_r1' ⟨rfl, ?_⟩
    show mm_b _ _ _ _ _ [some (.ref 46), some (.int a1), some (.int a2)] [.int r2] ((fl, n1, n2, p, q, ad), I2, J2)
    show mm_wc d 225 [.ref 46, .int a1] ((fl, 0, 0, p, q, ad), I2, J2) _
    refine mm_wcm h2 ?_
    rintro v τ ⟨r3, I3, J3, rfl, rfl, h3⟩
    refine mm_r1' ⟨rfl, ?_⟩
    show mm_b _ _ _ _ _ [some (.ref 46), some (.int a1), some (.int a2)] [.int r3, .int r2] ((fl, n1, n2, p, q, ad), I3, J3)
    show (r2 ≤ r3 → _) ∧ (¬ r2 ≤ r3 → _)
    refine ⟨fun c1 => ?_, fun c1 => ?_⟩
    · exact (h3.1 c1)
    · exact (h3.2 c1)
/- 228 ThreeBreathsModel greedy -/
theorem fx_228 {d : Nat} {fl : Nat → Bool} {n1 n2 : Nat} {p q : Bool} {ad : Nat → Nat} {I : mmI} {J : mmJ} {Q : mmQ} (h : mm_wc d 166 [.ref 46] ((fl, 0, 0, p, q, ad), I, J) (fun v τ => ∃ I1 J1, v = none ∧ τ = ((fl, 0, 0, p, q, ad), I1, J1) ∧ (((I1 46 14) = (nI 0) → mm_wc d 167 [.ref 46, .int (nI 1)] ((fl, 0, 0, p, q, ad), I1, J1) (fun v τ => ∃ r2 I2 J2, v = some (.int r2) ∧ τ = ((fl, 0, 0, p, q, ad), I2, J2) ∧ Q (some (.int r2)) ((fl, n1, n2, p, q, ad), I2, J2))) ∧ (¬ (I1 46 14) = (nI 0) → mm_wc d 227 [.ref 46] ((fl, 0, 0, p, q, ad), I1, J1) (fun v τ => ∃ r3 I3 J3, v = some (.int r3) ∧ τ = ((fl, 0, 0, p, q, ad), I3, J3) ∧ Q (some (.int r3)) ((fl, n1, n2, p, q, ad), I3, J3)))))) : mm_wc (d + 1) 228 [.ref 46] ((fl, n1, n2, p, q, ad), I, J) Q := by
  refine mm_call (c := 228) rfl rfl ?_
  refine mm_go [] 80 ?_
  show mm_wc d 166 [.ref 46] ((fl, 0, 0, p, q, ad), I, J) _
  refine mm_wcm h ?_
  rintro v τ ⟨I1, J1, rfl, rfl, h1⟩
  refine mm_r0' ⟨rfl, ?_⟩
  show mm_b _ _ _ _ _ [some (.ref 46)] [] ((fl, n1, n2, p, q, ad), I1, J1)
  show ((I1 46 14) = (nI 0) → _) ∧ (¬ (I1 46 14) = (nI 0) → _)
  refine ⟨fun c0 => ?_, fun c0 => ?_⟩
  · show mm_u _ _ _ _ _ _ [some (.ref 46)] [] ((fl, n1, n2, p, q, ad), I1, J1)
    show mm_wc d 167 [.ref 46, .int (nI 1)] ((fl, 0, 0, p, q, ad), I1, J1) _
    refine mm_wcm (h1.1 c0) ?_
    rintro v τ ⟨r2, I2, J2, rfl, rfl, h2⟩
    refine mm_r1' ⟨rfl, ?_⟩
    exact h2
  · show mm_b _ _ _ _ _ [some (.ref 46)] [] ((fl, n1, n2, p, q, ad), I1, J1)
    show mm_wc d 227 [.ref 46] ((fl, 0, 0, p, q, ad), I1, J1) _
    refine mm_wcm (h1.2 c0) ?_
    rintro v τ ⟨r3, I3, J3, rfl, rfl, h3⟩
    refine mm_r1' ⟨rfl, ?_⟩
    exact h3
/- 229 ThreeBreathsModel note -/
theorem fx_229 {d : Nat} {fl : Nat → Bool} {n1 n2 : Nat} {p q : Bool} {ad : Nat → Nat} {I : mmI} {J : mmJ} {Q : mmQ} (h : ((¬ (I 46 19) = (nI 20) → (vp_in ((nI 2) * (I 46 19)) 40 ∧ (vp_in (((nI 2) * (I 46 19)) + (nI 1)) 40 ∧ Q none ((fl, n1, n2, p, q, ad), (mm_up (mm_up (mm_up I 51 (((nI 2) * (I 46 19))).toNatClampNeg (I 46 17)) 51 ((((nI 2) * (I 46 19)) + (nI 1))).toNatClampNeg (I 46 18)) 46 19 ((I 46 19) + (nI 1))), J)))) ∧ ((I 46 19) = (nI 20) → mm_w Q (mm_wc d) bk_229 11 [some (.ref 46), some (.int (nI 0))] [] ((fl, n1, n2, p, q, ad), I, J)))) : mm_wc (d + 1) 229 [.ref 46] ((fl, n1, n2, p, q, ad), I, J) Q := by
  refine mm_call (c := 229) rfl rfl ?_
  refine mm_go [11] 80 ?_
  show (¬ (I 46 19) = (nI 20) → _) ∧ ((I 46 19) = (nI 20) → _)
  refine ⟨fun c0 => ?_, fun c0 => ?_⟩
  · show mm_u _ _ _ _ _ _ [some (.ref 46), none] [] ((fl, n1, n2, p, q, ad), I, J)
    show vp_in ((nI 2) * (I 46 19)) 40 ∧ _
    refine ⟨(h.1 c0).1, ?_⟩
    show mm_b _ _ _ _ _ [some (.ref 46), none] [] ((fl, n1, n2, p, q, ad), (mm_up I 51 (((nI 2) * (I 46 19))).toNatClampNeg (I 46 17)), J)
    show vp_in (((nI 2) * (I 46 19)) + (nI 1)) 40 ∧ _
    refine ⟨(h.1 c0).2.1, ?_⟩
    exact (h.1 c0).2.2
  · exact (h.2 c0)
theorem fx_229_11 {d : Nat} {a1 : Int32} {fl : Nat → Bool} {n1 n2 : Nat} {p q : Bool} {ad : Nat → Nat} {I : mmI} {J : mmJ} {Q : mmQ} (h : (((nI 38) ≤ a1 → (vp_in ((nI 2) * ((I 46 19) - (nI 1))) 40 ∧ (vp_in (((nI 2) * ((I 46 19) - (nI 1))) + (nI 1)) 40 ∧ Q none ((fl, n1, n2, p, q, ad), (mm_up (mm_up (mm_up (mm_up I 46 19 ((I 46 19) - (nI 1))) 51 (((nI 2) * ((I 46 19) - (nI 1)))).toNatClampNeg (I 46 17)) 51 ((((nI 2) * ((I 46 19) - (nI 1))) + (nI 1))).toNatClampNeg (I 46 18)) 46 19 (((I 46 19) - (nI 1)) + (nI 1))), J)))) ∧ (¬ (nI 38) ≤ a1 → (vp_in (a1 + (nI 2)) 40 ∧ (vp_in a1 40 ∧ mm_w Q (mm_wc d) bk_229 11 [some (.ref 46), some (.int (a1 + (nI 1)))] [] ((fl, n1, n2, p, q, ad), (mm_up I 51 a1.toNatClampNeg (I 51 ((a1 + (nI 2))).toNatClampNeg)), J)))))) : mm_w Q (mm_wc (d)) bk_229 11 [some (.ref 46), some (.int a1)] [] ((fl, n1, n2, p, q, ad), I, J) := by
  refine mm_go [11] 80 ?_
  show ((nI 38) ≤ a1 → _) ∧ (¬ (nI 38) ≤ a1 → _)
  refine ⟨fun c0 => ?_, fun c0 => ?_⟩
  · show mm_u _ _ _ _ _ _ [some (.ref 46), some (.int a1)] [] ((fl, n1, n2, p, q, ad), I, J)
    show vp_in ((nI 2) * ((I 46 19) - (nI 1))) 40 ∧ _
    refine ⟨(h.1 c0).1, ?_⟩
    show mm_b _ _ _ _ _ [some (.ref 46), none] [] ((fl, n1, n2, p, q, ad), (mm_up (mm_up I 46 19 ((I 46 19) - (nI 1))) 51 (((nI 2) * ((I 46 19) - (nI 1)))).toNatClampNeg (I 46 17)), J)
    show vp_in (((nI 2) * ((I 46 19) - (nI 1))) + (nI 1)) 40 ∧ _
    refine ⟨(h.1 c0).2.1, ?_⟩
    exact (h.1 c0).2.2
  · show mm_b _ _ _ _ _ [some (.ref 46), some (.int a1)] [] ((fl, n1, n2, p, q, ad), I, J)
    show vp_in (a1 + (nI 2)) 40 ∧ _
    refine ⟨(h.2 c0).1, ?_⟩
    show mm_b _ _ _ _ _ [some (.ref 46), some (.int a1)] [.int (I 51 ((a1 + (nI 2))).toNatClampNeg), .int a1, .ref 51] ((fl, n1, n2, p, q, ad), I, J)
    show vp_in a1 40 ∧ _
    refine ⟨(h.2 c0).2.1, ?_⟩
    exact (h.2 c0).2.2
/- 230 ThreeBreathsModel blow -/
theorem fx_230 {d : Nat} {x0 : Int32} {fl : Nat → Bool} {n1 n2 : Nat} {p q : Bool} {ad : Nat → Nat} {I : mmI} {J : mmJ} {Q : mmQ} (h : mm_wc d 166 [.ref 46] ((fl, 0, 0, p, q, ad), I, J) (fun v τ => ∃ I1 J1, v = none ∧ τ = ((fl, 0, 0, p, q, ad), I1, J1) ∧ mm_wc d 204 [.ref 46, .int x0] ((fl, 0, 0, p, q, ad), I1, J1) (fun v τ => ∃ r2 I2 J2, v = some (.int r2) ∧ τ = ((fl, 0, 0, p, q, ad), I2, J2) ∧ ((¬ r2 = (nI 0) → mm_wc d 229 [.ref 46] ((fl, 0, 0, p, q, ad), I2, J2) (fun v τ => ∃ I3 J3, v = none ∧ τ = ((fl, 0, 0, p, q, ad), I3, J3) ∧ mm_wc d 224 [.ref 46] ((fl, 0, 0, p, q, ad), I3, J3) (fun v τ => ∃ I4 J4, v = none ∧ τ = ((fl, 0, 0, p, q, ad), I4, J4) ∧ (vp_in x0 320 ∧ mm_wc d 212 [.ref 46, .int (I4 46 17), .int (I4 46 18), .int (I4 53 x0.toNatClampNeg)] ((fl, 0, 0, p, q, ad), I4, J4) (fun v τ => ∃ r5 I5 J5, v = some (.int r5) ∧ τ = ((fl, 0, 0, p, q, ad), I5, J5) ∧ mm_wc d 213 [.int r5] ((fl, 0, 0, p, q, ad), I5, J5) (fun v τ => ∃ r6 I6 J6, v = some (.int r6) ∧ τ = ((fl, 0, 0, p, q, ad), I6, J6) ∧ mm_wc d 214 [.int r5] ((fl, 0, 0, p, q, ad), (mm_up I6 46 17 r6), J6) (fun v τ => ∃ r7 I7 J7, v = some (.int r7) ∧ τ = ((fl, 0, 0, p, q, ad), I7, J7) ∧ mm_wc d 171 [.int (I7 46 17)] ((fl, 0, 0, p, q, ad), (mm_up I7 46 18 r7), J7) (fun v τ => ∃ r8 I8 J8, v = some (.int r8) ∧ τ = ((fl, 0, 0, p, q, ad), I8, J8) ∧ Q (some (.int r8)) ((fl, n1, n2, p, q, ad), I8, J8))))))))) ∧ (r2 = (nI 0) → mm_wc d 167 [.ref 46, .int (nI 1)] ((fl, 0, 0, p, q, ad), I2, J2) (fun v τ => ∃ r9 I9 J9, v = some (.int r9) ∧ τ = ((fl, 0, 0, p, q, ad), I9, J9) ∧ Q (some (.int r9)) ((fl, n1, n2, p, q, ad), I9, J9))))))) : mm_wc (d + 1) 230 [.ref 46, .int x0] ((fl, n1, n2, p, q, ad), I, J) Q := by
  refine mm_call (c := 230) rfl rfl ?_
  refine mm_go [] 80 ?_
  show mm_wc d 166 [.ref 46] ((fl, 0, 0, p, q, ad), I, J) _
  refine mm_wcm h ?_
  rintro v τ ⟨I1, J1, rfl, rfl, h1⟩
  refine mm_r0' ⟨rfl, ?_⟩
  show mm_b _ _ _ _ _ [some (.ref 46), some (.int x0), none] [] ((fl, n1, n2, p, q, ad), I1, J1)
  show mm_wc d 204 [.ref 46, .int x0] ((fl, 0, 0, p, q, ad), I1, J1) _
  refine mm_wcm h1 ?_
  rintro v τ ⟨r2, I2, J2, rfl, rfl, h2⟩
  refine mm_r1' ⟨rfl, ?_⟩
  show mm_b _ _ _ _ _ [some (.ref 46), some (.int x0), none] [.int r2] ((fl, n1, n2, p, q, ad), I2, J2)
  show (¬ r2 = (nI 0) → _) ∧ (r2 = (nI 0) → _)
  refine ⟨fun c0 => ?_, fun c0 => ?_⟩
  · show mm_u _ _ _ _ _ _ [some (.ref 46), some (.int x0), none] [] ((fl, n1, n2, p, q, ad), I2, J2)
    show mm_wc d 229 [.ref 46] ((fl, 0, 0, p, q, ad), I2, J2) _
    refine mm_wcm (h2.1 c0) ?_
    rintro v τ ⟨I3, J3, rfl, rfl, h3⟩
    refine mm_r0' ⟨rfl, ?_⟩
    show mm_b _ _ _ _ _ [some (.ref 46), some (.int x0), none] [] ((fl, n1, n2, p, q, ad), I3, J3)
    show mm_wc d 224 [.ref 46] ((fl, 0, 0, p, q, ad), I3, J3) _
    refine mm_wcm h3 ?_
    rintro v τ ⟨I4, J4, rfl, rfl, h4⟩
    refine mm_r0' ⟨rfl, ?_⟩
    show mm_b _ _ _ _ _ [some (.ref 46), some (.int x0), none] [] ((fl, n1, n2, p, q, ad), I4, J4)
    show vp_in x0 320 ∧ _
    refine ⟨h4.1, ?_⟩
    show mm_b _ _ _ _ _ [some (.ref 46), some (.int x0), none] [.int (I4 53 x0.toNatClampNeg), .int (I4 46 18), .int (I4 46 17), .ref 46] ((fl, n1, n2, p, q, ad), I4, J4)
    show mm_wc d 212 [.ref 46, .int (I4 46 17), .int (I4 46 18), .int (I4 53 x0.toNatClampNeg)] ((fl, 0, 0, p, q, ad), I4, J4) _
    refine mm_wcm (h4.2) ?_
    rintro v τ ⟨r5, I5, J5, rfl, rfl, h5⟩
    refine mm_r1' ⟨rfl, ?_⟩
    show mm_b _ _ _ _ _ [some (.ref 46), some (.int x0), none] [.int r5] ((fl, n1, n2, p, q, ad), I5, J5)
    show mm_wc d 213 [.int r5] ((fl, 0, 0, p, q, ad), I5, J5) _
    refine mm_wcm h5 ?_
    rintro v τ ⟨r6, I6, J6, rfl, rfl, h6⟩
    refine mm_r1' ⟨rfl, ?_⟩
    show mm_b _ _ _ _ _ [some (.ref 46), some (.int x0), some (.int r5)] [.int r6, .ref 46] ((fl, n1, n2, p, q, ad), I6, J6)
    show mm_wc d 214 [.int r5] ((fl, 0, 0, p, q, ad), (mm_up I6 46 17 r6), J6) _
    refine mm_wcm h6 ?_
    rintro v τ ⟨r7, I7, J7, rfl, rfl, h7⟩
    refine mm_r1' ⟨rfl, ?_⟩
    show mm_b _ _ _ _ _ [some (.ref 46), some (.int x0), some (.int r5)] [.int r7, .ref 46] ((fl, n1, n2, p, q, ad), I7, J7)
    show mm_wc d 171 [.int (I7 46 17)] ((fl, 0, 0, p, q, ad), (mm_up I7 46 18 r7), J7) _
    refine mm_wcm h7 ?_
    rintro v τ ⟨r8, I8, J8, rfl, rfl, h8⟩
    refine mm_r1' ⟨rfl, ?_⟩
    exact h8
  · show mm_b _ _ _ _ _ [some (.ref 46), some (.int x0), none] [] ((fl, n1, n2, p, q, ad), I2, J2)
    show mm_wc d 167 [.ref 46, .int (nI 1)] ((fl, 0, 0, p, q, ad), I2, J2) _
    refine mm_wcm (h2.2 c0) ?_
    rintro v τ ⟨r9, I9, J9, rfl, rfl, h9⟩
    refine mm_r1' ⟨rfl, ?_⟩
    exact h9
/- 231 ThreeBreathsModel light -/
theorem fx_231 {d : Nat} {x0 : Int32} {fl : Nat → Bool} {n1 n2 : Nat} {p q : Bool} {ad : Nat → Nat} {I : mmI} {J : mmJ} {Q : mmQ} (h : mm_wc d 166 [.ref 46] ((fl, 0, 0, p, q, ad), I, J) (fun v τ => ∃ I1 J1, v = none ∧ τ = ((fl, 0, 0, p, q, ad), I1, J1) ∧ mm_wc d 201 [.ref 46, .int x0] ((fl, 0, 0, p, q, ad), I1, J1) (fun v τ => ∃ r2 I2 J2, v = some (.int r2) ∧ τ = ((fl, 0, 0, p, q, ad), I2, J2) ∧ ((¬ r2 = (nI 0) → mm_wc d 170 [.int (I2 46 17), .int x0] ((fl, 0, 0, p, q, ad), I2, J2) (fun v τ => ∃ r3 I3 J3, v = some (.int r3) ∧ τ = ((fl, 0, 0, p, q, ad), I3, J3) ∧ ((r3 = (nI 0) → mm_wc d 229 [.ref 46] ((fl, 0, 0, p, q, ad), I3, J3) (fun v τ => ∃ I4 J4, v = none ∧ τ = ((fl, 0, 0, p, q, ad), I4, J4) ∧ Q (some (.int (nI 1))) ((fl, n1, n2, p, q, ad), (mm_up I4 46 17 ((I4 46 17) ||| ((nI 1) <<< (x0 &&& 31)))), J4))) ∧ (¬ r3 = (nI 0) → mm_wc d 168 [.ref 46, .int (nI 5)] ((fl, 0, 0, p, q, ad), I3, J3) (fun v τ => ∃ r5 I5 J5, v = some (.int r5) ∧ τ = ((fl, 0, 0, p, q, ad), I5, J5) ∧ ((r5 = 0 ∨ r5 = 1) ∧ Q (some (.int r5)) ((fl, n1, n2, p, q, ad), I5, J5))))))) ∧ (r2 = (nI 0) → mm_wc d 168 [.ref 46, .int (nI 1)] ((fl, 0, 0, p, q, ad), I2, J2) (fun v τ => ∃ r6 I6 J6, v = some (.int r6) ∧ τ = ((fl, 0, 0, p, q, ad), I6, J6) ∧ ((r6 = 0 ∨ r6 = 1) ∧ Q (some (.int r6)) ((fl, n1, n2, p, q, ad), I6, J6)))))))) : mm_wc (d + 1) 231 [.ref 46, .int x0] ((fl, n1, n2, p, q, ad), I, J) Q := by
  refine mm_call (c := 231) rfl rfl ?_
  refine mm_go [] 80 ?_
  show mm_wc d 166 [.ref 46] ((fl, 0, 0, p, q, ad), I, J) _
  refine mm_wcm h ?_
  rintro v τ ⟨I1, J1, rfl, rfl, h1⟩
  refine mm_r0' ⟨rfl, ?_⟩
  show mm_b _ _ _ _ _ [some (.ref 46), some (.int x0)] [] ((fl, n1, n2, p, q, ad), I1, J1)
  show mm_wc d 201 [.ref 46, .int x0] ((fl, 0, 0, p, q, ad), I1, J1) _
  refine mm_wcm h1 ?_
  rintro v τ ⟨r2, I2, J2, rfl, rfl, h2⟩
  refine mm_r1' ⟨rfl, ?_⟩
  show mm_b _ _ _ _ _ [some (.ref 46), some (.int x0)] [.int r2] ((fl, n1, n2, p, q, ad), I2, J2)
  show (¬ r2 = (nI 0) → _) ∧ (r2 = (nI 0) → _)
  refine ⟨fun c0 => ?_, fun c0 => ?_⟩
  · show mm_u _ _ _ _ _ _ [some (.ref 46), some (.int x0)] [] ((fl, n1, n2, p, q, ad), I2, J2)
    show mm_wc d 170 [.int (I2 46 17), .int x0] ((fl, 0, 0, p, q, ad), I2, J2) _
    refine mm_wcm (h2.1 c0) ?_
    rintro v τ ⟨r3, I3, J3, rfl, rfl, h3⟩
    refine mm_r1' ⟨rfl, ?_⟩
    show mm_b _ _ _ _ _ [some (.ref 46), some (.int x0)] [.int r3] ((fl, n1, n2, p, q, ad), I3, J3)
    show (r3 = (nI 0) → _) ∧ (¬ r3 = (nI 0) → _)
    refine ⟨fun c1 => ?_, fun c1 => ?_⟩
    · show mm_u _ _ _ _ _ _ [some (.ref 46), some (.int x0)] [] ((fl, n1, n2, p, q, ad), I3, J3)
      show mm_wc d 229 [.ref 46] ((fl, 0, 0, p, q, ad), I3, J3) _
      refine mm_wcm (h3.1 c1) ?_
      rintro v τ ⟨I4, J4, rfl, rfl, h4⟩
      refine mm_r0' ⟨rfl, ?_⟩
      show mm_b _ _ _ _ _ [some (.ref 46), some (.int x0)] [] ((fl, n1, n2, p, q, ad), I4, J4)
      show (((nI 1) : Int32) = 0 ∨ ((nI 1) : Int32) = 1) ∧ _
      refine ⟨(by decide), ?_⟩
      exact h4
    · show mm_b _ _ _ _ _ [some (.ref 46), some (.int x0)] [] ((fl, n1, n2, p, q, ad), I3, J3)
      show mm_wc d 168 [.ref 46, .int (nI 5)] ((fl, 0, 0, p, q, ad), I3, J3) _
      refine mm_wcm (h3.2 c1) ?_
      rintro v τ ⟨r5, I5, J5, rfl, rfl, h5⟩
      refine mm_r1' ⟨rfl, ?_⟩
      show mm_b _ _ _ _ _ [some (.ref 46), some (.int x0)] [.int r5] ((fl, n1, n2, p, q, ad), I5, J5)
      show (r5 = 0 ∨ r5 = 1) ∧ _
      refine ⟨h5.1, ?_⟩
      exact h5.2
  · show mm_b _ _ _ _ _ [some (.ref 46), some (.int x0)] [] ((fl, n1, n2, p, q, ad), I2, J2)
    show mm_wc d 168 [.ref 46, .int (nI 1)] ((fl, 0, 0, p, q, ad), I2, J2) _
    refine mm_wcm (h2.2 c0) ?_
    rintro v τ ⟨r6, I6, J6, rfl, rfl, h6⟩
    refine mm_r1' ⟨rfl, ?_⟩
    show mm_b _ _ _ _ _ [some (.ref 46), some (.int x0)] [.int r6] ((fl, n1, n2, p, q, ad), I6, J6)
    show (r6 = 0 ∨ r6 = 1) ∧ _
    refine ⟨h6.1, ?_⟩
    exact h6.2
/- 232 ThreeBreathsModel all -/
theorem fx_232 {d : Nat} {fl : Nat → Bool} {n1 n2 : Nat} {p q : Bool} {ad : Nat → Nat} {I : mmI} {J : mmJ} {Q : mmQ} (h : mm_wc d 166 [.ref 46] ((fl, 0, 0, p, q, ad), I, J) (fun v τ => ∃ I1 J1, v = none ∧ τ = ((fl, 0, 0, p, q, ad), I1, J1) ∧ ((¬ (I1 46 14) = (nI 0) → mm_wc d 229 [.ref 46] ((fl, 0, 0, p, q, ad), I1, J1) (fun v τ => ∃ I2 J2, v = none ∧ τ = ((fl, 0, 0, p, q, ad), I2, J2) ∧ mm_wc d 205 [.ref 46] ((fl, 0, 0, p, q, ad), I2, J2) (fun v τ => ∃ r3 I3 J3, v = some (.int r3) ∧ τ = ((fl, 0, 0, p, q, ad), I3, J3) ∧ Q (some (.int (nI 1))) ((fl, n1, n2, p, q, ad), (mm_up (mm_up I3 46 17 r3) 46 18 (nI 0)), J3)))) ∧ ((I1 46 14) = (nI 0) → mm_wc d 168 [.ref 46, .int (nI 1)] ((fl, 0, 0, p, q, ad), I1, J1) (fun v τ => ∃ r4 I4 J4, v = some (.int r4) ∧ τ = ((fl, 0, 0, p, q, ad), I4, J4) ∧ ((r4 = 0 ∨ r4 = 1) ∧ Q (some (.int r4)) ((fl, n1, n2, p, q, ad), I4, J4))))))) : mm_wc (d + 1) 232 [.ref 46] ((fl, n1, n2, p, q, ad), I, J) Q := by
  refine mm_call (c := 232) rfl rfl ?_
  refine mm_go [] 80 ?_
  show mm_wc d 166 [.ref 46] ((fl, 0, 0, p, q, ad), I, J) _
  refine mm_wcm h ?_
  rintro v τ ⟨I1, J1, rfl, rfl, h1⟩
  refine mm_r0' ⟨rfl, ?_⟩
  show mm_b _ _ _ _ _ [some (.ref 46)] [] ((fl, n1, n2, p, q, ad), I1, J1)
  show (¬ (I1 46 14) = (nI 0) → _) ∧ ((I1 46 14) = (nI 0) → _)
  refine ⟨fun c0 => ?_, fun c0 => ?_⟩
  · show mm_u _ _ _ _ _ _ [some (.ref 46)] [] ((fl, n1, n2, p, q, ad), I1, J1)
    show mm_wc d 229 [.ref 46] ((fl, 0, 0, p, q, ad), I1, J1) _
    refine mm_wcm (h1.1 c0) ?_
    rintro v τ ⟨I2, J2, rfl, rfl, h2⟩
    refine mm_r0' ⟨rfl, ?_⟩
    show mm_b _ _ _ _ _ [some (.ref 46)] [] ((fl, n1, n2, p, q, ad), I2, J2)
    show mm_wc d 205 [.ref 46] ((fl, 0, 0, p, q, ad), I2, J2) _
    refine mm_wcm h2 ?_
    rintro v τ ⟨r3, I3, J3, rfl, rfl, h3⟩
    refine mm_r1' ⟨rfl, ?_⟩
    show mm_b _ _ _ _ _ [some (.ref 46)] [.int r3, .ref 46] ((fl, n1, n2, p, q, ad), I3, J3)
    show (((nI 1) : Int32) = 0 ∨ ((nI 1) : Int32) = 1) ∧ _
    refine ⟨(by decide), ?_⟩
    exact h3
  · show mm_b _ _ _ _ _ [some (.ref 46)] [] ((fl, n1, n2, p, q, ad), I1, J1)
    show mm_wc d 168 [.ref 46, .int (nI 1)] ((fl, 0, 0, p, q, ad), I1, J1) _
    refine mm_wcm (h1.2 c0) ?_
    rintro v τ ⟨r4, I4, J4, rfl, rfl, h4⟩
    refine mm_r1' ⟨rfl, ?_⟩
    show mm_b _ _ _ _ _ [some (.ref 46)] [.int r4] ((fl, n1, n2, p, q, ad), I4, J4)
    show (r4 = 0 ∨ r4 = 1) ∧ _
    refine ⟨h4.1, ?_⟩
    exact h4.2
/- 233 ThreeBreathsModel undo -/
theorem fx_233 {d : Nat} {fl : Nat → Bool} {n1 n2 : Nat} {p q : Bool} {ad : Nat → Nat} {I : mmI} {J : mmJ} {Q : mmQ} (h : mm_wc d 166 [.ref 46] ((fl, 0, 0, p, q, ad), I, J) (fun v τ => ∃ I1 J1, v = none ∧ τ = ((fl, 0, 0, p, q, ad), I1, J1) ∧ ((¬ (I1 46 19) = (nI 0) → (vp_in ((nI 2) * ((I1 46 19) - (nI 1))) 40 ∧ (vp_in (((nI 2) * ((I1 46 19) - (nI 1))) + (nI 1)) 40 ∧ Q (some (.int (nI 1))) ((fl, n1, n2, p, q, ad), (mm_up (mm_up (mm_up I1 46 19 ((I1 46 19) - (nI 1))) 46 17 (I1 51 (((nI 2) * ((I1 46 19) - (nI 1)))).toNatClampNeg)) 46 18 (I1 51 ((((nI 2) * ((I1 46 19) - (nI 1))) + (nI 1))).toNatClampNeg)), J1)))) ∧ ((I1 46 19) = (nI 0) → mm_wc d 168 [.ref 46, .int (nI 6)] ((fl, 0, 0, p, q, ad), I1, J1) (fun v τ => ∃ r2 I2 J2, v = some (.int r2) ∧ τ = ((fl, 0, 0, p, q, ad), I2, J2) ∧ ((r2 = 0 ∨ r2 = 1) ∧ Q (some (.int r2)) ((fl, n1, n2, p, q, ad), I2, J2))))))) : mm_wc (d + 1) 233 [.ref 46] ((fl, n1, n2, p, q, ad), I, J) Q := by
  refine mm_call (c := 233) rfl rfl ?_
  refine mm_go [] 80 ?_
  show mm_wc d 166 [.ref 46] ((fl, 0, 0, p, q, ad), I, J) _
  refine mm_wcm h ?_
  rintro v τ ⟨I1, J1, rfl, rfl, h1⟩
  refine mm_r0' ⟨rfl, ?_⟩
  show mm_b _ _ _ _ _ [some (.ref 46)] [] ((fl, n1, n2, p, q, ad), I1, J1)
  show (¬ (I1 46 19) = (nI 0) → _) ∧ ((I1 46 19) = (nI 0) → _)
  refine ⟨fun c0 => ?_, fun c0 => ?_⟩
  · show mm_u _ _ _ _ _ _ [some (.ref 46)] [] ((fl, n1, n2, p, q, ad), I1, J1)
    show vp_in ((nI 2) * ((I1 46 19) - (nI 1))) 40 ∧ _
    refine ⟨(h1.1 c0).1, ?_⟩
    show mm_b _ _ _ _ _ [some (.ref 46)] [.int (I1 51 (((nI 2) * ((I1 46 19) - (nI 1)))).toNatClampNeg), .ref 46] ((fl, n1, n2, p, q, ad), (mm_up I1 46 19 ((I1 46 19) - (nI 1))), J1)
    show vp_in (((nI 2) * ((I1 46 19) - (nI 1))) + (nI 1)) 40 ∧ _
    refine ⟨(h1.1 c0).2.1, ?_⟩
    show mm_b _ _ _ _ _ [some (.ref 46)] [.int (I1 51 ((((nI 2) * ((I1 46 19) - (nI 1))) + (nI 1))).toNatClampNeg), .ref 46] ((fl, n1, n2, p, q, ad), (mm_up (mm_up I1 46 19 ((I1 46 19) - (nI 1))) 46 17 (I1 51 (((nI 2) * ((I1 46 19) - (nI 1)))).toNatClampNeg)), J1)
    show (((nI 1) : Int32) = 0 ∨ ((nI 1) : Int32) = 1) ∧ _
    refine ⟨(by decide), ?_⟩
    exact (h1.1 c0).2.2
  · show mm_b _ _ _ _ _ [some (.ref 46)] [] ((fl, n1, n2, p, q, ad), I1, J1)
    show mm_wc d 168 [.ref 46, .int (nI 6)] ((fl, 0, 0, p, q, ad), I1, J1) _
    refine mm_wcm (h1.2 c0) ?_
    rintro v τ ⟨r2, I2, J2, rfl, rfl, h2⟩
    refine mm_r1' ⟨rfl, ?_⟩
    show mm_b _ _ _ _ _ [some (.ref 46)] [.int r2] ((fl, n1, n2, p, q, ad), I2, J2)
    show (r2 = 0 ∨ r2 = 1) ∧ _
    refine ⟨h2.1, ?_⟩
    exact h2.2
/- 234 ThreeBreathsModel allow -/
theorem fx_234 {d : Nat} {x0 : Int32} {x1 : Int32} {x2 : Int32} {x3 : Int32} {x4 : Int32} {fl : Nat → Bool} {n1 n2 : Nat} {p q : Bool} {ad : Nat → Nat} {I : mmI} {J : mmJ} {Q : mmQ} (h : mm_w Q (mm_wc d) bk_234 8 [some (.ref 46), some (.int x0), some (.int x1), some (.int x2), some (.int x3), some (.int x4), some (.int (nI 0)), none, none] [] ((fl, n1, n2, p, q, ad), (mm_up I 46 32 (nI 0)), J)) : mm_wc (d + 1) 234 [.ref 46, .int x0, .int x1, .int x2, .int x3, .int x4] ((fl, n1, n2, p, q, ad), I, J) Q := by
  refine mm_call (c := 234) rfl rfl ?_
  refine mm_go [8, 76] 80 ?_
  exact h
theorem fx_234_8 {d : Nat} {a1 : Int32} {a2 : Int32} {a3 : Int32} {a4 : Int32} {a5 : Int32} {a6 : Int32} {fl : Nat → Bool} {n1 n2 : Nat} {p q : Bool} {ad : Nat → Nat} {I : mmI} {J : mmJ} {Q : mmQ} (h : mm_wc d 206 [.ref 46] ((fl, 0, 0, p, q, ad), I, J) (fun v τ => ∃ r1 I1 J1, v = some (.int r1) ∧ τ = ((fl, 0, 0, p, q, ad), I1, J1) ∧ ((r1 ≤ a6 → Q none ((fl, n1, n2, p, q, ad), I1, J1)) ∧ (¬ r1 ≤ a6 → ((a1 < (nI 0) → ((a2 < (nI 0) → mm_wc d 207 [.ref 46, .int a6] ((fl, 0, 0, p, q, ad), I1, J1) (fun v τ => ∃ r2 I2 J2, v = some (.int r2) ∧ τ = ((fl, 0, 0, p, q, ad), I2, J2) ∧ ((r2 = a3 → mm_w Q (mm_wc d) bk_234 76 [some (.ref 46), some (.int a1), some (.int a2), some (.int a3), some (.int a4), some (.int a5), some (.int a6), some (.int (nI 0)), some (.int (nI 0))] [] ((fl, n1, n2, p, q, ad), I2, J2)) ∧ (¬ r2 = a3 → mm_wc d 208 [.ref 46, .int a6] ((fl, 0, 0, p, q, ad), I2, J2) (fun v τ => ∃ r3 I3 J3, v = some (.int r3) ∧ τ = ((fl, 0, 0, p, q, ad), I3, J3) ∧ ((r3 = a4 → mm_w Q (mm_wc d) bk_234 76 [some (.ref 46), some (.int a1), some (.int a2), some (.int a3), some (.int a4), some (.int a5), some (.int a6), some (.int (nI 0)), some (.int (nI 0))] [] ((fl, n1, n2, p, q, ad), I3, J3)) ∧ (¬ r3 = a4 → mm_w Q (mm_wc d) bk_234 76 [some (.ref 46), some (.int a1), some (.int a2), some (.int a3), some (.int a4), some (.int a5), some (.int a6), some (.int (nI 1)), some (.int (nI 0))] [] ((fl, n1, n2, p, q, ad), I3, J3)))))))) ∧ (¬ a2 < (nI 0) → mm_wc d 208 [.ref 46, .int a6] ((fl, 0, 0, p, q, ad), I1, J1) (fun v τ => ∃ r4 I4 J4, v = some (.int r4) ∧ τ = ((fl, 0, 0, p, q, ad), I4, J4) ∧ ((¬ r4 = a2 → mm_w Q (mm_wc d) bk_234 76 [some (.ref 46), some (.int a1), some (.int a2), some (.int a3), some (.int a4), some (.int a5), some (.int a6), some (.int (nI 0)), some (.int (nI 0))] [] ((fl, n1, n2, p, q, ad), I4, J4)) ∧ (r4 = a2 → mm_wc d 207 [.ref 46, .int a6] ((fl, 0, 0, p, q, ad), I4, J4) (fun v τ => ∃ r5 I5 J5, v = some (.int r5) ∧ τ = ((fl, 0, 0, p, q, ad), I5, J5) ∧ ((r5 = a3 → mm_w Q (mm_wc d) bk_234 76 [some (.ref 46), some (.int a1), some (.int a2), some (.int a3), some (.int a4), some (.int a5), some (.int a6), some (.int (nI 0)), some (.int (nI 0))] [] ((fl, n1, n2, p, q, ad), I5, J5)) ∧ (¬ r5 = a3 → mm_wc d 208 [.ref 46, .int a6] ((fl, 0, 0, p, q, ad), I5, J5) (fun v τ => ∃ r6 I6 J6, v = some (.int r6) ∧ τ = ((fl, 0, 0, p, q, ad), I6, J6) ∧ ((r6 = a4 → mm_w Q (mm_wc d) bk_234 76 [some (.ref 46), some (.int a1), some (.int a2), some (.int a3), some (.int a4), some (.int a5), some (.int a6), some (.int (nI 0)), some (.int (nI 0))] [] ((fl, n1, n2, p, q, ad), I6, J6)) ∧ (¬ r6 = a4 → mm_w Q (mm_wc d) bk_234 76 [some (.ref 46), some (.int a1), some (.int a2), some (.int a3), some (.int a4), some (.int a5), some (.int a6), some (.int (nI 1)), some (.int (nI 0))] [] ((fl, n1, n2, p, q, ad), I6, J6))))))))))))) ∧ (¬ a1 < (nI 0) → mm_wc d 207 [.ref 46, .int a6] ((fl, 0, 0, p, q, ad), I1, J1) (fun v τ => ∃ r7 I7 J7, v = some (.int r7) ∧ τ = ((fl, 0, 0, p, q, ad), I7, J7) ∧ ((¬ r7 = a1 → mm_w Q (mm_wc d) bk_234 76 [some (.ref 46), some (.int a1), some (.int a2), some (.int a3), some (.int a4), some (.int a5), some (.int a6), some (.int (nI 0)), some (.int (nI 0))] [] ((fl, n1, n2, p, q, ad), I7, J7)) ∧ (r7 = a1 → ((a2 < (nI 0) → mm_wc d 207 [.ref 46, .int a6] ((fl, 0, 0, p, q, ad), I7, J7) (fun v τ => ∃ r8 I8 J8, v = some (.int r8) ∧ τ = ((fl, 0, 0, p, q, ad), I8, J8) ∧ ((r8 = a3 → mm_w Q (mm_wc d) bk_234 76 [some (.ref 46), some (.int a1), some (.int a2), some (.int a3), some (.int a4), some (.int a5), some (.int a6), some (.int (nI 0)), some (.int (nI 0))] [] ((fl, n1, n2, p, q, ad), I8, J8)) ∧ (¬ r8 = a3 → mm_wc d 208 [.ref 46, .int a6] ((fl, 0, 0, p, q, ad), I8, J8) (fun v τ => ∃ r9 I9 J9, v = some (.int r9) ∧ τ = ((fl, 0, 0, p, q, ad), I9, J9) ∧ ((r9 = a4 → mm_w Q (mm_wc d) bk_234 76 [some (.ref 46), some (.int a1), some (.int a2), some (.int a3), some (.int a4), some (.int a5), some (.int a6), some (.int (nI 0)), some (.int (nI 0))] [] ((fl, n1, n2, p, q, ad), I9, J9)) ∧ (¬ r9 = a4 → mm_w Q (mm_wc d) bk_234 76 [some (.ref 46), some (.int a1), some (.int a2), some (.int a3), some (.int a4), some (.int a5), some (.int a6), some (.int (nI 1)), some (.int (nI 0))] [] ((fl, n1, n2, p, q, ad), I9, J9)))))))) ∧ (¬ a2 < (nI 0) → mm_wc d 208 [.ref 46, .int a6] ((fl, 0, 0, p, q, ad), I7, J7) (fun v τ => ∃ r10 I10 J10, v = some (.int r10) ∧ τ = ((fl, 0, 0, p, q, ad), I10, J10) ∧ ((¬ r10 = a2 → mm_w Q (mm_wc d) bk_234 76 [some (.ref 46), some (.int a1), some (.int a2), some (.int a3), some (.int a4), some (.int a5), some (.int a6), some (.int (nI 0)), some (.int (nI 0))] [] ((fl, n1, n2, p, q, ad), I10, J10)) ∧ (r10 = a2 → mm_wc d 207 [.ref 46, .int a6] ((fl, 0, 0, p, q, ad), I10, J10) (fun v τ => ∃ r11 I11 J11, v = some (.int r11) ∧ τ = ((fl, 0, 0, p, q, ad), I11, J11) ∧ ((r11 = a3 → mm_w Q (mm_wc d) bk_234 76 [some (.ref 46), some (.int a1), some (.int a2), some (.int a3), some (.int a4), some (.int a5), some (.int a6), some (.int (nI 0)), some (.int (nI 0))] [] ((fl, n1, n2, p, q, ad), I11, J11)) ∧ (¬ r11 = a3 → mm_wc d 208 [.ref 46, .int a6] ((fl, 0, 0, p, q, ad), I11, J11) (fun v τ => ∃ r12 I12 J12, v = some (.int r12) ∧ τ = ((fl, 0, 0, p, q, ad), I12, J12) ∧ ((r12 = a4 → mm_w Q (mm_wc d) bk_234 76 [some (.ref 46), some (.int a1), some (.int a2), some (.int a3), some (.int a4), some (.int a5), some (.int a6), some (.int (nI 0)), some (.int (nI 0))] [] ((fl, n1, n2, p, q, ad), I12, J12)) ∧ (¬ r12 = a4 → mm_w Q (mm_wc d) bk_234 76 [some (.ref 46), some (.int a1), some (.int a2), some (.int a3), some (.int a4), some (.int a5), some (.int a6), some (.int (nI 1)), some (.int (nI 0))] [] ((fl, n1, n2, p, q, ad), I12, J12))))))))))))))))))))) : mm_w Q (mm_wc (d)) bk_234 8 [some (.ref 46), some (.int a1), some (.int a2), some (.int a3), some (.int a4), some (.int a5), some (.int a6), none, none] [] ((fl, n1, n2, p, q, ad), I, J) := by
  refine mm_go [8, 76] 80 ?_
  show mm_wc d 206 [.ref 46] ((fl, 0, 0, p, q, ad), I, J) _
  refine mm_wcm h ?_
  rintro v τ ⟨r1, I1, J1, rfl, rfl, h1⟩
  refine mm_r1' ⟨rfl, ?_⟩
  show mm_b _ _ _ _ _ [some (.ref 46), some (.int a1), some (.int a2), some (.int a3), some (.int a4), some (.int a5), some (.int a6), none, none] [.int r1, .int a6] ((fl, n1, n2, p, q, ad), I1, J1)
  show (r1 ≤ a6 → _) ∧ (¬ r1 ≤ a6 → _)
  refine ⟨fun c0 => ?_, fun c0 => ?_⟩
  · exact (h1.1 c0)
  · show mm_b _ _ _ _ _ [some (.ref 46), some (.int a1), some (.int a2), some (.int a3), some (.int a4), some (.int a5), some (.int a6), none, none] [] ((fl, n1, n2, p, q, ad), I1, J1)
    show (a1 < (nI 0) → _) ∧ (¬ a1 < (nI 0) → _)
    refine ⟨fun c1 => ?_, fun c1 => ?_⟩
    · show mm_u _ _ _ _ _ _ [some (.ref 46), some (.int a1), some (.int a2), some (.int a3), some (.int a4), some (.int a5), some (.int a6), none, none] [] ((fl, n1, n2, p, q, ad), I1, J1)
      show (a2 < (nI 0) → _) ∧ (¬ a2 < (nI 0) → _)
      refine ⟨fun c2 => ?_, fun c2 => ?_⟩
      · show mm_u _ _ _ _ _ _ [some (.ref 46), some (.int a1), some (.int a2), some (.int a3), some (.int a4), some (.int a5), some (.int a6), none, none] [] ((fl, n1, n2, p, q, ad), I1, J1)
        show mm_wc d 207 [.ref 46, .int a6] ((fl, 0, 0, p, q, ad), I1, J1) _
        refine mm_wcm (((h1.2 c0).1 c1).1 c2) ?_
        rintro v τ ⟨r2, I2, J2, rfl, rfl, h2⟩
        refine mm_r1' ⟨rfl, ?_⟩
        show mm_b _ _ _ _ _ [some (.ref 46), some (.int a1), some (.int a2), some (.int a3), some (.int a4), some (.int a5), some (.int a6), none, none] [.int r2] ((fl, n1, n2, p, q, ad), I2, J2)
        show (r2 = a3 → _) ∧ (¬ r2 = a3 → _)
        refine ⟨fun c3 => ?_, fun c3 => ?_⟩
        · exact (h2.1 c3)
        · show mm_b _ _ _ _ _ [some (.ref 46), some (.int a1), some (.int a2), some (.int a3), some (.int a4), some (.int a5), some (.int a6), none, none] [] ((fl, n1, n2, p, q, ad), I2, J2)
          show mm_wc d 208 [.ref 46, .int a6] ((fl, 0, 0, p, q, ad), I2, J2) _
          refine mm_wcm (h2.2 c3) ?_
          rintro v τ ⟨r3, I3, J3, rfl, rfl, h3⟩
          refine mm_r1' ⟨rfl, ?_⟩
          show mm_b _ _ _ _ _ [some (.ref 46), some (.int a1), some (.int a2), some (.int a3), some (.int a4), some (.int a5), some (.int a6), none, none] [.int r3] ((fl, n1, n2, p, q, ad), I3, J3)
          show (r3 = a4 → _) ∧ (¬ r3 = a4 → _)
          refine ⟨fun c4 => ?_, fun c4 => ?_⟩
          · exact (h3.1 c4)
          · exact (h3.2 c4)
      · show mm_b _ _ _ _ _ [some (.ref 46), some (.int a1), some (.int a2), some (.int a3), some (.int a4), some (.int a5), some (.int a6), none, none] [] ((fl, n1, n2, p, q, ad), I1, J1)
        show mm_wc d 208 [.ref 46, .int a6] ((fl, 0, 0, p, q, ad), I1, J1) _
        refine mm_wcm (((h1.2 c0).1 c1).2 c2) ?_
        rintro v τ ⟨r4, I4, J4, rfl, rfl, h4⟩
        refine mm_r1' ⟨rfl, ?_⟩
        show mm_b _ _ _ _ _ [some (.ref 46), some (.int a1), some (.int a2), some (.int a3), some (.int a4), some (.int a5), some (.int a6), none, none] [.int r4] ((fl, n1, n2, p, q, ad), I4, J4)
        show (¬ r4 = a2 → _) ∧ (r4 = a2 → _)
        refine ⟨fun c3 => ?_, fun c3 => ?_⟩
        · exact (h4.1 c3)
        · show mm_b _ _ _ _ _ [some (.ref 46), some (.int a1), some (.int a2), some (.int a3), some (.int a4), some (.int a5), some (.int a6), none, none] [] ((fl, n1, n2, p, q, ad), I4, J4)
          show mm_wc d 207 [.ref 46, .int a6] ((fl, 0, 0, p, q, ad), I4, J4) _
          refine mm_wcm (h4.2 c3) ?_
          rintro v τ ⟨r5, I5, J5, rfl, rfl, h5⟩
          refine mm_r1' ⟨rfl, ?_⟩
          show mm_b _ _ _ _ _ [some (.ref 46), some (.int a1), some (.int a2), some (.int a3), some (.int a4), some (.int a5), some (.int a6), none, none] [.int r5] ((fl, n1, n2, p, q, ad), I5, J5)
          show (r5 = a3 → _) ∧ (¬ r5 = a3 → _)
          refine ⟨fun c4 => ?_, fun c4 => ?_⟩
          · exact (h5.1 c4)
          · show mm_b _ _ _ _ _ [some (.ref 46), some (.int a1), some (.int a2), some (.int a3), some (.int a4), some (.int a5), some (.int a6), none, none] [] ((fl, n1, n2, p, q, ad), I5, J5)
            show mm_wc d 208 [.ref 46, .int a6] ((fl, 0, 0, p, q, ad), I5, J5) _
            refine mm_wcm (h5.2 c4) ?_
            rintro v τ ⟨r6, I6, J6, rfl, rfl, h6⟩
            refine mm_r1' ⟨rfl, ?_⟩
            show mm_b _ _ _ _ _ [some (.ref 46), some (.int a1), some (.int a2), some (.int a3), some (.int a4), some (.int a5), some (.int a6), none, none] [.int r6] ((fl, n1, n2, p, q, ad), I6, J6)
            show (r6 = a4 → _) ∧ (¬ r6 = a4 → _)
            refine ⟨fun c5 => ?_, fun c5 => ?_⟩
            · exact (h6.1 c5)
            · exact (h6.2 c5)
    · show mm_b _ _ _ _ _ [some (.ref 46), some (.int a1), some (.int a2), some (.int a3), some (.int a4), some (.int a5), some (.int a6), none, none] [] ((fl, n1, n2, p, q, ad), I1, J1)
      show mm_wc d 207 [.ref 46, .int a6] ((fl, 0, 0, p, q, ad), I1, J1) _
      refine mm_wcm ((h1.2 c0).2 c1) ?_
      rintro v τ ⟨r7, I7, J7, rfl, rfl, h7⟩
      refine mm_r1' ⟨rfl, ?_⟩
      show mm_b _ _ _ _ _ [some (.ref 46), some (.int a1), some (.int a2), some (.int a3), some (.int a4), some (.int a5), some (.int a6), none, none] [.int r7] ((fl, n1, n2, p, q, ad), I7, J7)
      show (¬ r7 = a1 → _) ∧ (r7 = a1 → _)
      refine ⟨fun c2 => ?_, fun c2 => ?_⟩
      · exact (h7.1 c2)
      · show mm_b _ _ _ _ _ [some (.ref 46), some (.int a1), some (.int a2), some (.int a3), some (.int a4), some (.int a5), some (.int a6), none, none] [] ((fl, n1, n2, p, q, ad), I7, J7)
        show (a2 < (nI 0) → _) ∧ (¬ a2 < (nI 0) → _)
        refine ⟨fun c3 => ?_, fun c3 => ?_⟩
        · show mm_u _ _ _ _ _ _ [some (.ref 46), some (.int a1), some (.int a2), some (.int a3), some (.int a4), some (.int a5), some (.int a6), none, none] [] ((fl, n1, n2, p, q, ad), I7, J7)
          show mm_wc d 207 [.ref 46, .int a6] ((fl, 0, 0, p, q, ad), I7, J7) _
          refine mm_wcm ((h7.2 c2).1 c3) ?_
          rintro v τ ⟨r8, I8, J8, rfl, rfl, h8⟩
          refine mm_r1' ⟨rfl, ?_⟩
          show mm_b _ _ _ _ _ [some (.ref 46), some (.int a1), some (.int a2), some (.int a3), some (.int a4), some (.int a5), some (.int a6), none, none] [.int r8] ((fl, n1, n2, p, q, ad), I8, J8)
          show (r8 = a3 → _) ∧ (¬ r8 = a3 → _)
          refine ⟨fun c4 => ?_, fun c4 => ?_⟩
          · exact (h8.1 c4)
          · show mm_b _ _ _ _ _ [some (.ref 46), some (.int a1), some (.int a2), some (.int a3), some (.int a4), some (.int a5), some (.int a6), none, none] [] ((fl, n1, n2, p, q, ad), I8, J8)
            show mm_wc d 208 [.ref 46, .int a6] ((fl, 0, 0, p, q, ad), I8, J8) _
            refine mm_wcm (h8.2 c4) ?_
            rintro v τ ⟨r9, I9, J9, rfl, rfl, h9⟩
            refine mm_r1' ⟨rfl, ?_⟩
            show mm_b _ _ _ _ _ [some (.ref 46), some (.int a1), some (.int a2), some (.int a3), some (.int a4), some (.int a5), some (.int a6), none, none] [.int r9] ((fl, n1, n2, p, q, ad), I9, J9)
            show (r9 = a4 → _) ∧ (¬ r9 = a4 → _)
            refine ⟨fun c5 => ?_, fun c5 => ?_⟩
            · exact (h9.1 c5)
            · exact (h9.2 c5)
        · show mm_b _ _ _ _ _ [some (.ref 46), some (.int a1), some (.int a2), some (.int a3), some (.int a4), some (.int a5), some (.int a6), none, none] [] ((fl, n1, n2, p, q, ad), I7, J7)
          show mm_wc d 208 [.ref 46, .int a6] ((fl, 0, 0, p, q, ad), I7, J7) _
          refine mm_wcm ((h7.2 c2).2 c3) ?_
          rintro v τ ⟨r10, I10, J10, rfl, rfl, h10⟩
          refine mm_r1' ⟨rfl, ?_⟩
          show mm_b _ _ _ _ _ [some (.ref 46), some (.int a1), some (.int a2), some (.int a3), some (.int a4), some (.int a5), some (.int a6), none, none] [.int r10] ((fl, n1, n2, p, q, ad), I10, J10)
          show (¬ r10 = a2 → _) ∧ (r10 = a2 → _)
          refine ⟨fun c4 => ?_, fun c4 => ?_⟩
          · exact (h10.1 c4)
          · show mm_b _ _ _ _ _ [some (.ref 46), some (.int a1), some (.int a2), some (.int a3), some (.int a4), some (.int a5), some (.int a6), none, none] [] ((fl, n1, n2, p, q, ad), I10, J10)
            show mm_wc d 207 [.ref 46, .int a6] ((fl, 0, 0, p, q, ad), I10, J10) _
            refine mm_wcm (h10.2 c4) ?_
            rintro v τ ⟨r11, I11, J11, rfl, rfl, h11⟩
            refine mm_r1' ⟨rfl, ?_⟩
            show mm_b _ _ _ _ _ [some (.ref 46), some (.int a1), some (.int a2), some (.int a3), some (.int a4), some (.int a5), some (.int a6), none, none] [.int r11] ((fl, n1, n2, p, q, ad), I11, J11)
            show (r11 = a3 → _) ∧ (¬ r11 = a3 → _)
            refine ⟨fun c5 => ?_, fun c5 => ?_⟩
            · exact (h11.1 c5)
            · show mm_b _ _ _ _ _ [some (.ref 46), some (.int a1), some (.int a2), some (.int a3), some (.int a4), some (.int a5), some (.int a6), none, none] [] ((fl, n1, n2, p, q, ad), I11, J11)
              show mm_wc d 208 [.ref 46, .int a6] ((fl, 0, 0, p, q, ad), I11, J11) _
              refine mm_wcm (h11.2 c5) ?_
              rintro v τ ⟨r12, I12, J12, rfl, rfl, h12⟩
              refine mm_r1' ⟨rfl, ?_⟩
              show mm_b _ _ _ _ _ [some (.ref 46), some (.int a1), some (.int a2), some (.int a3), some (.int a4), some (.int a5), some (.int a6), none, none] [.int r12] ((fl, n1, n2, p, q, ad), I12, J12)
              show (r12 = a4 → _) ∧ (¬ r12 = a4 → _)
              refine ⟨fun c6 => ?_, fun c6 => ?_⟩
              · exact (h12.1 c6)
              · exact (h12.2 c6)
theorem fx_234_76 {d : Nat} {a1 : Int32} {a2 : Int32} {a3 : Int32} {a4 : Int32} {a5 : Int32} {a6 : Int32} {a7 : Int32} {a8 : Int32} {fl : Nat → Bool} {n1 n2 : Nat} {p q : Bool} {ad : Nat → Nat} {I : mmI} {J : mmJ} {Q : mmQ} (h : (((I 46 32) ≤ a8 → ((¬ a7 = (nI 0) → (vp_in (I 46 32) 320 ∧ mm_w Q (mm_wc d) bk_234 8 [some (.ref 46), some (.int a1), some (.int a2), some (.int a3), some (.int a4), some (.int a5), some (.int (a6 + (nI 1))), none, none] [] ((fl, n1, n2, p, q, ad), (mm_up (mm_up I 57 ((I 46 32)).toNatClampNeg a6) 46 32 ((I 46 32) + (nI 1))), J))) ∧ (a7 = (nI 0) → mm_w Q (mm_wc d) bk_234 8 [some (.ref 46), some (.int a1), some (.int a2), some (.int a3), some (.int a4), some (.int a5), some (.int (a6 + (nI 1))), none, none] [] ((fl, n1, n2, p, q, ad), I, J)))) ∧ (¬ (I 46 32) ≤ a8 → ((a7 = (nI 0) → ((¬ a7 = (nI 0) → (vp_in (I 46 32) 320 ∧ mm_w Q (mm_wc d) bk_234 8 [some (.ref 46), some (.int a1), some (.int a2), some (.int a3), some (.int a4), some (.int a5), some (.int (a6 + (nI 1))), none, none] [] ((fl, n1, n2, p, q, ad), (mm_up (mm_up I 57 ((I 46 32)).toNatClampNeg a6) 46 32 ((I 46 32) + (nI 1))), J))) ∧ (a7 = (nI 0) → mm_w Q (mm_wc d) bk_234 8 [some (.ref 46), some (.int a1), some (.int a2), some (.int a3), some (.int a4), some (.int a5), some (.int (a6 + (nI 1))), none, none] [] ((fl, n1, n2, p, q, ad), I, J)))) ∧ (¬ a7 = (nI 0) → ((¬ a5 = (nI 0) → ((¬ a7 = (nI 0) → (vp_in (I 46 32) 320 ∧ mm_w Q (mm_wc d) bk_234 8 [some (.ref 46), some (.int a1), some (.int a2), some (.int a3), some (.int a4), some (.int a5), some (.int (a6 + (nI 1))), none, none] [] ((fl, n1, n2, p, q, ad), (mm_up (mm_up I 57 ((I 46 32)).toNatClampNeg a6) 46 32 ((I 46 32) + (nI 1))), J))) ∧ (a7 = (nI 0) → mm_w Q (mm_wc d) bk_234 8 [some (.ref 46), some (.int a1), some (.int a2), some (.int a3), some (.int a4), some (.int a5), some (.int (a6 + (nI 1))), none, none] [] ((fl, n1, n2, p, q, ad), I, J)))) ∧ (a5 = (nI 0) → (vp_in a8 320 ∧ (vp_in (I 57 a8.toNatClampNeg) 320 ∧ (vp_in a6 320 ∧ (((I 53 ((I 57 a8.toNatClampNeg)).toNatClampNeg) = (I 53 a6.toNatClampNeg) → mm_w Q (mm_wc d) bk_234 76 [some (.ref 46), some (.int a1), some (.int a2), some (.int a3), some (.int a4), some (.int a5), some (.int a6), some (.int (nI 0)), some (.int (a8 + (nI 1)))] [] ((fl, n1, n2, p, q, ad), I, J)) ∧ (¬ (I 53 ((I 57 a8.toNatClampNeg)).toNatClampNeg) = (I 53 a6.toNatClampNeg) → mm_w Q (mm_wc d) bk_234 76 [some (.ref 46), some (.int a1), some (.int a2), some (.int a3), some (.int a4), some (.int a5), some (.int a6), some (.int (nI 1)), some (.int (a8 + (nI 1)))] [] ((fl, n1, n2, p, q, ad), I, J))))))))))))) : mm_w Q (mm_wc (d)) bk_234 76 [some (.ref 46), some (.int a1), some (.int a2), some (.int a3), some (.int a4), some (.int a5), some (.int a6), some (.int a7), some (.int a8)] [] ((fl, n1, n2, p, q, ad), I, J) := by
  refine mm_go [8, 76] 80 ?_
  show ((I 46 32) ≤ a8 → _) ∧ (¬ (I 46 32) ≤ a8 → _)
  refine ⟨fun c0 => ?_, fun c0 => ?_⟩
  · show mm_u _ _ _ _ _ _ [some (.ref 46), some (.int a1), some (.int a2), some (.int a3), some (.int a4), some (.int a5), some (.int a6), some (.int a7), some (.int a8)] [] ((fl, n1, n2, p, q, ad), I, J)
    show (¬ a7 = (nI 0) → _) ∧ (a7 = (nI 0) → _)
    refine ⟨fun c1 => ?_, fun c1 => ?_⟩
    · show mm_u _ _ _ _ _ _ [some (.ref 46), some (.int a1), some (.int a2), some (.int a3), some (.int a4), some (.int a5), some (.int a6), some (.int a7), none] [] ((fl, n1, n2, p, q, ad), I, J)
      show vp_in (I 46 32) 320 ∧ _
      refine ⟨((h.1 c0).1 c1).1, ?_⟩
      exact ((h.1 c0).1 c1).2
    · exact ((h.1 c0).2 c1)
  · show mm_b _ _ _ _ _ [some (.ref 46), some (.int a1), some (.int a2), some (.int a3), some (.int a4), some (.int a5), some (.int a6), some (.int a7), some (.int a8)] [] ((fl, n1, n2, p, q, ad), I, J)
    show (a7 = (nI 0) → _) ∧ (¬ a7 = (nI 0) → _)
    refine ⟨fun c1 => ?_, fun c1 => ?_⟩
    · show mm_u _ _ _ _ _ _ [some (.ref 46), some (.int a1), some (.int a2), some (.int a3), some (.int a4), some (.int a5), some (.int a6), some (.int a7), some (.int a8)] [] ((fl, n1, n2, p, q, ad), I, J)
      show (¬ a7 = (nI 0) → _) ∧ (a7 = (nI 0) → _)
      refine ⟨fun c2 => ?_, fun c2 => ?_⟩
      · show mm_u _ _ _ _ _ _ [some (.ref 46), some (.int a1), some (.int a2), some (.int a3), some (.int a4), some (.int a5), some (.int a6), some (.int a7), none] [] ((fl, n1, n2, p, q, ad), I, J)
        show vp_in (I 46 32) 320 ∧ _
        refine ⟨(((h.2 c0).1 c1).1 c2).1, ?_⟩
        exact (((h.2 c0).1 c1).1 c2).2
      · exact (((h.2 c0).1 c1).2 c2)
    · show mm_b _ _ _ _ _ [some (.ref 46), some (.int a1), some (.int a2), some (.int a3), some (.int a4), some (.int a5), some (.int a6), some (.int a7), some (.int a8)] [] ((fl, n1, n2, p, q, ad), I, J)
      show (¬ a5 = (nI 0) → _) ∧ (a5 = (nI 0) → _)
      refine ⟨fun c2 => ?_, fun c2 => ?_⟩
      · show mm_u _ _ _ _ _ _ [some (.ref 46), some (.int a1), some (.int a2), some (.int a3), some (.int a4), some (.int a5), some (.int a6), some (.int a7), some (.int a8)] [] ((fl, n1, n2, p, q, ad), I, J)
        show (¬ a7 = (nI 0) → _) ∧ (a7 = (nI 0) → _)
        refine ⟨fun c3 => ?_, fun c3 => ?_⟩
        · show mm_u _ _ _ _ _ _ [some (.ref 46), some (.int a1), some (.int a2), some (.int a3), some (.int a4), some (.int a5), some (.int a6), some (.int a7), none] [] ((fl, n1, n2, p, q, ad), I, J)
          show vp_in (I 46 32) 320 ∧ _
          refine ⟨((((h.2 c0).2 c1).1 c2).1 c3).1, ?_⟩
          exact ((((h.2 c0).2 c1).1 c2).1 c3).2
        · exact ((((h.2 c0).2 c1).1 c2).2 c3)
      · show mm_b _ _ _ _ _ [some (.ref 46), some (.int a1), some (.int a2), some (.int a3), some (.int a4), some (.int a5), some (.int a6), some (.int a7), some (.int a8)] [] ((fl, n1, n2, p, q, ad), I, J)
        show vp_in a8 320 ∧ _
        refine ⟨(((h.2 c0).2 c1).2 c2).1, ?_⟩
        show mm_b _ _ _ _ _ [some (.ref 46), some (.int a1), some (.int a2), some (.int a3), some (.int a4), some (.int a5), some (.int a6), some (.int a7), some (.int a8)] [.int (I 57 a8.toNatClampNeg), .ref 53] ((fl, n1, n2, p, q, ad), I, J)
        show vp_in (I 57 a8.toNatClampNeg) 320 ∧ _
        refine ⟨(((h.2 c0).2 c1).2 c2).2.1, ?_⟩
        show mm_b _ _ _ _ _ [some (.ref 46), some (.int a1), some (.int a2), some (.int a3), some (.int a4), some (.int a5), some (.int a6), some (.int a7), some (.int a8)] [.int (I 53 ((I 57 a8.toNatClampNeg)).toNatClampNeg)] ((fl, n1, n2, p, q, ad), I, J)
        show vp_in a6 320 ∧ _
        refine ⟨(((h.2 c0).2 c1).2 c2).2.2.1, ?_⟩
        show mm_b _ _ _ _ _ [some (.ref 46), some (.int a1), some (.int a2), some (.int a3), some (.int a4), some (.int a5), some (.int a6), some (.int a7), some (.int a8)] [.int (I 53 a6.toNatClampNeg), .int (I 53 ((I 57 a8.toNatClampNeg)).toNatClampNeg)] ((fl, n1, n2, p, q, ad), I, J)
        show ((I 53 ((I 57 a8.toNatClampNeg)).toNatClampNeg) = (I 53 a6.toNatClampNeg) → _) ∧ (¬ (I 53 ((I 57 a8.toNatClampNeg)).toNatClampNeg) = (I 53 a6.toNatClampNeg) → _)
        refine ⟨fun c3 => ?_, fun c3 => ?_⟩
        · exact ((((h.2 c0).2 c1).2 c2).2.2.2.1 c3)
        · exact ((((h.2 c0).2 c1).2 c2).2.2.2.2 c3)
/- 235 ThreeBreathsModel standOf -/
theorem fx_235 {d : Nat} {x0 : Int32} {x1 : Int32} {fl : Nat → Bool} {n1 n2 : Nat} {p q : Bool} {ad : Nat → Nat} {I : mmI} {J : mmJ} {Q : mmQ} (h : mm_w Q (mm_wc d) bk_235 8 [some (.ref 46), some (.int x0), some (.int x1), some (.int (nI 0)), some (.int (nI 0)), some (.int (nI 0))] [] ((fl, n1, n2, p, q, ad), I, J)) : mm_wc (d + 1) 235 [.ref 46, .int x0, .int x1] ((fl, n1, n2, p, q, ad), I, J) Q := by
  refine mm_call (c := 235) rfl rfl ?_
  refine mm_go [8] 80 ?_
  exact h
theorem fx_235_8 {d : Nat} {a1 : Int32} {a2 : Int32} {a3 : Int32} {a4 : Int32} {a5 : Int32} {fl : Nat → Bool} {n1 n2 : Nat} {p q : Bool} {ad : Nat → Nat} {I : mmI} {J : mmJ} {Q : mmQ} (h : (((I 49 3) ≤ a5 → Q (some (.int (a1 ||| (a3 <<< ((nI 11) &&& 31))))) ((fl, n1, n2, p, q, ad), I, J)) ∧ (¬ (I 49 3) ≤ a5 → (vp_in ((nI 35) + a5) 279 ∧ (((I 49 (((nI 35) + a5)).toNatClampNeg) = (nI 3) → mm_wc d 170 [.int a2, .int a5] ((fl, 0, 0, p, q, ad), I, J) (fun v τ => ∃ r1 I1 J1, v = some (.int r1) ∧ τ = ((fl, 0, 0, p, q, ad), I1, J1) ∧ ((r1 = (nI 0) → mm_w Q (mm_wc d) bk_235 8 [some (.ref 46), some (.int a1), some (.int a2), some (.int (a3 ||| (nI 0))), some (.int (a4 + (nI 1))), some (.int (a5 + (nI 1)))] [] ((fl, n1, n2, p, q, ad), I1, J1)) ∧ (¬ r1 = (nI 0) → mm_w Q (mm_wc d) bk_235 8 [some (.ref 46), some (.int a1), some (.int a2), some (.int (a3 ||| ((nI 1) <<< (a4 &&& 31)))), some (.int (a4 + (nI 1))), some (.int (a5 + (nI 1)))] [] ((fl, n1, n2, p, q, ad), I1, J1))))) ∧ (¬ (I 49 (((nI 35) + a5)).toNatClampNeg) = (nI 3) → mm_w Q (mm_wc d) bk_235 8 [some (.ref 46), some (.int a1), some (.int a2), some (.int a3), some (.int a4), some (.int (a5 + (nI 1)))] [] ((fl, n1, n2, p, q, ad), I, J))))))) : mm_w Q (mm_wc (d)) bk_235 8 [some (.ref 46), some (.int a1), some (.int a2), some (.int a3), some (.int a4), some (.int a5)] [] ((fl, n1, n2, p, q, ad), I, J) := by
  refine mm_go [8] 80 ?_
  show (vp_in (nI 3) 279) ∧ _
  refine ⟨(mm_inl (by decide)), ?_⟩
  show mm_b _ _ _ _ _ [some (.ref 46), some (.int a1), some (.int a2), some (.int a3), some (.int a4), some (.int a5)] [.int (I 49 3), .int a5] ((fl, n1, n2, p, q, ad), I, J)
  show ((I 49 3) ≤ a5 → _) ∧ (¬ (I 49 3) ≤ a5 → _)
  refine ⟨fun c0 => ?_, fun c0 => ?_⟩
  · exact (h.1 c0)
  · show mm_b _ _ _ _ _ [some (.ref 46), some (.int a1), some (.int a2), some (.int a3), some (.int a4), some (.int a5)] [] ((fl, n1, n2, p, q, ad), I, J)
    show vp_in ((nI 35) + a5) 279 ∧ _
    refine ⟨(h.2 c0).1, ?_⟩
    show mm_b _ _ _ _ _ [some (.ref 46), some (.int a1), some (.int a2), some (.int a3), some (.int a4), some (.int a5)] [.int (I 49 (((nI 35) + a5)).toNatClampNeg)] ((fl, n1, n2, p, q, ad), I, J)
    show ((I 49 (((nI 35) + a5)).toNatClampNeg) = (nI 3) → _) ∧ (¬ (I 49 (((nI 35) + a5)).toNatClampNeg) = (nI 3) → _)
    refine ⟨fun c1 => ?_, fun c1 => ?_⟩
    · show mm_u _ _ _ _ _ _ [some (.ref 46), some (.int a1), some (.int a2), some (.int a3), some (.int a4), some (.int a5)] [] ((fl, n1, n2, p, q, ad), I, J)
      show mm_wc d 170 [.int a2, .int a5] ((fl, 0, 0, p, q, ad), I, J) _
      refine mm_wcm ((h.2 c0).2.1 c1) ?_
      rintro v τ ⟨r1, I1, J1, rfl, rfl, h1⟩
      refine mm_r1' ⟨rfl, ?_⟩
      show mm_b _ _ _ _ _ [some (.ref 46), some (.int a1), some (.int a2), some (.int a3), some (.int a4), some (.int a5)] [.int r1, .int a3] ((fl, n1, n2, p, q, ad), I1, J1)
      show (r1 = (nI 0) → _) ∧ (¬ r1 = (nI 0) → _)
      refine ⟨fun c2 => ?_, fun c2 => ?_⟩
      · exact (h1.1 c2)
      · exact (h1.2 c2)
    · exact ((h.2 c0).2.2 c1)
/- 236 ThreeBreathsModel dazeIn -/
theorem fx_236 {d : Nat} {x0 : Int32} {fl : Nat → Bool} {n1 n2 : Nat} {p q : Bool} {ad : Nat → Nat} {I : mmI} {J : mmJ} {Q : mmQ} (h : mm_w Q (mm_wc d) bk_236 7 [some (.ref 46), some (.int x0), some (.int (nI 0)), some (.int (nI 0)), some (.int (nI 0))] [] ((fl, n1, n2, p, q, ad), I, J)) : mm_wc (d + 1) 236 [.ref 46, .int x0] ((fl, n1, n2, p, q, ad), I, J) Q := by
  refine mm_call (c := 236) rfl rfl ?_
  refine mm_go [7] 80 ?_
  exact h
theorem fx_236_7 {d : Nat} {a1 : Int32} {a2 : Int32} {a3 : Int32} {a4 : Int32} {fl : Nat → Bool} {n1 n2 : Nat} {p q : Bool} {ad : Nat → Nat} {I : mmI} {J : mmJ} {Q : mmQ} (h : (((I 49 3) ≤ a4 → Q (some (.int a2)) ((fl, n1, n2, p, q, ad), I, J)) ∧ (¬ (I 49 3) ≤ a4 → (vp_in ((nI 35) + a4) 279 ∧ (((I 49 (((nI 35) + a4)).toNatClampNeg) = (nI 3) → mm_wc d 170 [.int (a1 >>> ((nI 11) &&& 31)), .int a3] ((fl, 0, 0, p, q, ad), I, J) (fun v τ => ∃ r1 I1 J1, v = some (.int r1) ∧ τ = ((fl, 0, 0, p, q, ad), I1, J1) ∧ ((r1 = (nI 0) → mm_w Q (mm_wc d) bk_236 7 [some (.ref 46), some (.int a1), some (.int (a2 ||| (nI 0))), some (.int (a3 + (nI 1))), some (.int (a4 + (nI 1)))] [] ((fl, n1, n2, p, q, ad), I1, J1)) ∧ (¬ r1 = (nI 0) → mm_w Q (mm_wc d) bk_236 7 [some (.ref 46), some (.int a1), some (.int (a2 ||| ((nI 1) <<< (a4 &&& 31)))), some (.int (a3 + (nI 1))), some (.int (a4 + (nI 1)))] [] ((fl, n1, n2, p, q, ad), I1, J1))))) ∧ (¬ (I 49 (((nI 35) + a4)).toNatClampNeg) = (nI 3) → mm_w Q (mm_wc d) bk_236 7 [some (.ref 46), some (.int a1), some (.int a2), some (.int a3), some (.int (a4 + (nI 1)))] [] ((fl, n1, n2, p, q, ad), I, J))))))) : mm_w Q (mm_wc (d)) bk_236 7 [some (.ref 46), some (.int a1), some (.int a2), some (.int a3), some (.int a4)] [] ((fl, n1, n2, p, q, ad), I, J) := by
  refine mm_go [7] 80 ?_
  show (vp_in (nI 3) 279) ∧ _
  refine ⟨(mm_inl (by decide)), ?_⟩
  show mm_b _ _ _ _ _ [some (.ref 46), some (.int a1), some (.int a2), some (.int a3), some (.int a4)] [.int (I 49 3), .int a4] ((fl, n1, n2, p, q, ad), I, J)
  show ((I 49 3) ≤ a4 → _) ∧ (¬ (I 49 3) ≤ a4 → _)
  refine ⟨fun c0 => ?_, fun c0 => ?_⟩
  · exact (h.1 c0)
  · show mm_b _ _ _ _ _ [some (.ref 46), some (.int a1), some (.int a2), some (.int a3), some (.int a4)] [] ((fl, n1, n2, p, q, ad), I, J)
    show vp_in ((nI 35) + a4) 279 ∧ _
    refine ⟨(h.2 c0).1, ?_⟩
    show mm_b _ _ _ _ _ [some (.ref 46), some (.int a1), some (.int a2), some (.int a3), some (.int a4)] [.int (I 49 (((nI 35) + a4)).toNatClampNeg)] ((fl, n1, n2, p, q, ad), I, J)
    show ((I 49 (((nI 35) + a4)).toNatClampNeg) = (nI 3) → _) ∧ (¬ (I 49 (((nI 35) + a4)).toNatClampNeg) = (nI 3) → _)
    refine ⟨fun c1 => ?_, fun c1 => ?_⟩
    · show mm_u _ _ _ _ _ _ [some (.ref 46), some (.int a1), some (.int a2), some (.int a3), some (.int a4)] [] ((fl, n1, n2, p, q, ad), I, J)
      show mm_wc d 170 [.int (a1 >>> ((nI 11) &&& 31)), .int a3] ((fl, 0, 0, p, q, ad), I, J) _
      refine mm_wcm ((h.2 c0).2.1 c1) ?_
      rintro v τ ⟨r1, I1, J1, rfl, rfl, h1⟩
      refine mm_r1' ⟨rfl, ?_⟩
      show mm_b _ _ _ _ _ [some (.ref 46), some (.int a1), some (.int a2), some (.int a3), some (.int a4)] [.int r1, .int a2] ((fl, n1, n2, p, q, ad), I1, J1)
      show (r1 = (nI 0) → _) ∧ (¬ r1 = (nI 0) → _)
      refine ⟨fun c2 => ?_, fun c2 => ?_⟩
      · exact (h1.1 c2)
      · exact (h1.2 c2)
    · exact ((h.2 c0).2.2 c1)
/- 237 ThreeBreathsModel burnIn -/
theorem fx_237 {d : Nat} {x0 : Int32} {fl : Nat → Bool} {n1 n2 : Nat} {p q : Bool} {ad : Nat → Nat} {I : mmI} {J : mmJ} {Q : mmQ} (h : Q (some (.int (x0 &&& (nI 2047)))) ((fl, n1, n2, p, q, ad), I, J)) : mm_wc (d + 1) 237 [.int x0] ((fl, n1, n2, p, q, ad), I, J) Q := by
  refine mm_call (c := 237) rfl rfl ?_
  refine mm_go [] 80 ?_
  exact h
/- 238 ThreeBreathsModel behind -/
theorem fx_238 {d : Nat} {x0 : Int32} {x1 : Int32} {fl : Nat → Bool} {n1 n2 : Nat} {p q : Bool} {ad : Nat → Nat} {I : mmI} {J : mmJ} {Q : mmQ} (h : mm_wc d 237 [.int x0] ((fl, 0, 0, p, q, ad), I, J) (fun v τ => ∃ r1 I1 J1, v = some (.int r1) ∧ τ = ((fl, 0, 0, p, q, ad), I1, J1) ∧ mm_wc d 236 [.ref 46, .int x0] ((fl, 0, 0, p, q, ad), I1, J1) (fun v τ => ∃ r2 I2 J2, v = some (.int r2) ∧ τ = ((fl, 0, 0, p, q, ad), I2, J2) ∧ (vp_in x1 320 ∧ mm_wc d 212 [.ref 46, .int r1, .int r2, .int (I2 53 x1.toNatClampNeg)] ((fl, 0, 0, p, q, ad), I2, J2) (fun v τ => ∃ r3 I3 J3, v = some (.int r3) ∧ τ = ((fl, 0, 0, p, q, ad), I3, J3) ∧ mm_wc d 213 [.int r3] ((fl, 0, 0, p, q, ad), I3, J3) (fun v τ => ∃ r4 I4 J4, v = some (.int r4) ∧ τ = ((fl, 0, 0, p, q, ad), I4, J4) ∧ mm_wc d 214 [.int r3] ((fl, 0, 0, p, q, ad), I4, J4) (fun v τ => ∃ r5 I5 J5, v = some (.int r5) ∧ τ = ((fl, 0, 0, p, q, ad), I5, J5) ∧ mm_wc d 235 [.ref 46, .int r4, .int r5] ((fl, 0, 0, p, q, ad), I5, J5) (fun v τ => ∃ r6 I6 J6, v = some (.int r6) ∧ τ = ((fl, 0, 0, p, q, ad), I6, J6) ∧ Q (some (.int r6)) ((fl, n1, n2, p, q, ad), I6, J6))))))))) : mm_wc (d + 1) 238 [.ref 46, .int x0, .int x1] ((fl, n1, n2, p, q, ad), I, J) Q := by
  refine mm_call (c := 238) rfl rfl ?_
  refine mm_go [] 80 ?_
  show mm_wc d 237 [.int x0] ((fl, 0, 0, p, q, ad), I, J) _
  refine mm_wcm h ?_
  rintro v τ ⟨r1, I1, J1, rfl, rfl, h1⟩
  refine mm_r1' ⟨rfl, ?_⟩
  show mm_b _ _ _ _ _ [some (.ref 46), some (.int x0), some (.int x1), none] [.int r1, .ref 46] ((fl, n1, n2, p, q, ad), I1, J1)
  show mm_wc d 236 [.ref 46, .int x0] ((fl, 0, 0, p, q, ad), I1, J1) _
  refine mm_wcm h1 ?_
  rintro v τ ⟨r2, I2, J2, rfl, rfl, h2⟩
  refine mm_r1' ⟨rfl, ?_⟩
  show mm_b _ _ _ _ _ [some (.ref 46), some (.int x0), some (.int x1), none] [.int r2, .int r1, .ref 46] ((fl, n1, n2, p, q, ad), I2, J2)
  show vp_in x1 320 ∧ _
  refine ⟨h2.1, ?_⟩
  show mm_b _ _ _ _ _ [some (.ref 46), some (.int x0), some (.int x1), none] [.int (I2 53 x1.toNatClampNeg), .int r2, .int r1, .ref 46] ((fl, n1, n2, p, q, ad), I2, J2)
  show mm_wc d 212 [.ref 46, .int r1, .int r2, .int (I2 53 x1.toNatClampNeg)] ((fl, 0, 0, p, q, ad), I2, J2) _
  refine mm_wcm (h2.2) ?_
  rintro v τ ⟨r3, I3, J3, rfl, rfl, h3⟩
  refine mm_r1' ⟨rfl, ?_⟩
  show mm_b _ _ _ _ _ [some (.ref 46), some (.int x0), some (.int x1), none] [.int r3] ((fl, n1, n2, p, q, ad), I3, J3)
  show mm_wc d 213 [.int r3] ((fl, 0, 0, p, q, ad), I3, J3) _
  refine mm_wcm h3 ?_
  rintro v τ ⟨r4, I4, J4, rfl, rfl, h4⟩
  refine mm_r1' ⟨rfl, ?_⟩
  show mm_b _ _ _ _ _ [some (.ref 46), some (.int x0), some (.int x1), some (.int r3)] [.int r4, .ref 46] ((fl, n1, n2, p, q, ad), I4, J4)
  show mm_wc d 214 [.int r3] ((fl, 0, 0, p, q, ad), I4, J4) _
  refine mm_wcm h4 ?_
  rintro v τ ⟨r5, I5, J5, rfl, rfl, h5⟩
  refine mm_r1' ⟨rfl, ?_⟩
  show mm_b _ _ _ _ _ [some (.ref 46), some (.int x0), some (.int x1), some (.int r3)] [.int r5, .int r4, .ref 46] ((fl, n1, n2, p, q, ad), I5, J5)
  show mm_wc d 235 [.ref 46, .int r4, .int r5] ((fl, 0, 0, p, q, ad), I5, J5) _
  refine mm_wcm h5 ?_
  rintro v τ ⟨r6, I6, J6, rfl, rfl, h6⟩
  refine mm_r1' ⟨rfl, ?_⟩
  exact h6
/- 239 ThreeBreathsModel search -/
theorem fx_239 {d : Nat} {x0 : Int32} {x1 : Int32} {fl : Nat → Bool} {n1 n2 : Nat} {p q : Bool} {ad : Nat → Nat} {I : mmI} {J : mmJ} {Q : mmQ} (h : mm_w Q (mm_wc d) bk_239 2 [some (.ref 46), some (.int x0), some (.int x1), some (.int (nI 0)), none, none, none] [] ((fl, n1, n2, p, q, ad), I, J)) : mm_wc (d + 1) 239 [.ref 46, .int x0, .int x1] ((fl, n1, n2, p, q, ad), I, J) Q := by
  refine mm_call (c := 239) rfl rfl ?_
  refine mm_go [2, 73, 119] 80 ?_
  exact h
theorem fx_239_2 {d : Nat} {a1 : Int32} {a2 : Int32} {a3 : Int32} {fl : Nat → Bool} {n1 n2 : Nat} {p q : Bool} {ad : Nat → Nat} {I : mmI} {J : mmJ} {Q : mmQ} (h : (((nI 16384) ≤ a3 → mm_wc d 235 [.ref 46, .int a1, .int a2] ((fl, 0, 0, p, q, ad), I, J) (fun v τ => ∃ r1 I1 J1, v = some (.int r1) ∧ τ = ((fl, 0, 0, p, q, ad), I1, J1) ∧ (vp_in r1 16384 ∧ ((¬ a1 = (nI 0) → mm_w Q (mm_wc d) bk_239 73 [some (.ref 46), none, none, some (.int (nI 0)), none, none, none] [] ((fl, n1, n2, p, q, ad), (mm_up (mm_up (mm_up (mm_up (mm_up I1 46 34 r1) 58 r1.toNatClampNeg (nI 0)) 59 0 r1) 46 33 (nI 1)) 46 35 (-2)), J1)) ∧ (a1 = (nI 0) → mm_w Q (mm_wc d) bk_239 73 [some (.ref 46), none, none, some (.int (nI 0)), none, none, none] [] ((fl, n1, n2, p, q, ad), (mm_up (mm_up (mm_up (mm_up (mm_up I1 46 34 r1) 58 r1.toNatClampNeg (nI 0)) 59 0 r1) 46 33 (nI 1)) 46 35 (nI 0)), J1)))))) ∧ (¬ (nI 16384) ≤ a3 → (vp_in a3 16384 ∧ mm_w Q (mm_wc d) bk_239 2 [some (.ref 46), some (.int a1), some (.int a2), some (.int (a3 + (nI 1))), none, none, none] [] ((fl, n1, n2, p, q, ad), (mm_up I 58 a3.toNatClampNeg (-1)), J))))) : mm_w Q (mm_wc (d)) bk_239 2 [some (.ref 46), some (.int a1), some (.int a2), some (.int a3), none, none, none] [] ((fl, n1, n2, p, q, ad), I, J) := by
  refine mm_go [2, 73, 119] 80 ?_
  show ((nI 16384) ≤ a3 → _) ∧ (¬ (nI 16384) ≤ a3 → _)
  refine ⟨fun c0 => ?_, fun c0 => ?_⟩
  · show mm_u _ _ _ _ _ _ [some (.ref 46), some (.int a1), some (.int a2), some (.int a3), none, none, none] [] ((fl, n1, n2, p, q, ad), I, J)
    show mm_wc d 235 [.ref 46, .int a1, .int a2] ((fl, 0, 0, p, q, ad), I, J) _
    refine mm_wcm (h.1 c0) ?_
    rintro v τ ⟨r1, I1, J1, rfl, rfl, h1⟩
    refine mm_r1' ⟨rfl, ?_⟩
    show mm_b _ _ _ _ _ [some (.ref 46), some (.int a1), some (.int a2), none, none, none, none] [.int r1, .ref 46] ((fl, n1, n2, p, q, ad), I1, J1)
    show vp_in r1 16384 ∧ _
    refine ⟨h1.1, ?_⟩
    show mm_b _ _ _ _ _ [some (.ref 46), some (.int a1), some (.int a2), none, none, none, none] [] ((fl, n1, n2, p, q, ad), (mm_up (mm_up I1 46 34 r1) 58 r1.toNatClampNeg (nI 0)), J1)
    show (vp_in (nI 0) 16384) ∧ _
    refine ⟨(mm_inl (by decide)), ?_⟩
    show mm_b _ _ _ _ _ [some (.ref 46), some (.int a1), some (.int a2), none, none, none, none] [] ((fl, n1, n2, p, q, ad), (mm_up (mm_up (mm_up I1 46 34 r1) 58 r1.toNatClampNeg (nI 0)) 59 0 r1), J1)
    show (¬ a1 = (nI 0) → _) ∧ (a1 = (nI 0) → _)
    refine ⟨fun c1 => ?_, fun c1 => ?_⟩
    · exact (h1.2.1 c1)
    · exact (h1.2.2 c1)
  · show mm_b _ _ _ _ _ [some (.ref 46), some (.int a1), some (.int a2), some (.int a3), none, none, none] [] ((fl, n1, n2, p, q, ad), I, J)
    show vp_in a3 16384 ∧ _
    refine ⟨(h.2 c0).1, ?_⟩
    exact (h.2 c0).2
theorem fx_239_73 {d : Nat} {a3 : Int32} {fl : Nat → Bool} {n1 n2 : Nat} {p q : Bool} {ad : Nat → Nat} {I : mmI} {J : mmJ} {Q : mmQ} (h : (((I 46 33) ≤ a3 → Q (some (.int (I 46 35))) ((fl, n1, n2, p, q, ad), I, J)) ∧ (¬ (I 46 33) ≤ a3 → (((I 46 35) = (-2) → (vp_in a3 16384 ∧ mm_w Q (mm_wc d) bk_239 119 [some (.ref 46), none, none, some (.int a3), some (.int (I 59 a3.toNatClampNeg)), some (.int (nI 0)), none] [] ((fl, n1, n2, p, q, ad), I, J))) ∧ (¬ (I 46 35) = (-2) → (vp_in a3 16384 ∧ (vp_in (I 59 a3.toNatClampNeg) 16384 ∧ (((I 46 35) ≤ (I 58 ((I 59 a3.toNatClampNeg)).toNatClampNeg) → Q (some (.int (I 46 35))) ((fl, n1, n2, p, q, ad), I, J)) ∧ (¬ (I 46 35) ≤ (I 58 ((I 59 a3.toNatClampNeg)).toNatClampNeg) → (vp_in a3 16384 ∧ mm_w Q (mm_wc d) bk_239 119 [some (.ref 46), none, none, some (.int a3), some (.int (I 59 a3.toNatClampNeg)), some (.int (nI 0)), none] [] ((fl, n1, n2, p, q, ad), I, J))))))))))) : mm_w Q (mm_wc (d)) bk_239 73 [some (.ref 46), none, none, some (.int a3), none, none, none] [] ((fl, n1, n2, p, q, ad), I, J) := by
  refine mm_go [2, 73, 119] 80 ?_
  show ((I 46 33) ≤ a3 → _) ∧ (¬ (I 46 33) ≤ a3 → _)
  refine ⟨fun c0 => ?_, fun c0 => ?_⟩
  · exact (h.1 c0)
  · show mm_b _ _ _ _ _ [some (.ref 46), none, none, some (.int a3), none, none, none] [] ((fl, n1, n2, p, q, ad), I, J)
    show ((I 46 35) = (-2) → _) ∧ (¬ (I 46 35) = (-2) → _)
    refine ⟨fun c1 => ?_, fun c1 => ?_⟩
    · show mm_u _ _ _ _ _ _ [some (.ref 46), none, none, some (.int a3), none, none, none] [] ((fl, n1, n2, p, q, ad), I, J)
      show vp_in a3 16384 ∧ _
      refine ⟨((h.2 c0).1 c1).1, ?_⟩
      exact ((h.2 c0).1 c1).2
    · show mm_b _ _ _ _ _ [some (.ref 46), none, none, some (.int a3), none, none, none] [] ((fl, n1, n2, p, q, ad), I, J)
      show vp_in a3 16384 ∧ _
      refine ⟨((h.2 c0).2 c1).1, ?_⟩
      show mm_b _ _ _ _ _ [some (.ref 46), none, none, some (.int a3), none, none, none] [.int (I 59 a3.toNatClampNeg), .ref 58] ((fl, n1, n2, p, q, ad), I, J)
      show vp_in (I 59 a3.toNatClampNeg) 16384 ∧ _
      refine ⟨((h.2 c0).2 c1).2.1, ?_⟩
      show mm_b _ _ _ _ _ [some (.ref 46), none, none, some (.int a3), none, none, none] [.int (I 58 ((I 59 a3.toNatClampNeg)).toNatClampNeg)] ((fl, n1, n2, p, q, ad), I, J)
      show ((I 46 35) ≤ (I 58 ((I 59 a3.toNatClampNeg)).toNatClampNeg) → _) ∧ (¬ (I 46 35) ≤ (I 58 ((I 59 a3.toNatClampNeg)).toNatClampNeg) → _)
      refine ⟨fun c2 => ?_, fun c2 => ?_⟩
      · exact (((h.2 c0).2 c1).2.2.1 c2)
      · show mm_b _ _ _ _ _ [some (.ref 46), none, none, some (.int a3), none, none, none] [] ((fl, n1, n2, p, q, ad), I, J)
        show vp_in a3 16384 ∧ _
        refine ⟨(((h.2 c0).2 c1).2.2.2 c2).1, ?_⟩
        exact (((h.2 c0).2 c1).2.2.2 c2).2
theorem fx_239_119 {d : Nat} {a3 : Int32} {a4 : Int32} {a5 : Int32} {fl : Nat → Bool} {n1 n2 : Nat} {p q : Bool} {ad : Nat → Nat} {I : mmI} {J : mmJ} {Q : mmQ} (h : (((I 46 32) ≤ a5 → mm_w Q (mm_wc d) bk_239 73 [some (.ref 46), none, none, some (.int (a3 + (nI 1))), none, none, none] [] ((fl, n1, n2, p, q, ad), I, J)) ∧ (¬ (I 46 32) ≤ a5 → (vp_in a5 320 ∧ mm_wc d 238 [.ref 46, .int a4, .int (I 57 a5.toNatClampNeg)] ((fl, 0, 0, p, q, ad), I, J) (fun v τ => ∃ r1 I1 J1, v = some (.int r1) ∧ τ = ((fl, 0, 0, p, q, ad), I1, J1) ∧ (vp_in r1 16384 ∧ (((I1 58 r1.toNatClampNeg) < (nI 0) → (vp_in a4 16384 ∧ (vp_in r1 16384 ∧ (vp_in (I1 46 33) 16384 ∧ mm_wc d 237 [.int r1] ((fl, 0, 0, p, q, ad), (mm_up (mm_up (mm_up I1 58 r1.toNatClampNeg ((I1 58 a4.toNatClampNeg) + (nI 1))) 59 ((I1 46 33)).toNatClampNeg r1) 46 33 ((I1 46 33) + (nI 1))), J1) (fun v τ => ∃ r2 I2 J2, v = some (.int r2) ∧ τ = ((fl, 0, 0, p, q, ad), I2, J2) ∧ ((¬ r2 = (nI 0) → mm_w Q (mm_wc d) bk_239 119 [some (.ref 46), none, none, some (.int a3), some (.int a4), some (.int (a5 + (nI 1))), none] [] ((fl, n1, n2, p, q, ad), I2, J2)) ∧ (r2 = (nI 0) → ((¬ (I2 46 35) = (-2) → mm_w Q (mm_wc d) bk_239 119 [some (.ref 46), none, none, some (.int a3), some (.int a4), some (.int (a5 + (nI 1))), none] [] ((fl, n1, n2, p, q, ad), I2, J2)) ∧ ((I2 46 35) = (-2) → (vp_in r1 16384 ∧ mm_w Q (mm_wc d) bk_239 119 [some (.ref 46), none, none, some (.int a3), some (.int a4), some (.int (a5 + (nI 1))), none] [] ((fl, n1, n2, p, q, ad), (mm_up I2 46 35 (I2 58 r1.toNatClampNeg)), J2))))))))))) ∧ (¬ (I1 58 r1.toNatClampNeg) < (nI 0) → mm_w Q (mm_wc d) bk_239 119 [some (.ref 46), none, none, some (.int a3), some (.int a4), some (.int (a5 + (nI 1))), none] [] ((fl, n1, n2, p, q, ad), I1, J1))))))))) : mm_w Q (mm_wc (d)) bk_239 119 [some (.ref 46), none, none, some (.int a3), some (.int a4), some (.int a5), none] [] ((fl, n1, n2, p, q, ad), I, J) := by
  refine mm_go [2, 73, 119] 80 ?_
  show ((I 46 32) ≤ a5 → _) ∧ (¬ (I 46 32) ≤ a5 → _)
  refine ⟨fun c0 => ?_, fun c0 => ?_⟩
  · exact (h.1 c0)
  · show mm_b _ _ _ _ _ [some (.ref 46), none, none, some (.int a3), some (.int a4), some (.int a5), none] [] ((fl, n1, n2, p, q, ad), I, J)
    show vp_in a5 320 ∧ _
    refine ⟨(h.2 c0).1, ?_⟩
    show mm_b _ _ _ _ _ [some (.ref 46), none, none, some (.int a3), some (.int a4), some (.int a5), none] [.int (I 57 a5.toNatClampNeg), .int a4, .ref 46] ((fl, n1, n2, p, q, ad), I, J)
    show mm_wc d 238 [.ref 46, .int a4, .int (I 57 a5.toNatClampNeg)] ((fl, 0, 0, p, q, ad), I, J) _
    refine mm_wcm ((h.2 c0).2) ?_
    rintro v τ ⟨r1, I1, J1, rfl, rfl, h1⟩
    refine mm_r1' ⟨rfl, ?_⟩
    show mm_b _ _ _ _ _ [some (.ref 46), none, none, some (.int a3), some (.int a4), some (.int a5), none] [.int r1] ((fl, n1, n2, p, q, ad), I1, J1)
    show vp_in r1 16384 ∧ _
    refine ⟨h1.1, ?_⟩
    show mm_b _ _ _ _ _ [some (.ref 46), none, none, some (.int a3), some (.int a4), some (.int a5), some (.int r1)] [.int (I1 58 r1.toNatClampNeg)] ((fl, n1, n2, p, q, ad), I1, J1)
    show ((I1 58 r1.toNatClampNeg) < (nI 0) → _) ∧ (¬ (I1 58 r1.toNatClampNeg) < (nI 0) → _)
    refine ⟨fun c1 => ?_, fun c1 => ?_⟩
    · show mm_u _ _ _ _ _ _ [some (.ref 46), none, none, some (.int a3), some (.int a4), some (.int a5), some (.int r1)] [] ((fl, n1, n2, p, q, ad), I1, J1)
      show vp_in a4 16384 ∧ _
      refine ⟨(h1.2.1 c1).1, ?_⟩
      show mm_b _ _ _ _ _ [some (.ref 46), none, none, some (.int a3), some (.int a4), some (.int a5), some (.int r1)] [.int (I1 58 a4.toNatClampNeg), .int r1, .ref 58] ((fl, n1, n2, p, q, ad), I1, J1)
      show vp_in r1 16384 ∧ _
      refine ⟨(h1.2.1 c1).2.1, ?_⟩
      show mm_b _ _ _ _ _ [some (.ref 46), none, none, some (.int a3), some (.int a4), some (.int a5), some (.int r1)] [] ((fl, n1, n2, p, q, ad), (mm_up I1 58 r1.toNatClampNeg ((I1 58 a4.toNatClampNeg) + (nI 1))), J1)
      show vp_in (I1 46 33) 16384 ∧ _
      refine ⟨(h1.2.1 c1).2.2.1, ?_⟩
      show mm_b _ _ _ _ _ [some (.ref 46), none, none, some (.int a3), some (.int a4), some (.int a5), some (.int r1)] [] ((fl, n1, n2, p, q, ad), (mm_up (mm_up I1 58 r1.toNatClampNeg ((I1 58 a4.toNatClampNeg) + (nI 1))) 59 ((I1 46 33)).toNatClampNeg r1), J1)
      show mm_wc d 237 [.int r1] ((fl, 0, 0, p, q, ad), (mm_up (mm_up (mm_up I1 58 r1.toNatClampNeg ((I1 58 a4.toNatClampNeg) + (nI 1))) 59 ((I1 46 33)).toNatClampNeg r1) 46 33 ((I1 46 33) + (nI 1))), J1) _
      refine mm_wcm ((h1.2.1 c1).2.2.2) ?_
      rintro v τ ⟨r2, I2, J2, rfl, rfl, h2⟩
      refine mm_r1' ⟨rfl, ?_⟩
      show mm_b _ _ _ _ _ [some (.ref 46), none, none, some (.int a3), some (.int a4), some (.int a5), some (.int r1)] [.int r2] ((fl, n1, n2, p, q, ad), I2, J2)
      show (¬ r2 = (nI 0) → _) ∧ (r2 = (nI 0) → _)
      refine ⟨fun c2 => ?_, fun c2 => ?_⟩
      · exact (h2.1 c2)
      · show mm_b _ _ _ _ _ [some (.ref 46), none, none, some (.int a3), some (.int a4), some (.int a5), some (.int r1)] [] ((fl, n1, n2, p, q, ad), I2, J2)
        show (¬ (I2 46 35) = (-2) → _) ∧ ((I2 46 35) = (-2) → _)
        refine ⟨fun c3 => ?_, fun c3 => ?_⟩
        · exact ((h2.2 c2).1 c3)
        · show mm_b _ _ _ _ _ [some (.ref 46), none, none, some (.int a3), some (.int a4), some (.int a5), some (.int r1)] [] ((fl, n1, n2, p, q, ad), I2, J2)
          show vp_in r1 16384 ∧ _
          refine ⟨((h2.2 c2).2 c3).1, ?_⟩
          exact ((h2.2 c2).2 c3).2
    · exact (h1.2.2 c1)
/- 240 ThreeBreathsModel searchNow -/
theorem fx_240 {d : Nat} {fl : Nat → Bool} {n1 n2 : Nat} {p q : Bool} {ad : Nat → Nat} {I : mmI} {J : mmJ} {Q : mmQ} (h : mm_wc d 224 [.ref 46] ((fl, 0, 0, p, q, ad), I, J) (fun v τ => ∃ I1 J1, v = none ∧ τ = ((fl, 0, 0, p, q, ad), I1, J1) ∧ mm_wc d 239 [.ref 46, .int (I1 46 17), .int (I1 46 18)] ((fl, 0, 0, p, q, ad), I1, J1) (fun v τ => ∃ r2 I2 J2, v = some (.int r2) ∧ τ = ((fl, 0, 0, p, q, ad), I2, J2) ∧ Q (some (.int r2)) ((fl, n1, n2, p, q, ad), I2, J2)))) : mm_wc (d + 1) 240 [.ref 46] ((fl, n1, n2, p, q, ad), I, J) Q := by
  refine mm_call (c := 240) rfl rfl ?_
  refine mm_go [] 80 ?_
  show mm_wc d 224 [.ref 46] ((fl, 0, 0, p, q, ad), I, J) _
  refine mm_wcm h ?_
  rintro v τ ⟨I1, J1, rfl, rfl, h1⟩
  refine mm_r0' ⟨rfl, ?_⟩
  show mm_b _ _ _ _ _ [some (.ref 46)] [] ((fl, n1, n2, p, q, ad), I1, J1)
  show mm_wc d 239 [.ref 46, .int (I1 46 17), .int (I1 46 18)] ((fl, 0, 0, p, q, ad), I1, J1) _
  refine mm_wcm h1 ?_
  rintro v τ ⟨r2, I2, J2, rfl, rfl, h2⟩
  refine mm_r1' ⟨rfl, ?_⟩
  exact h2
/- 241 ThreeBreathsModel fewest -/
theorem fx_241 {d : Nat} {fl : Nat → Bool} {n1 n2 : Nat} {p q : Bool} {ad : Nat → Nat} {I : mmI} {J : mmJ} {Q : mmQ} (h : mm_wc d 166 [.ref 46] ((fl, 0, 0, p, q, ad), I, J) (fun v τ => ∃ I1 J1, v = none ∧ τ = ((fl, 0, 0, p, q, ad), I1, J1) ∧ ((¬ (I1 46 14) = (nI 0) → mm_wc d 234 [.ref 46, .int (-1), .int (-1), .int (-1), .int (-1), .int (nI 0)] ((fl, 0, 0, p, q, ad), I1, J1) (fun v τ => ∃ I2 J2, v = none ∧ τ = ((fl, 0, 0, p, q, ad), I2, J2) ∧ mm_wc d 240 [.ref 46] ((fl, 0, 0, p, q, ad), I2, J2) (fun v τ => ∃ r3 I3 J3, v = some (.int r3) ∧ τ = ((fl, 0, 0, p, q, ad), I3, J3) ∧ Q (some (.int r3)) ((fl, n1, n2, p, q, ad), I3, J3)))) ∧ ((I1 46 14) = (nI 0) → mm_wc d 167 [.ref 46, .int (nI 1)] ((fl, 0, 0, p, q, ad), I1, J1) (fun v τ => ∃ r4 I4 J4, v = some (.int r4) ∧ τ = ((fl, 0, 0, p, q, ad), I4, J4) ∧ Q (some (.int r4)) ((fl, n1, n2, p, q, ad), I4, J4)))))) : mm_wc (d + 1) 241 [.ref 46] ((fl, n1, n2, p, q, ad), I, J) Q := by
  refine mm_call (c := 241) rfl rfl ?_
  refine mm_go [] 80 ?_
  show mm_wc d 166 [.ref 46] ((fl, 0, 0, p, q, ad), I, J) _
  refine mm_wcm h ?_
  rintro v τ ⟨I1, J1, rfl, rfl, h1⟩
  refine mm_r0' ⟨rfl, ?_⟩
  show mm_b _ _ _ _ _ [some (.ref 46)] [] ((fl, n1, n2, p, q, ad), I1, J1)
  show (¬ (I1 46 14) = (nI 0) → _) ∧ ((I1 46 14) = (nI 0) → _)
  refine ⟨fun c0 => ?_, fun c0 => ?_⟩
  · show mm_u _ _ _ _ _ _ [some (.ref 46)] [] ((fl, n1, n2, p, q, ad), I1, J1)
    show mm_wc d 234 [.ref 46, .int (-1), .int (-1), .int (-1), .int (-1), .int (nI 0)] ((fl, 0, 0, p, q, ad), I1, J1) _
    refine mm_wcm (h1.1 c0) ?_
    rintro v τ ⟨I2, J2, rfl, rfl, h2⟩
    refine mm_r0' ⟨rfl, ?_⟩
    show mm_b _ _ _ _ _ [some (.ref 46)] [] ((fl, n1, n2, p, q, ad), I2, J2)
    show mm_wc d 240 [.ref 46] ((fl, 0, 0, p, q, ad), I2, J2) _
    refine mm_wcm h2 ?_
    rintro v τ ⟨r3, I3, J3, rfl, rfl, h3⟩
    refine mm_r1' ⟨rfl, ?_⟩
    exact h3
  · show mm_b _ _ _ _ _ [some (.ref 46)] [] ((fl, n1, n2, p, q, ad), I1, J1)
    show mm_wc d 167 [.ref 46, .int (nI 1)] ((fl, 0, 0, p, q, ad), I1, J1) _
    refine mm_wcm (h1.2 c0) ?_
    rintro v τ ⟨r4, I4, J4, rfl, rfl, h4⟩
    refine mm_r1' ⟨rfl, ?_⟩
    exact h4
/- 242 ThreeBreathsModel row -/
theorem fx_242 {d : Nat} {x0 : Int32} {fl : Nat → Bool} {n1 n2 : Nat} {p q : Bool} {ad : Nat → Nat} {I : mmI} {J : mmJ} {Q : mmQ} (h : mm_wc d 166 [.ref 46] ((fl, 0, 0, p, q, ad), I, J) (fun v τ => ∃ I1 J1, v = none ∧ τ = ((fl, 0, 0, p, q, ad), I1, J1) ∧ (((I1 46 14) = (nI 0) → mm_wc d 167 [.ref 46, .int (nI 1)] ((fl, 0, 0, p, q, ad), I1, J1) (fun v τ => ∃ r2 I2 J2, v = some (.int r2) ∧ τ = ((fl, 0, 0, p, q, ad), I2, J2) ∧ Q (some (.int r2)) ((fl, n1, n2, p, q, ad), I2, J2))) ∧ (¬ (I1 46 14) = (nI 0) → (((nI 0) ≤ x0 → mm_wc d 234 [.ref 46, .int (-1), .int (-1), .int (-1), .int (-1), .int (nI 0)] ((fl, 0, 0, p, q, ad), I1, J1) (fun v τ => ∃ I3 J3, v = none ∧ τ = ((fl, 0, 0, p, q, ad), I3, J3) ∧ mm_wc d 240 [.ref 46] ((fl, 0, 0, p, q, ad), I3, J3) (fun v τ => ∃ r4 I4 J4, v = some (.int r4) ∧ τ = ((fl, 0, 0, p, q, ad), I4, J4) ∧ ((¬ r4 = (-2) → ((x0 < (I4 46 35) → mm_w Q (mm_wc d) bk_242 67 [some (.ref 46), some (.int x0), some (.int ((I4 46 33) - (nI 1))), none, none] [] ((fl, n1, n2, p, q, ad), I4, J4)) ∧ (¬ x0 < (I4 46 35) → mm_wc d 167 [.ref 46, .int (nI 1)] ((fl, 0, 0, p, q, ad), I4, J4) (fun v τ => ∃ r5 I5 J5, v = some (.int r5) ∧ τ = ((fl, 0, 0, p, q, ad), I5, J5) ∧ Q (some (.int r5)) ((fl, n1, n2, p, q, ad), I5, J5))))) ∧ (r4 = (-2) → mm_wc d 167 [.ref 46, .int (nI 6)] ((fl, 0, 0, p, q, ad), I4, J4) (fun v τ => ∃ r6 I6 J6, v = some (.int r6) ∧ τ = ((fl, 0, 0, p, q, ad), I6, J6) ∧ Q (some (.int r6)) ((fl, n1, n2, p, q, ad), I6, J6))))))) ∧ (¬ (nI 0) ≤ x0 → mm_wc d 167 [.ref 46, .int (nI 1)] ((fl, 0, 0, p, q, ad), I1, J1) (fun v τ => ∃ r7 I7 J7, v = some (.int r7) ∧ τ = ((fl, 0, 0, p, q, ad), I7, J7) ∧ Q (some (.int r7)) ((fl, n1, n2, p, q, ad), I7, J7)))))))) : mm_wc (d + 1) 242 [.ref 46, .int x0] ((fl, n1, n2, p, q, ad), I, J) Q := by
  refine mm_call (c := 242) rfl rfl ?_
  refine mm_go [67, 112, 185, 188] 80 ?_
  show mm_wc d 166 [.ref 46] ((fl, 0, 0, p, q, ad), I, J) _
  refine mm_wcm h ?_
  rintro v τ ⟨I1, J1, rfl, rfl, h1⟩
  refine mm_r0' ⟨rfl, ?_⟩
  show mm_b _ _ _ _ _ [some (.ref 46), some (.int x0), none, none, none] [] ((fl, n1, n2, p, q, ad), I1, J1)
  show ((I1 46 14) = (nI 0) → _) ∧ (¬ (I1 46 14) = (nI 0) → _)
  refine ⟨fun c0 => ?_, fun c0 => ?_⟩
  · show mm_u _ _ _ _ _ _ [some (.ref 46), some (.int x0), none, none, none] [] ((fl, n1, n2, p, q, ad), I1, J1)
    show mm_wc d 167 [.ref 46, .int (nI 1)] ((fl, 0, 0, p, q, ad), I1, J1) _
    refine mm_wcm (h1.1 c0) ?_
    rintro v τ ⟨r2, I2, J2, rfl, rfl, h2⟩
    refine mm_r1' ⟨rfl, ?_⟩
    exact h2
  · show mm_b _ _ _ _ _ [some (.ref 46), some (.int x0), none, none, none] [] ((fl, n1, n2, p, q, ad), I1, J1)
    show ((nI 0) ≤ x0 → _) ∧ (¬ (nI 0) ≤ x0 → _)
    refine ⟨fun c1 => ?_, fun c1 => ?_⟩
    · show mm_u _ _ _ _ _ _ [some (.ref 46), some (.int x0), none, none, none] [] ((fl, n1, n2, p, q, ad), I1, J1)
      show mm_wc d 234 [.ref 46, .int (-1), .int (-1), .int (-1), .int (-1), .int (nI 0)] ((fl, 0, 0, p, q, ad), I1, J1) _
      refine mm_wcm ((h1.2 c0).1 c1) ?_
      rintro v τ ⟨I3, J3, rfl, rfl, h3⟩
      refine mm_r0' ⟨rfl, ?_⟩
      show mm_b _ _ _ _ _ [some (.ref 46), some (.int x0), none, none, none] [] ((fl, n1, n2, p, q, ad), I3, J3)
      show mm_wc d 240 [.ref 46] ((fl, 0, 0, p, q, ad), I3, J3) _
      refine mm_wcm h3 ?_
      rintro v τ ⟨r4, I4, J4, rfl, rfl, h4⟩
      refine mm_r1' ⟨rfl, ?_⟩
      show mm_b _ _ _ _ _ [some (.ref 46), some (.int x0), none, none, none] [.int r4] ((fl, n1, n2, p, q, ad), I4, J4)
      show (¬ r4 = (-2) → _) ∧ (r4 = (-2) → _)
      refine ⟨fun c2 => ?_, fun c2 => ?_⟩
      · show mm_u _ _ _ _ _ _ [some (.ref 46), some (.int x0), none, none, none] [] ((fl, n1, n2, p, q, ad), I4, J4)
        show (x0 < (I4 46 35) → _) ∧ (¬ x0 < (I4 46 35) → _)
        refine ⟨fun c3 => ?_, fun c3 => ?_⟩
        · exact ((h4.1 c2).1 c3)
        · show mm_b _ _ _ _ _ [some (.ref 46), some (.int x0), none, none, none] [] ((fl, n1, n2, p, q, ad), I4, J4)
          show mm_wc d 167 [.ref 46, .int (nI 1)] ((fl, 0, 0, p, q, ad), I4, J4) _
          refine mm_wcm ((h4.1 c2).2 c3) ?_
          rintro v τ ⟨r5, I5, J5, rfl, rfl, h5⟩
          refine mm_r1' ⟨rfl, ?_⟩
          exact h5
      · show mm_b _ _ _ _ _ [some (.ref 46), some (.int x0), none, none, none] [] ((fl, n1, n2, p, q, ad), I4, J4)
        show mm_wc d 167 [.ref 46, .int (nI 6)] ((fl, 0, 0, p, q, ad), I4, J4) _
        refine mm_wcm (h4.2 c2) ?_
        rintro v τ ⟨r6, I6, J6, rfl, rfl, h6⟩
        refine mm_r1' ⟨rfl, ?_⟩
        exact h6
    · show mm_b _ _ _ _ _ [some (.ref 46), some (.int x0), none, none, none] [] ((fl, n1, n2, p, q, ad), I1, J1)
      show mm_wc d 167 [.ref 46, .int (nI 1)] ((fl, 0, 0, p, q, ad), I1, J1) _
      refine mm_wcm ((h1.2 c0).2 c1) ?_
      rintro v τ ⟨r7, I7, J7, rfl, rfl, h7⟩
      refine mm_r1' ⟨rfl, ?_⟩
      exact h7
theorem fx_242_67 {d : Nat} {a1 : Int32} {a2 : Int32} {fl : Nat → Bool} {n1 n2 : Nat} {p q : Bool} {ad : Nat → Nat} {I : mmI} {J : mmJ} {Q : mmQ} (h : ((a2 < (nI 0) → mm_w Q (mm_wc d) bk_242 185 [some (.ref 46), some (.int a1), some (.int (I 46 34)), some (.int (nI 0)), none] [] ((fl, n1, n2, p, q, ad), I, J)) ∧ (¬ a2 < (nI 0) → (vp_in a2 16384 ∧ (vp_in (I 59 a2.toNatClampNeg) 16384 ∧ ((¬ (I 58 ((I 59 a2.toNatClampNeg)).toNatClampNeg) = (I 46 35) → (vp_in (I 59 a2.toNatClampNeg) 16384 ∧ mm_w Q (mm_wc d) bk_242 112 [some (.ref 46), some (.int a1), some (.int a2), some (.int (I 59 a2.toNatClampNeg)), some (.int (nI 0))] [] ((fl, n1, n2, p, q, ad), (mm_up I 60 ((I 59 a2.toNatClampNeg)).toNatClampNeg (nI 0)), J))) ∧ ((I 58 ((I 59 a2.toNatClampNeg)).toNatClampNeg) = (I 46 35) → mm_wc d 237 [.int (I 59 a2.toNatClampNeg)] ((fl, 0, 0, p, q, ad), I, J) (fun v τ => ∃ r1 I1 J1, v = some (.int r1) ∧ τ = ((fl, 0, 0, p, q, ad), I1, J1) ∧ ((¬ r1 = (nI 0) → (vp_in (I 59 a2.toNatClampNeg) 16384 ∧ mm_w Q (mm_wc d) bk_242 112 [some (.ref 46), some (.int a1), some (.int a2), some (.int (I 59 a2.toNatClampNeg)), some (.int (nI 0))] [] ((fl, n1, n2, p, q, ad), (mm_up I1 60 ((I 59 a2.toNatClampNeg)).toNatClampNeg (nI 0)), J1))) ∧ (r1 = (nI 0) → (vp_in (I 59 a2.toNatClampNeg) 16384 ∧ mm_w Q (mm_wc d) bk_242 112 [some (.ref 46), some (.int a1), some (.int a2), some (.int (I 59 a2.toNatClampNeg)), some (.int (nI 0))] [] ((fl, n1, n2, p, q, ad), (mm_up I1 60 ((I 59 a2.toNatClampNeg)).toNatClampNeg (nI 1)), J1)))))))))))) : mm_w Q (mm_wc (d)) bk_242 67 [some (.ref 46), some (.int a1), some (.int a2), none, none] [] ((fl, n1, n2, p, q, ad), I, J) := by
  refine mm_go [67, 112, 185, 188] 80 ?_
  show (a2 < (nI 0) → _) ∧ (¬ a2 < (nI 0) → _)
  refine ⟨fun c0 => ?_, fun c0 => ?_⟩
  · exact (h.1 c0)
  · show mm_b _ _ _ _ _ [some (.ref 46), some (.int a1), some (.int a2), none, none] [] ((fl, n1, n2, p, q, ad), I, J)
    show vp_in a2 16384 ∧ _
    refine ⟨(h.2 c0).1, ?_⟩
    show mm_b _ _ _ _ _ [some (.ref 46), some (.int a1), some (.int a2), none, none] [.int (I 59 a2.toNatClampNeg)] ((fl, n1, n2, p, q, ad), I, J)
    show vp_in (I 59 a2.toNatClampNeg) 16384 ∧ _
    refine ⟨(h.2 c0).2.1, ?_⟩
    show mm_b _ _ _ _ _ [some (.ref 46), some (.int a1), some (.int a2), some (.int (I 59 a2.toNatClampNeg)), none] [.int (I 58 ((I 59 a2.toNatClampNeg)).toNatClampNeg), .int (I 59 a2.toNatClampNeg), .ref 60] ((fl, n1, n2, p, q, ad), I, J)
    show (¬ (I 58 ((I 59 a2.toNatClampNeg)).toNatClampNeg) = (I 46 35) → _) ∧ ((I 58 ((I 59 a2.toNatClampNeg)).toNatClampNeg) = (I 46 35) → _)
    refine ⟨fun c1 => ?_, fun c1 => ?_⟩
    · show mm_u _ _ _ _ _ _ [some (.ref 46), some (.int a1), some (.int a2), some (.int (I 59 a2.toNatClampNeg)), none] [.int (I 59 a2.toNatClampNeg), .ref 60] ((fl, n1, n2, p, q, ad), I, J)
      show (((nI 0) : Int32) = 0 ∨ ((nI 0) : Int32) = 1) ∧ _
      refine ⟨(by decide), ?_⟩
      show vp_in (I 59 a2.toNatClampNeg) 16384 ∧ _
      refine ⟨((h.2 c0).2.2.1 c1).1, ?_⟩
      exact ((h.2 c0).2.2.1 c1).2
    · show mm_b _ _ _ _ _ [some (.ref 46), some (.int a1), some (.int a2), some (.int (I 59 a2.toNatClampNeg)), none] [.int (I 59 a2.toNatClampNeg), .ref 60] ((fl, n1, n2, p, q, ad), I, J)
      show mm_wc d 237 [.int (I 59 a2.toNatClampNeg)] ((fl, 0, 0, p, q, ad), I, J) _
      refine mm_wcm ((h.2 c0).2.2.2 c1) ?_
      rintro v τ ⟨r1, I1, J1, rfl, rfl, h1⟩
      refine mm_r1' ⟨rfl, ?_⟩
      show mm_b _ _ _ _ _ [some (.ref 46), some (.int a1), some (.int a2), some (.int (I 59 a2.toNatClampNeg)), none] [.int r1, .int (I 59 a2.toNatClampNeg), .ref 60] ((fl, n1, n2, p, q, ad), I1, J1)
      show (¬ r1 = (nI 0) → _) ∧ (r1 = (nI 0) → _)
      refine ⟨fun c2 => ?_, fun c2 => ?_⟩
      · show mm_u _ _ _ _ _ _ [some (.ref 46), some (.int a1), some (.int a2), some (.int (I 59 a2.toNatClampNeg)), none] [.int (I 59 a2.toNatClampNeg), .ref 60] ((fl, n1, n2, p, q, ad), I1, J1)
        show (((nI 0) : Int32) = 0 ∨ ((nI 0) : Int32) = 1) ∧ _
        refine ⟨(by decide), ?_⟩
        show vp_in (I 59 a2.toNatClampNeg) 16384 ∧ _
        refine ⟨(h1.1 c2).1, ?_⟩
        exact (h1.1 c2).2
      · show mm_b _ _ _ _ _ [some (.ref 46), some (.int a1), some (.int a2), some (.int (I 59 a2.toNatClampNeg)), none] [.int (I 59 a2.toNatClampNeg), .ref 60] ((fl, n1, n2, p, q, ad), I1, J1)
        show (((nI 1) : Int32) = 0 ∨ ((nI 1) : Int32) = 1) ∧ _
        refine ⟨(by decide), ?_⟩
        show vp_in (I 59 a2.toNatClampNeg) 16384 ∧ _
        refine ⟨(h1.2 c2).1, ?_⟩
        exact (h1.2 c2).2
theorem fx_242_185 {d : Nat} {a1 : Int32} {a2 : Int32} {a3 : Int32} {fl : Nat → Bool} {n1 n2 : Nat} {p q : Bool} {ad : Nat → Nat} {I : mmI} {J : mmJ} {Q : mmQ} (h : mm_w Q (mm_wc d) bk_242 188 [some (.ref 46), some (.int a1), some (.int a2), some (.int a3), some (.int (nI 0))] [] ((fl, n1, n2, p, q, ad), I, J)) : mm_w Q (mm_wc (d)) bk_242 185 [some (.ref 46), some (.int a1), some (.int a2), some (.int a3), none] [] ((fl, n1, n2, p, q, ad), I, J) := by
  refine mm_go [67, 112, 185, 188] 80 ?_
  exact h
theorem fx_242_112 {d : Nat} {a1 : Int32} {a2 : Int32} {a3 : Int32} {a4 : Int32} {fl : Nat → Bool} {n1 n2 : Nat} {p q : Bool} {ad : Nat → Nat} {I : mmI} {J : mmJ} {Q : mmQ} (h : (((I 46 32) ≤ a4 → mm_w Q (mm_wc d) bk_242 67 [some (.ref 46), some (.int a1), some (.int (a2 + (-1))), none, none] [] ((fl, n1, n2, p, q, ad), I, J)) ∧ (¬ (I 46 32) ≤ a4 → (vp_in a3 16384 ∧ (((I 46 35) ≤ (I 58 a3.toNatClampNeg) → mm_w Q (mm_wc d) bk_242 67 [some (.ref 46), some (.int a1), some (.int (a2 + (-1))), none, none] [] ((fl, n1, n2, p, q, ad), I, J)) ∧ (¬ (I 46 35) ≤ (I 58 a3.toNatClampNeg) → (vp_in a3 16384 ∧ ((¬ (I 60 a3.toNatClampNeg) = (nI 0) → mm_w Q (mm_wc d) bk_242 67 [some (.ref 46), some (.int a1), some (.int (a2 + (-1))), none, none] [] ((fl, n1, n2, p, q, ad), I, J)) ∧ ((I 60 a3.toNatClampNeg) = (nI 0) → (vp_in a4 320 ∧ mm_wc d 238 [.ref 46, .int a3, .int (I 57 a4.toNatClampNeg)] ((fl, 0, 0, p, q, ad), I, J) (fun v τ => ∃ r1 I1 J1, v = some (.int r1) ∧ τ = ((fl, 0, 0, p, q, ad), I1, J1) ∧ mm_wc d 243 [.ref 46, .int a3, .int r1] ((fl, 0, 0, p, q, ad), I1, J1) (fun v τ => ∃ r2 I2 J2, v = some (.int r2) ∧ τ = ((fl, 0, 0, p, q, ad), I2, J2) ∧ ((r2 = 0 ∨ r2 = 1) ∧ (vp_in a3 16384 ∧ mm_w Q (mm_wc d) bk_242 112 [some (.ref 46), some (.int a1), some (.int a2), some (.int a3), some (.int (a4 + (nI 1)))] [] ((fl, n1, n2, p, q, ad), (mm_up I2 60 a3.toNatClampNeg r2), J2))))))))))))))) : mm_w Q (mm_wc (d)) bk_242 112 [some (.ref 46), some (.int a1), some (.int a2), some (.int a3), some (.int a4)] [] ((fl, n1, n2, p, q, ad), I, J) := by
  refine mm_go [67, 112, 185, 188] 80 ?_
  show ((I 46 32) ≤ a4 → _) ∧ (¬ (I 46 32) ≤ a4 → _)
  refine ⟨fun c0 => ?_, fun c0 => ?_⟩
  · exact (h.1 c0)
  · show mm_b _ _ _ _ _ [some (.ref 46), some (.int a1), some (.int a2), some (.int a3), some (.int a4)] [] ((fl, n1, n2, p, q, ad), I, J)
    show vp_in a3 16384 ∧ _
    refine ⟨(h.2 c0).1, ?_⟩
    show mm_b _ _ _ _ _ [some (.ref 46), some (.int a1), some (.int a2), some (.int a3), some (.int a4)] [.int (I 58 a3.toNatClampNeg)] ((fl, n1, n2, p, q, ad), I, J)
    show ((I 46 35) ≤ (I 58 a3.toNatClampNeg) → _) ∧ (¬ (I 46 35) ≤ (I 58 a3.toNatClampNeg) → _)
    refine ⟨fun c1 => ?_, fun c1 => ?_⟩
    · exact ((h.2 c0).2.1 c1)
    · show mm_b _ _ _ _ _ [some (.ref 46), some (.int a1), some (.int a2), some (.int a3), some (.int a4)] [] ((fl, n1, n2, p, q, ad), I, J)
      show vp_in a3 16384 ∧ _
      refine ⟨((h.2 c0).2.2 c1).1, ?_⟩
      show mm_b _ _ _ _ _ [some (.ref 46), some (.int a1), some (.int a2), some (.int a3), some (.int a4)] [.int (I 60 a3.toNatClampNeg)] ((fl, n1, n2, p, q, ad), I, J)
      show (¬ (I 60 a3.toNatClampNeg) = (nI 0) → _) ∧ ((I 60 a3.toNatClampNeg) = (nI 0) → _)
      refine ⟨fun c2 => ?_, fun c2 => ?_⟩
      · exact (((h.2 c0).2.2 c1).2.1 c2)
      · show mm_b _ _ _ _ _ [some (.ref 46), some (.int a1), some (.int a2), some (.int a3), some (.int a4)] [] ((fl, n1, n2, p, q, ad), I, J)
        show vp_in a4 320 ∧ _
        refine ⟨(((h.2 c0).2.2 c1).2.2 c2).1, ?_⟩
        show mm_b _ _ _ _ _ [some (.ref 46), some (.int a1), some (.int a2), some (.int a3), some (.int a4)] [.int (I 57 a4.toNatClampNeg), .int a3, .ref 46, .int a3, .ref 46, .int a3, .ref 60] ((fl, n1, n2, p, q, ad), I, J)
        show mm_wc d 238 [.ref 46, .int a3, .int (I 57 a4.toNatClampNeg)] ((fl, 0, 0, p, q, ad), I, J) _
        refine mm_wcm ((((h.2 c0).2.2 c1).2.2 c2).2) ?_
        rintro v τ ⟨r1, I1, J1, rfl, rfl, h1⟩
        refine mm_r1' ⟨rfl, ?_⟩
        show mm_b _ _ _ _ _ [some (.ref 46), some (.int a1), some (.int a2), some (.int a3), some (.int a4)] [.int r1, .int a3, .ref 46, .int a3, .ref 60] ((fl, n1, n2, p, q, ad), I1, J1)
        show mm_wc d 243 [.ref 46, .int a3, .int r1] ((fl, 0, 0, p, q, ad), I1, J1) _
        refine mm_wcm h1 ?_
        rintro v τ ⟨r2, I2, J2, rfl, rfl, h2⟩
        refine mm_r1' ⟨rfl, ?_⟩
        show mm_b _ _ _ _ _ [some (.ref 46), some (.int a1), some (.int a2), some (.int a3), some (.int a4)] [.int r2, .int a3, .ref 60] ((fl, n1, n2, p, q, ad), I2, J2)
        show (r2 = 0 ∨ r2 = 1) ∧ _
        refine ⟨h2.1, ?_⟩
        show vp_in a3 16384 ∧ _
        refine ⟨h2.2.1, ?_⟩
        exact h2.2.2
theorem fx_242_188 {d : Nat} {a1 : Int32} {a2 : Int32} {a3 : Int32} {a4 : Int32} {fl : Nat → Bool} {n1 n2 : Nat} {p q : Bool} {ad : Nat → Nat} {I : mmI} {J : mmJ} {Q : mmQ} (h : (vp_in a4 320 ∧ mm_wc d 238 [.ref 46, .int a2, .int (I 57 a4.toNatClampNeg)] ((fl, 0, 0, p, q, ad), I, J) (fun v τ => ∃ r1 I1 J1, v = some (.int r1) ∧ τ = ((fl, 0, 0, p, q, ad), I1, J1) ∧ mm_wc d 243 [.ref 46, .int a2, .int r1] ((fl, 0, 0, p, q, ad), I1, J1) (fun v τ => ∃ r2 I2 J2, v = some (.int r2) ∧ τ = ((fl, 0, 0, p, q, ad), I2, J2) ∧ ((¬ r2 = (nI 0) → ((¬ a3 = a1 → (vp_in a4 320 ∧ mm_wc d 238 [.ref 46, .int a2, .int (I2 57 a4.toNatClampNeg)] ((fl, 0, 0, p, q, ad), I2, J2) (fun v τ => ∃ r3 I3 J3, v = some (.int r3) ∧ τ = ((fl, 0, 0, p, q, ad), I3, J3) ∧ mm_w Q (mm_wc d) bk_242 185 [some (.ref 46), some (.int a1), some (.int r3), some (.int (a3 + (nI 1))), none] [] ((fl, n1, n2, p, q, ad), I3, J3)))) ∧ (a3 = a1 → (vp_in a4 320 ∧ Q (some (.int (I2 57 a4.toNatClampNeg))) ((fl, n1, n2, p, q, ad), I2, J2))))) ∧ (r2 = (nI 0) → mm_w Q (mm_wc d) bk_242 188 [some (.ref 46), some (.int a1), some (.int a2), some (.int a3), some (.int (a4 + (nI 1)))] [] ((fl, n1, n2, p, q, ad), I2, J2))))))) : mm_w Q (mm_wc (d)) bk_242 188 [some (.ref 46), some (.int a1), some (.int a2), some (.int a3), some (.int a4)] [] ((fl, n1, n2, p, q, ad), I, J) := by
  refine mm_go [67, 112, 185, 188] 80 ?_
  show vp_in a4 320 ∧ _
  refine ⟨h.1, ?_⟩
  show mm_b _ _ _ _ _ [some (.ref 46), some (.int a1), some (.int a2), some (.int a3), some (.int a4)] [.int (I 57 a4.toNatClampNeg), .int a2, .ref 46, .int a2, .ref 46] ((fl, n1, n2, p, q, ad), I, J)
  show mm_wc d 238 [.ref 46, .int a2, .int (I 57 a4.toNatClampNeg)] ((fl, 0, 0, p, q, ad), I, J) _
  refine mm_wcm (h.2) ?_
  rintro v τ ⟨r1, I1, J1, rfl, rfl, h1⟩
  refine mm_r1' ⟨rfl, ?_⟩
  show mm_b _ _ _ _ _ [some (.ref 46), some (.int a1), some (.int a2), some (.int a3), some (.int a4)] [.int r1, .int a2, .ref 46] ((fl, n1, n2, p, q, ad), I1, J1)
  show mm_wc d 243 [.ref 46, .int a2, .int r1] ((fl, 0, 0, p, q, ad), I1, J1) _
  refine mm_wcm h1 ?_
  rintro v τ ⟨r2, I2, J2, rfl, rfl, h2⟩
  refine mm_r1' ⟨rfl, ?_⟩
  show mm_b _ _ _ _ _ [some (.ref 46), some (.int a1), some (.int a2), some (.int a3), some (.int a4)] [.int r2] ((fl, n1, n2, p, q, ad), I2, J2)
  show (¬ r2 = (nI 0) → _) ∧ (r2 = (nI 0) → _)
  refine ⟨fun c0 => ?_, fun c0 => ?_⟩
  · show mm_u _ _ _ _ _ _ [some (.ref 46), some (.int a1), some (.int a2), some (.int a3), some (.int a4)] [] ((fl, n1, n2, p, q, ad), I2, J2)
    show (¬ a3 = a1 → _) ∧ (a3 = a1 → _)
    refine ⟨fun c1 => ?_, fun c1 => ?_⟩
    · show mm_u _ _ _ _ _ _ [some (.ref 46), some (.int a1), some (.int a2), some (.int a3), some (.int a4)] [] ((fl, n1, n2, p, q, ad), I2, J2)
      show vp_in a4 320 ∧ _
      refine ⟨((h2.1 c0).1 c1).1, ?_⟩
      show mm_b _ _ _ _ _ [some (.ref 46), some (.int a1), some (.int a2), some (.int a3), some (.int a4)] [.int (I2 57 a4.toNatClampNeg), .int a2, .ref 46] ((fl, n1, n2, p, q, ad), I2, J2)
      show mm_wc d 238 [.ref 46, .int a2, .int (I2 57 a4.toNatClampNeg)] ((fl, 0, 0, p, q, ad), I2, J2) _
      refine mm_wcm (((h2.1 c0).1 c1).2) ?_
      rintro v τ ⟨r3, I3, J3, rfl, rfl, h3⟩
      refine mm_r1' ⟨rfl, ?_⟩
      exact h3
    · show mm_b _ _ _ _ _ [some (.ref 46), some (.int a1), some (.int a2), some (.int a3), some (.int a4)] [] ((fl, n1, n2, p, q, ad), I2, J2)
      show vp_in a4 320 ∧ _
      refine ⟨((h2.1 c0).2 c1).1, ?_⟩
      exact ((h2.1 c0).2 c1).2
  · exact (h2.2 c0)
/- 243 ThreeBreathsModel isOn -/
theorem fx_243 {d : Nat} {x0 : Int32} {x1 : Int32} {fl : Nat → Bool} {n1 n2 : Nat} {p q : Bool} {ad : Nat → Nat} {I : mmI} {J : mmJ} {Q : mmQ} (h : (vp_in x1 16384 ∧ (vp_in x0 16384 ∧ ((¬ (I 58 x1.toNatClampNeg) = ((I 58 x0.toNatClampNeg) + (nI 1)) → Q (some (.int (nI 0))) ((fl, n1, n2, p, q, ad), I, J)) ∧ ((I 58 x1.toNatClampNeg) = ((I 58 x0.toNatClampNeg) + (nI 1)) → (vp_in x1 16384 ∧ (((I 60 x1.toNatClampNeg) = (nI 0) → Q (some (.int (nI 0))) ((fl, n1, n2, p, q, ad), I, J)) ∧ (¬ (I 60 x1.toNatClampNeg) = (nI 0) → Q (some (.int (nI 1))) ((fl, n1, n2, p, q, ad), I, J))))))))) : mm_wc (d + 1) 243 [.ref 46, .int x0, .int x1] ((fl, n1, n2, p, q, ad), I, J) Q := by
  refine mm_call (c := 243) rfl rfl ?_
  refine mm_go [] 80 ?_
  show vp_in x1 16384 ∧ _
  refine ⟨h.1, ?_⟩
  show mm_b _ _ _ _ _ [some (.ref 46), some (.int x0), some (.int x1)] [.int (I 58 x1.toNatClampNeg)] ((fl, n1, n2, p, q, ad), I, J)
  show vp_in x0 16384 ∧ _
  refine ⟨h.2.1, ?_⟩
  show mm_b _ _ _ _ _ [some (.ref 46), some (.int x0), some (.int x1)] [.int (I 58 x0.toNatClampNeg), .int (I 58 x1.toNatClampNeg)] ((fl, n1, n2, p, q, ad), I, J)
  show (¬ (I 58 x1.toNatClampNeg) = ((I 58 x0.toNatClampNeg) + (nI 1)) → _) ∧ ((I 58 x1.toNatClampNeg) = ((I 58 x0.toNatClampNeg) + (nI 1)) → _)
  refine ⟨fun c0 => ?_, fun c0 => ?_⟩
  · show mm_u _ _ _ _ _ _ [some (.ref 46), some (.int x0), some (.int x1)] [] ((fl, n1, n2, p, q, ad), I, J)
    show (((nI 0) : Int32) = 0 ∨ ((nI 0) : Int32) = 1) ∧ _
    refine ⟨(by decide), ?_⟩
    exact (h.2.2.1 c0)
  · show mm_b _ _ _ _ _ [some (.ref 46), some (.int x0), some (.int x1)] [] ((fl, n1, n2, p, q, ad), I, J)
    show vp_in x1 16384 ∧ _
    refine ⟨(h.2.2.2 c0).1, ?_⟩
    show mm_b _ _ _ _ _ [some (.ref 46), some (.int x0), some (.int x1)] [.int (I 60 x1.toNatClampNeg)] ((fl, n1, n2, p, q, ad), I, J)
    show ((I 60 x1.toNatClampNeg) = (nI 0) → _) ∧ (¬ (I 60 x1.toNatClampNeg) = (nI 0) → _)
    refine ⟨fun c1 => ?_, fun c1 => ?_⟩
    · show mm_u _ _ _ _ _ _ [some (.ref 46), some (.int x0), some (.int x1)] [] ((fl, n1, n2, p, q, ad), I, J)
      show (((nI 0) : Int32) = 0 ∨ ((nI 0) : Int32) = 1) ∧ _
      refine ⟨(by decide), ?_⟩
      exact ((h.2.2.2 c0).2.1 c1)
    · show mm_b _ _ _ _ _ [some (.ref 46), some (.int x0), some (.int x1)] [] ((fl, n1, n2, p, q, ad), I, J)
      show (((nI 1) : Int32) = 0 ∨ ((nI 1) : Int32) = 1) ∧ _
      refine ⟨(by decide), ?_⟩
      exact ((h.2.2.2 c0).2.2 c1)
/- 244 ThreeBreathsModel from -/
theorem fx_244 {d : Nat} {x0 : Int32} {fl : Nat → Bool} {n1 n2 : Nat} {p q : Bool} {ad : Nat → Nat} {I : mmI} {J : mmJ} {Q : mmQ} (h : mm_wc d 166 [.ref 46] ((fl, 0, 0, p, q, ad), I, J) (fun v τ => ∃ I1 J1, v = none ∧ τ = ((fl, 0, 0, p, q, ad), I1, J1) ∧ mm_wc d 202 [.ref 46, .int x0] ((fl, 0, 0, p, q, ad), I1, J1) (fun v τ => ∃ r2 I2 J2, v = some (.int r2) ∧ τ = ((fl, 0, 0, p, q, ad), I2, J2) ∧ ((¬ r2 = (nI 0) → mm_wc d 234 [.ref 46, .int (-1), .int x0, .int (-1), .int (-1), .int (nI 0)] ((fl, 0, 0, p, q, ad), I2, J2) (fun v τ => ∃ I3 J3, v = none ∧ τ = ((fl, 0, 0, p, q, ad), I3, J3) ∧ mm_wc d 240 [.ref 46] ((fl, 0, 0, p, q, ad), I3, J3) (fun v τ => ∃ r4 I4 J4, v = some (.int r4) ∧ τ = ((fl, 0, 0, p, q, ad), I4, J4) ∧ Q (some (.int r4)) ((fl, n1, n2, p, q, ad), I4, J4)))) ∧ (r2 = (nI 0) → mm_wc d 167 [.ref 46, .int (nI 1)] ((fl, 0, 0, p, q, ad), I2, J2) (fun v τ => ∃ r5 I5 J5, v = some (.int r5) ∧ τ = ((fl, 0, 0, p, q, ad), I5, J5) ∧ Q (some (.int r5)) ((fl, n1, n2, p, q, ad), I5, J5))))))) : mm_wc (d + 1) 244 [.ref 46, .int x0] ((fl, n1, n2, p, q, ad), I, J) Q := by
  refine mm_call (c := 244) rfl rfl ?_
  refine mm_go [] 80 ?_
  show mm_wc d 166 [.ref 46] ((fl, 0, 0, p, q, ad), I, J) _
  refine mm_wcm h ?_
  rintro v τ ⟨I1, J1, rfl, rfl, h1⟩
  refine mm_r0' ⟨rfl, ?_⟩
  show mm_b _ _ _ _ _ [some (.ref 46), some (.int x0)] [] ((fl, n1, n2, p, q, ad), I1, J1)
  show mm_wc d 202 [.ref 46, .int x0] ((fl, 0, 0, p, q, ad), I1, J1) _
  refine mm_wcm h1 ?_
  rintro v τ ⟨r2, I2, J2, rfl, rfl, h2⟩
  refine mm_r1' ⟨rfl, ?_⟩
  show mm_b _ _ _ _ _ [some (.ref 46), some (.int x0)] [.int r2] ((fl, n1, n2, p, q, ad), I2, J2)
  show (¬ r2 = (nI 0) → _) ∧ (r2 = (nI 0) → _)
  refine ⟨fun c0 => ?_, fun c0 => ?_⟩
  · show mm_u _ _ _ _ _ _ [some (.ref 46), some (.int x0)] [] ((fl, n1, n2, p, q, ad), I2, J2)
    show mm_wc d 234 [.ref 46, .int (-1), .int x0, .int (-1), .int (-1), .int (nI 0)] ((fl, 0, 0, p, q, ad), I2, J2) _
    refine mm_wcm (h2.1 c0) ?_
    rintro v τ ⟨I3, J3, rfl, rfl, h3⟩
    refine mm_r0' ⟨rfl, ?_⟩
    show mm_b _ _ _ _ _ [some (.ref 46), some (.int x0)] [] ((fl, n1, n2, p, q, ad), I3, J3)
    show mm_wc d 240 [.ref 46] ((fl, 0, 0, p, q, ad), I3, J3) _
    refine mm_wcm h3 ?_
    rintro v τ ⟨r4, I4, J4, rfl, rfl, h4⟩
    refine mm_r1' ⟨rfl, ?_⟩
    exact h4
  · show mm_b _ _ _ _ _ [some (.ref 46), some (.int x0)] [] ((fl, n1, n2, p, q, ad), I2, J2)
    show mm_wc d 167 [.ref 46, .int (nI 1)] ((fl, 0, 0, p, q, ad), I2, J2) _
    refine mm_wcm (h2.2 c0) ?_
    rintro v τ ⟨r5, I5, J5, rfl, rfl, h5⟩
    refine mm_r1' ⟨rfl, ?_⟩
    exact h5
/- 245 ThreeBreathsModel by -/
theorem fx_245 {d : Nat} {x0 : Int32} {fl : Nat → Bool} {n1 n2 : Nat} {p q : Bool} {ad : Nat → Nat} {I : mmI} {J : mmJ} {Q : mmQ} (h : mm_wc d 166 [.ref 46] ((fl, 0, 0, p, q, ad), I, J) (fun v τ => ∃ I1 J1, v = none ∧ τ = ((fl, 0, 0, p, q, ad), I1, J1) ∧ mm_wc d 203 [.ref 46, .int x0] ((fl, 0, 0, p, q, ad), I1, J1) (fun v τ => ∃ r2 I2 J2, v = some (.int r2) ∧ τ = ((fl, 0, 0, p, q, ad), I2, J2) ∧ ((¬ r2 = (nI 0) → mm_wc d 234 [.ref 46, .int x0, .int (-1), .int (-1), .int (-1), .int (nI 0)] ((fl, 0, 0, p, q, ad), I2, J2) (fun v τ => ∃ I3 J3, v = none ∧ τ = ((fl, 0, 0, p, q, ad), I3, J3) ∧ mm_wc d 240 [.ref 46] ((fl, 0, 0, p, q, ad), I3, J3) (fun v τ => ∃ r4 I4 J4, v = some (.int r4) ∧ τ = ((fl, 0, 0, p, q, ad), I4, J4) ∧ Q (some (.int r4)) ((fl, n1, n2, p, q, ad), I4, J4)))) ∧ (r2 = (nI 0) → mm_wc d 167 [.ref 46, .int (nI 1)] ((fl, 0, 0, p, q, ad), I2, J2) (fun v τ => ∃ r5 I5 J5, v = some (.int r5) ∧ τ = ((fl, 0, 0, p, q, ad), I5, J5) ∧ Q (some (.int r5)) ((fl, n1, n2, p, q, ad), I5, J5))))))) : mm_wc (d + 1) 245 [.ref 46, .int x0] ((fl, n1, n2, p, q, ad), I, J) Q := by
  refine mm_call (c := 245) rfl rfl ?_
  refine mm_go [] 80 ?_
  show mm_wc d 166 [.ref 46] ((fl, 0, 0, p, q, ad), I, J) _
  refine mm_wcm h ?_
  rintro v τ ⟨I1, J1, rfl, rfl, h1⟩
  refine mm_r0' ⟨rfl, ?_⟩
  show mm_b _ _ _ _ _ [some (.ref 46), some (.int x0)] [] ((fl, n1, n2, p, q, ad), I1, J1)
  show mm_wc d 203 [.ref 46, .int x0] ((fl, 0, 0, p, q, ad), I1, J1) _
  refine mm_wcm h1 ?_
  rintro v τ ⟨r2, I2, J2, rfl, rfl, h2⟩
  refine mm_r1' ⟨rfl, ?_⟩
  show mm_b _ _ _ _ _ [some (.ref 46), some (.int x0)] [.int r2] ((fl, n1, n2, p, q, ad), I2, J2)
  show (¬ r2 = (nI 0) → _) ∧ (r2 = (nI 0) → _)
  refine ⟨fun c0 => ?_, fun c0 => ?_⟩
  · show mm_u _ _ _ _ _ _ [some (.ref 46), some (.int x0)] [] ((fl, n1, n2, p, q, ad), I2, J2)
    show mm_wc d 234 [.ref 46, .int x0, .int (-1), .int (-1), .int (-1), .int (nI 0)] ((fl, 0, 0, p, q, ad), I2, J2) _
    refine mm_wcm (h2.1 c0) ?_
    rintro v τ ⟨I3, J3, rfl, rfl, h3⟩
    refine mm_r0' ⟨rfl, ?_⟩
    show mm_b _ _ _ _ _ [some (.ref 46), some (.int x0)] [] ((fl, n1, n2, p, q, ad), I3, J3)
    show mm_wc d 240 [.ref 46] ((fl, 0, 0, p, q, ad), I3, J3) _
    refine mm_wcm h3 ?_
    rintro v τ ⟨r4, I4, J4, rfl, rfl, h4⟩
    refine mm_r1' ⟨rfl, ?_⟩
    exact h4
  · show mm_b _ _ _ _ _ [some (.ref 46), some (.int x0)] [] ((fl, n1, n2, p, q, ad), I2, J2)
    show mm_wc d 167 [.ref 46, .int (nI 1)] ((fl, 0, 0, p, q, ad), I2, J2) _
    refine mm_wcm (h2.2 c0) ?_
    rintro v τ ⟨r5, I5, J5, rfl, rfl, h5⟩
    refine mm_r1' ⟨rfl, ?_⟩
    exact h5
/- 246 ThreeBreathsModel soonest -/
theorem fx_246 {d : Nat} {x0 : Int32} {fl : Nat → Bool} {n1 n2 : Nat} {p q : Bool} {ad : Nat → Nat} {I : mmI} {J : mmJ} {Q : mmQ} (h : mm_wc d 166 [.ref 46] ((fl, 0, 0, p, q, ad), I, J) (fun v τ => ∃ I1 J1, v = none ∧ τ = ((fl, 0, 0, p, q, ad), I1, J1) ∧ mm_wc d 201 [.ref 46, .int x0] ((fl, 0, 0, p, q, ad), I1, J1) (fun v τ => ∃ r2 I2 J2, v = some (.int r2) ∧ τ = ((fl, 0, 0, p, q, ad), I2, J2) ∧ ((¬ r2 = (nI 0) → mm_wc d 234 [.ref 46, .int (-1), .int (-1), .int (-1), .int (-1), .int (nI 0)] ((fl, 0, 0, p, q, ad), I2, J2) (fun v τ => ∃ I3 J3, v = none ∧ τ = ((fl, 0, 0, p, q, ad), I3, J3) ∧ mm_wc d 224 [.ref 46] ((fl, 0, 0, p, q, ad), I3, J3) (fun v τ => ∃ I4 J4, v = none ∧ τ = ((fl, 0, 0, p, q, ad), I4, J4) ∧ mm_w Q (mm_wc d) bk_246 33 [some (.ref 46), some (.int x0), some (.int (nI 0)), none, none, none] [] ((fl, n1, n2, p, q, ad), I4, J4)))) ∧ (r2 = (nI 0) → mm_wc d 167 [.ref 46, .int (nI 1)] ((fl, 0, 0, p, q, ad), I2, J2) (fun v τ => ∃ r5 I5 J5, v = some (.int r5) ∧ τ = ((fl, 0, 0, p, q, ad), I5, J5) ∧ Q (some (.int r5)) ((fl, n1, n2, p, q, ad), I5, J5))))))) : mm_wc (d + 1) 246 [.ref 46, .int x0] ((fl, n1, n2, p, q, ad), I, J) Q := by
  refine mm_call (c := 246) rfl rfl ?_
  refine mm_go [33, 90, 123] 80 ?_
  show mm_wc d 166 [.ref 46] ((fl, 0, 0, p, q, ad), I, J) _
  refine mm_wcm h ?_
  rintro v τ ⟨I1, J1, rfl, rfl, h1⟩
  refine mm_r0' ⟨rfl, ?_⟩
  show mm_b _ _ _ _ _ [some (.ref 46), some (.int x0), none, none, none, none] [] ((fl, n1, n2, p, q, ad), I1, J1)
  show mm_wc d 201 [.ref 46, .int x0] ((fl, 0, 0, p, q, ad), I1, J1) _
  refine mm_wcm h1 ?_
  rintro v τ ⟨r2, I2, J2, rfl, rfl, h2⟩
  refine mm_r1' ⟨rfl, ?_⟩
  show mm_b _ _ _ _ _ [some (.ref 46), some (.int x0), none, none, none, none] [.int r2] ((fl, n1, n2, p, q, ad), I2, J2)
  show (¬ r2 = (nI 0) → _) ∧ (r2 = (nI 0) → _)
  refine ⟨fun c0 => ?_, fun c0 => ?_⟩
  · show mm_u _ _ _ _ _ _ [some (.ref 46), some (.int x0), none, none, none, none] [] ((fl, n1, n2, p, q, ad), I2, J2)
    show mm_wc d 234 [.ref 46, .int (-1), .int (-1), .int (-1), .int (-1), .int (nI 0)] ((fl, 0, 0, p, q, ad), I2, J2) _
    refine mm_wcm (h2.1 c0) ?_
    rintro v τ ⟨I3, J3, rfl, rfl, h3⟩
    refine mm_r0' ⟨rfl, ?_⟩
    show mm_b _ _ _ _ _ [some (.ref 46), some (.int x0), none, none, none, none] [] ((fl, n1, n2, p, q, ad), I3, J3)
    show mm_wc d 224 [.ref 46] ((fl, 0, 0, p, q, ad), I3, J3) _
    refine mm_wcm h3 ?_
    rintro v τ ⟨I4, J4, rfl, rfl, h4⟩
    refine mm_r0' ⟨rfl, ?_⟩
    exact h4
  · show mm_b _ _ _ _ _ [some (.ref 46), some (.int x0), none, none, none, none] [] ((fl, n1, n2, p, q, ad), I2, J2)
    show mm_wc d 167 [.ref 46, .int (nI 1)] ((fl, 0, 0, p, q, ad), I2, J2) _
    refine mm_wcm (h2.2 c0) ?_
    rintro v τ ⟨r5, I5, J5, rfl, rfl, h5⟩
    refine mm_r1' ⟨rfl, ?_⟩
    exact h5
theorem fx_246_33 {d : Nat} {a1 : Int32} {a2 : Int32} {fl : Nat → Bool} {n1 n2 : Nat} {p q : Bool} {ad : Nat → Nat} {I : mmI} {J : mmJ} {Q : mmQ} (h : (((nI 16384) ≤ a2 → mm_wc d 235 [.ref 46, .int (I 46 17), .int (I 46 18)] ((fl, 0, 0, p, q, ad), I, J) (fun v τ => ∃ r1 I1 J1, v = some (.int r1) ∧ τ = ((fl, 0, 0, p, q, ad), I1, J1) ∧ (vp_in r1 16384 ∧ mm_w Q (mm_wc d) bk_246 90 [some (.ref 46), some (.int a1), some (.int (nI 0)), none, none, none] [] ((fl, n1, n2, p, q, ad), (mm_up (mm_up (mm_up I1 59 0 r1) 58 r1.toNatClampNeg (nI 0)) 46 33 (nI 1)), J1)))) ∧ (¬ (nI 16384) ≤ a2 → (vp_in a2 16384 ∧ mm_w Q (mm_wc d) bk_246 33 [some (.ref 46), some (.int a1), some (.int (a2 + (nI 1))), none, none, none] [] ((fl, n1, n2, p, q, ad), (mm_up I 58 a2.toNatClampNeg (-1)), J))))) : mm_w Q (mm_wc (d)) bk_246 33 [some (.ref 46), some (.int a1), some (.int a2), none, none, none] [] ((fl, n1, n2, p, q, ad), I, J) := by
  refine mm_go [33, 90, 123] 80 ?_
  show ((nI 16384) ≤ a2 → _) ∧ (¬ (nI 16384) ≤ a2 → _)
  refine ⟨fun c0 => ?_, fun c0 => ?_⟩
  · show mm_u _ _ _ _ _ _ [some (.ref 46), some (.int a1), some (.int a2), none, none, none] [] ((fl, n1, n2, p, q, ad), I, J)
    show mm_wc d 235 [.ref 46, .int (I 46 17), .int (I 46 18)] ((fl, 0, 0, p, q, ad), I, J) _
    refine mm_wcm (h.1 c0) ?_
    rintro v τ ⟨r1, I1, J1, rfl, rfl, h1⟩
    refine mm_r1' ⟨rfl, ?_⟩
    show mm_b _ _ _ _ _ [some (.ref 46), some (.int a1), none, none, none, none] [.int r1, .int (nI 0), .ref 59] ((fl, n1, n2, p, q, ad), I1, J1)
    show (vp_in (nI 0) 16384) ∧ _
    refine ⟨(mm_inl (by decide)), ?_⟩
    show mm_b _ _ _ _ _ [some (.ref 46), some (.int a1), none, none, none, none] [] ((fl, n1, n2, p, q, ad), (mm_up I1 59 0 r1), J1)
    show (vp_in (nI 0) 16384) ∧ _
    refine ⟨(mm_inl (by decide)), ?_⟩
    show mm_b _ _ _ _ _ [some (.ref 46), some (.int a1), none, none, none, none] [.int r1, .ref 58] ((fl, n1, n2, p, q, ad), (mm_up I1 59 0 r1), J1)
    show vp_in r1 16384 ∧ _
    refine ⟨h1.1, ?_⟩
    exact h1.2
  · show mm_b _ _ _ _ _ [some (.ref 46), some (.int a1), some (.int a2), none, none, none] [] ((fl, n1, n2, p, q, ad), I, J)
    show vp_in a2 16384 ∧ _
    refine ⟨(h.2 c0).1, ?_⟩
    exact (h.2 c0).2
theorem fx_246_90 {d : Nat} {a1 : Int32} {a2 : Int32} {fl : Nat → Bool} {n1 n2 : Nat} {p q : Bool} {ad : Nat → Nat} {I : mmI} {J : mmJ} {Q : mmQ} (h : (((I 46 33) ≤ a2 → Q (some (.int (-2))) ((fl, n1, n2, p, q, ad), I, J)) ∧ (¬ (I 46 33) ≤ a2 → (vp_in a2 16384 ∧ mm_wc d 170 [.int (I 59 a2.toNatClampNeg), .int a1] ((fl, 0, 0, p, q, ad), I, J) (fun v τ => ∃ r1 I1 J1, v = some (.int r1) ∧ τ = ((fl, 0, 0, p, q, ad), I1, J1) ∧ ((¬ r1 = (nI 0) → mm_w Q (mm_wc d) bk_246 123 [some (.ref 46), some (.int a1), some (.int a2), some (.int (I 59 a2.toNatClampNeg)), some (.int (nI 0)), none] [] ((fl, n1, n2, p, q, ad), I1, J1)) ∧ (r1 = (nI 0) → (vp_in (I 59 a2.toNatClampNeg) 16384 ∧ Q (some (.int (I1 58 ((I 59 a2.toNatClampNeg)).toNatClampNeg))) ((fl, n1, n2, p, q, ad), I1, J1))))))))) : mm_w Q (mm_wc (d)) bk_246 90 [some (.ref 46), some (.int a1), some (.int a2), none, none, none] [] ((fl, n1, n2, p, q, ad), I, J) := by
  refine mm_go [33, 90, 123] 80 ?_
  show ((I 46 33) ≤ a2 → _) ∧ (¬ (I 46 33) ≤ a2 → _)
  refine ⟨fun c0 => ?_, fun c0 => ?_⟩
  · exact (h.1 c0)
  · show mm_b _ _ _ _ _ [some (.ref 46), some (.int a1), some (.int a2), none, none, none] [] ((fl, n1, n2, p, q, ad), I, J)
    show vp_in a2 16384 ∧ _
    refine ⟨(h.2 c0).1, ?_⟩
    show mm_b _ _ _ _ _ [some (.ref 46), some (.int a1), some (.int a2), none, none, none] [.int (I 59 a2.toNatClampNeg)] ((fl, n1, n2, p, q, ad), I, J)
    show mm_wc d 170 [.int (I 59 a2.toNatClampNeg), .int a1] ((fl, 0, 0, p, q, ad), I, J) _
    refine mm_wcm ((h.2 c0).2) ?_
    rintro v τ ⟨r1, I1, J1, rfl, rfl, h1⟩
    refine mm_r1' ⟨rfl, ?_⟩
    show mm_b _ _ _ _ _ [some (.ref 46), some (.int a1), some (.int a2), some (.int (I 59 a2.toNatClampNeg)), none, none] [.int r1] ((fl, n1, n2, p, q, ad), I1, J1)
    show (¬ r1 = (nI 0) → _) ∧ (r1 = (nI 0) → _)
    refine ⟨fun c1 => ?_, fun c1 => ?_⟩
    · exact (h1.1 c1)
    · show mm_b _ _ _ _ _ [some (.ref 46), some (.int a1), some (.int a2), some (.int (I 59 a2.toNatClampNeg)), none, none] [] ((fl, n1, n2, p, q, ad), I1, J1)
      show vp_in (I 59 a2.toNatClampNeg) 16384 ∧ _
      refine ⟨(h1.2 c1).1, ?_⟩
      exact (h1.2 c1).2
theorem fx_246_123 {d : Nat} {a1 : Int32} {a2 : Int32} {a3 : Int32} {a4 : Int32} {fl : Nat → Bool} {n1 n2 : Nat} {p q : Bool} {ad : Nat → Nat} {I : mmI} {J : mmJ} {Q : mmQ} (h : (((I 46 32) ≤ a4 → mm_w Q (mm_wc d) bk_246 90 [some (.ref 46), some (.int a1), some (.int (a2 + (nI 1))), none, none, none] [] ((fl, n1, n2, p, q, ad), I, J)) ∧ (¬ (I 46 32) ≤ a4 → (vp_in a4 320 ∧ mm_wc d 238 [.ref 46, .int a3, .int (I 57 a4.toNatClampNeg)] ((fl, 0, 0, p, q, ad), I, J) (fun v τ => ∃ r1 I1 J1, v = some (.int r1) ∧ τ = ((fl, 0, 0, p, q, ad), I1, J1) ∧ (vp_in r1 16384 ∧ (((I1 58 r1.toNatClampNeg) < (nI 0) → (vp_in a3 16384 ∧ (vp_in r1 16384 ∧ (vp_in (I1 46 33) 16384 ∧ mm_w Q (mm_wc d) bk_246 123 [some (.ref 46), some (.int a1), some (.int a2), some (.int a3), some (.int (a4 + (nI 1))), none] [] ((fl, n1, n2, p, q, ad), (mm_up (mm_up (mm_up I1 58 r1.toNatClampNeg ((I1 58 a3.toNatClampNeg) + (nI 1))) 59 ((I1 46 33)).toNatClampNeg r1) 46 33 ((I1 46 33) + (nI 1))), J1))))) ∧ (¬ (I1 58 r1.toNatClampNeg) < (nI 0) → mm_w Q (mm_wc d) bk_246 123 [some (.ref 46), some (.int a1), some (.int a2), some (.int a3), some (.int (a4 + (nI 1))), none] [] ((fl, n1, n2, p, q, ad), I1, J1))))))))) : mm_w Q (mm_wc (d)) bk_246 123 [some (.ref 46), some (.int a1), some (.int a2), some (.int a3), some (.int a4), none] [] ((fl, n1, n2, p, q, ad), I, J) := by
  refine mm_go [33, 90, 123] 80 ?_
  show ((I 46 32) ≤ a4 → _) ∧ (¬ (I 46 32) ≤ a4 → _)
  refine ⟨fun c0 => ?_, fun c0 => ?_⟩
  · exact (h.1 c0)
  · show mm_b _ _ _ _ _ [some (.ref 46), some (.int a1), some (.int a2), some (.int a3), some (.int a4), none] [] ((fl, n1, n2, p, q, ad), I, J)
    show vp_in a4 320 ∧ _
    refine ⟨(h.2 c0).1, ?_⟩
    show mm_b _ _ _ _ _ [some (.ref 46), some (.int a1), some (.int a2), some (.int a3), some (.int a4), none] [.int (I 57 a4.toNatClampNeg), .int a3, .ref 46] ((fl, n1, n2, p, q, ad), I, J)
    show mm_wc d 238 [.ref 46, .int a3, .int (I 57 a4.toNatClampNeg)] ((fl, 0, 0, p, q, ad), I, J) _
    refine mm_wcm ((h.2 c0).2) ?_
    rintro v τ ⟨r1, I1, J1, rfl, rfl, h1⟩
    refine mm_r1' ⟨rfl, ?_⟩
    show mm_b _ _ _ _ _ [some (.ref 46), some (.int a1), some (.int a2), some (.int a3), some (.int a4), none] [.int r1] ((fl, n1, n2, p, q, ad), I1, J1)
    show vp_in r1 16384 ∧ _
    refine ⟨h1.1, ?_⟩
    show mm_b _ _ _ _ _ [some (.ref 46), some (.int a1), some (.int a2), some (.int a3), some (.int a4), some (.int r1)] [.int (I1 58 r1.toNatClampNeg)] ((fl, n1, n2, p, q, ad), I1, J1)
    show ((I1 58 r1.toNatClampNeg) < (nI 0) → _) ∧ (¬ (I1 58 r1.toNatClampNeg) < (nI 0) → _)
    refine ⟨fun c1 => ?_, fun c1 => ?_⟩
    · show mm_u _ _ _ _ _ _ [some (.ref 46), some (.int a1), some (.int a2), some (.int a3), some (.int a4), some (.int r1)] [] ((fl, n1, n2, p, q, ad), I1, J1)
      show vp_in a3 16384 ∧ _
      refine ⟨(h1.2.1 c1).1, ?_⟩
      show mm_b _ _ _ _ _ [some (.ref 46), some (.int a1), some (.int a2), some (.int a3), some (.int a4), some (.int r1)] [.int (I1 58 a3.toNatClampNeg), .int r1, .ref 58] ((fl, n1, n2, p, q, ad), I1, J1)
      show vp_in r1 16384 ∧ _
      refine ⟨(h1.2.1 c1).2.1, ?_⟩
      show mm_b _ _ _ _ _ [some (.ref 46), some (.int a1), some (.int a2), some (.int a3), some (.int a4), some (.int r1)] [] ((fl, n1, n2, p, q, ad), (mm_up I1 58 r1.toNatClampNeg ((I1 58 a3.toNatClampNeg) + (nI 1))), J1)
      show vp_in (I1 46 33) 16384 ∧ _
      refine ⟨(h1.2.1 c1).2.2.1, ?_⟩
      exact (h1.2.1 c1).2.2.2
    · exact (h1.2.2 c1)
/- 247 ThreeBreathsModel few -/
theorem fx_247 {d : Nat} {x0 : Int32} {fl : Nat → Bool} {n1 n2 : Nat} {p q : Bool} {ad : Nat → Nat} {I : mmI} {J : mmJ} {Q : mmQ} (h : mm_wc d 166 [.ref 46] ((fl, 0, 0, p, q, ad), I, J) (fun v τ => ∃ I1 J1, v = none ∧ τ = ((fl, 0, 0, p, q, ad), I1, J1) ∧ ((¬ (I1 46 14) = (nI 0) → mm_wc d 169 [.int x0, .int (nI 0), .int (nI 9)] ((fl, 0, 0, p, q, ad), I1, J1) (fun v τ => ∃ r2 I2 J2, v = some (.int r2) ∧ τ = ((fl, 0, 0, p, q, ad), I2, J2) ∧ ((¬ r2 = (nI 0) → mm_wc d 234 [.ref 46, .int (-1), .int (-1), .int (-1), .int (-1), .int (nI 0)] ((fl, 0, 0, p, q, ad), I2, J2) (fun v τ => ∃ I3 J3, v = none ∧ τ = ((fl, 0, 0, p, q, ad), I3, J3) ∧ mm_wc d 224 [.ref 46] ((fl, 0, 0, p, q, ad), I3, J3) (fun v τ => ∃ I4 J4, v = none ∧ τ = ((fl, 0, 0, p, q, ad), I4, J4) ∧ mm_w Q (mm_wc d) bk_247 48 [some (.ref 46), some (.int x0), some (.int (nI 0)), none, none] [] ((fl, n1, n2, p, q, ad), I4, J4)))) ∧ (r2 = (nI 0) → mm_wc d 167 [.ref 46, .int (nI 2)] ((fl, 0, 0, p, q, ad), I2, J2) (fun v τ => ∃ r5 I5 J5, v = some (.int r5) ∧ τ = ((fl, 0, 0, p, q, ad), I5, J5) ∧ Q (some (.int r5)) ((fl, n1, n2, p, q, ad), I5, J5)))))) ∧ ((I1 46 14) = (nI 0) → mm_wc d 167 [.ref 46, .int (nI 1)] ((fl, 0, 0, p, q, ad), I1, J1) (fun v τ => ∃ r6 I6 J6, v = some (.int r6) ∧ τ = ((fl, 0, 0, p, q, ad), I6, J6) ∧ Q (some (.int r6)) ((fl, n1, n2, p, q, ad), I6, J6)))))) : mm_wc (d + 1) 247 [.ref 46, .int x0] ((fl, n1, n2, p, q, ad), I, J) Q := by
  refine mm_call (c := 247) rfl rfl ?_
  refine mm_go [48, 93, 100, 111, 162, 219] 80 ?_
  show mm_wc d 166 [.ref 46] ((fl, 0, 0, p, q, ad), I, J) _
  refine mm_wcm h ?_
  rintro v τ ⟨I1, J1, rfl, rfl, h1⟩
  refine mm_r0' ⟨rfl, ?_⟩
  show mm_b _ _ _ _ _ [some (.ref 46), some (.int x0), none, none, none] [] ((fl, n1, n2, p, q, ad), I1, J1)
  show (¬ (I1 46 14) = (nI 0) → _) ∧ ((I1 46 14) = (nI 0) → _)
  refine ⟨fun c0 => ?_, fun c0 => ?_⟩
  · show mm_u _ _ _ _ _ _ [some (.ref 46), some (.int x0), none, none, none] [] ((fl, n1, n2, p, q, ad), I1, J1)
    show mm_wc d 169 [.int x0, .int (nI 0), .int (nI 9)] ((fl, 0, 0, p, q, ad), I1, J1) _
    refine mm_wcm (h1.1 c0) ?_
    rintro v τ ⟨r2, I2, J2, rfl, rfl, h2⟩
    refine mm_r1' ⟨rfl, ?_⟩
    show mm_b _ _ _ _ _ [some (.ref 46), some (.int x0), none, none, none] [.int r2] ((fl, n1, n2, p, q, ad), I2, J2)
    show (¬ r2 = (nI 0) → _) ∧ (r2 = (nI 0) → _)
    refine ⟨fun c1 => ?_, fun c1 => ?_⟩
    · show mm_u _ _ _ _ _ _ [some (.ref 46), some (.int x0), none, none, none] [] ((fl, n1, n2, p, q, ad), I2, J2)
      show mm_wc d 234 [.ref 46, .int (-1), .int (-1), .int (-1), .int (-1), .int (nI 0)] ((fl, 0, 0, p, q, ad), I2, J2) _
      refine mm_wcm (h2.1 c1) ?_
      rintro v τ ⟨I3, J3, rfl, rfl, h3⟩
      refine mm_r0' ⟨rfl, ?_⟩
      show mm_b _ _ _ _ _ [some (.ref 46), some (.int x0), none, none, none] [] ((fl, n1, n2, p, q, ad), I3, J3)
      show mm_wc d 224 [.ref 46] ((fl, 0, 0, p, q, ad), I3, J3) _
      refine mm_wcm h3 ?_
      rintro v τ ⟨I4, J4, rfl, rfl, h4⟩
      refine mm_r0' ⟨rfl, ?_⟩
      exact h4
    · show mm_b _ _ _ _ _ [some (.ref 46), some (.int x0), none, none, none] [] ((fl, n1, n2, p, q, ad), I2, J2)
      show mm_wc d 167 [.ref 46, .int (nI 2)] ((fl, 0, 0, p, q, ad), I2, J2) _
      refine mm_wcm (h2.2 c1) ?_
      rintro v τ ⟨r5, I5, J5, rfl, rfl, h5⟩
      refine mm_r1' ⟨rfl, ?_⟩
      exact h5
  · show mm_b _ _ _ _ _ [some (.ref 46), some (.int x0), none, none, none] [] ((fl, n1, n2, p, q, ad), I1, J1)
    show mm_wc d 167 [.ref 46, .int (nI 1)] ((fl, 0, 0, p, q, ad), I1, J1) _
    refine mm_wcm (h1.2 c0) ?_
    rintro v τ ⟨r6, I6, J6, rfl, rfl, h6⟩
    refine mm_r1' ⟨rfl, ?_⟩
    exact h6
theorem fx_247_48 {d : Nat} {a1 : Int32} {a2 : Int32} {fl : Nat → Bool} {n1 n2 : Nat} {p q : Bool} {ad : Nat → Nat} {I : mmI} {J : mmJ} {Q : mmQ} (h : (((nI 16384) ≤ a2 → mm_wc d 235 [.ref 46, .int (I 46 17), .int (I 46 18)] ((fl, 0, 0, p, q, ad), I, J) (fun v τ => ∃ r1 I1 J1, v = some (.int r1) ∧ τ = ((fl, 0, 0, p, q, ad), I1, J1) ∧ mm_w Q (mm_wc d) bk_247 93 [some (.ref 46), some (.int a1), some (.int (nI 1)), none, none] [] ((fl, n1, n2, p, q, ad), (mm_up (mm_up I1 59 0 r1) 46 33 (nI 1)), J1))) ∧ (¬ (nI 16384) ≤ a2 → (vp_in a2 16384 ∧ mm_w Q (mm_wc d) bk_247 48 [some (.ref 46), some (.int a1), some (.int (a2 + (nI 1))), none, none] [] ((fl, n1, n2, p, q, ad), (mm_up I 58 a2.toNatClampNeg (-1)), J))))) : mm_w Q (mm_wc (d)) bk_247 48 [some (.ref 46), some (.int a1), some (.int a2), none, none] [] ((fl, n1, n2, p, q, ad), I, J) := by
  refine mm_go [48, 93, 100, 111, 162, 219] 80 ?_
  show ((nI 16384) ≤ a2 → _) ∧ (¬ (nI 16384) ≤ a2 → _)
  refine ⟨fun c0 => ?_, fun c0 => ?_⟩
  · show mm_u _ _ _ _ _ _ [some (.ref 46), some (.int a1), some (.int a2), none, none] [] ((fl, n1, n2, p, q, ad), I, J)
    show mm_wc d 235 [.ref 46, .int (I 46 17), .int (I 46 18)] ((fl, 0, 0, p, q, ad), I, J) _
    refine mm_wcm (h.1 c0) ?_
    rintro v τ ⟨r1, I1, J1, rfl, rfl, h1⟩
    refine mm_r1' ⟨rfl, ?_⟩
    show mm_b _ _ _ _ _ [some (.ref 46), some (.int a1), none, none, none] [.int r1, .int (nI 0), .ref 59] ((fl, n1, n2, p, q, ad), I1, J1)
    show (vp_in (nI 0) 16384) ∧ _
    refine ⟨(mm_inl (by decide)), ?_⟩
    exact h1
  · show mm_b _ _ _ _ _ [some (.ref 46), some (.int a1), some (.int a2), none, none] [] ((fl, n1, n2, p, q, ad), I, J)
    show vp_in a2 16384 ∧ _
    refine ⟨(h.2 c0).1, ?_⟩
    exact (h.2 c0).2
theorem fx_247_93 {d : Nat} {a1 : Int32} {a2 : Int32} {fl : Nat → Bool} {n1 n2 : Nat} {p q : Bool} {ad : Nat → Nat} {I : mmI} {J : mmJ} {Q : mmQ} (h : ((a1 < a2 → mm_w Q (mm_wc d) bk_247 219 [some (.ref 46), none, some (.int (nI 10)), some (.int (nI 0)), none] [] ((fl, n1, n2, p, q, ad), I, J)) ∧ (¬ a1 < a2 → mm_w Q (mm_wc d) bk_247 100 [some (.ref 46), some (.int a1), some (.int a2), some (.int (nI 0)), none] [] ((fl, n1, n2, p, q, ad), I, J)))) : mm_w Q (mm_wc (d)) bk_247 93 [some (.ref 46), some (.int a1), some (.int a2), none, none] [] ((fl, n1, n2, p, q, ad), I, J) := by
  refine mm_go [48, 93, 100, 111, 162, 219] 80 ?_
  show (a1 < a2 → _) ∧ (¬ a1 < a2 → _)
  refine ⟨fun c0 => ?_, fun c0 => ?_⟩
  · exact (h.1 c0)
  · exact (h.2 c0)
theorem fx_247_219 {d : Nat} {a2 : Int32} {a3 : Int32} {fl : Nat → Bool} {n1 n2 : Nat} {p q : Bool} {ad : Nat → Nat} {I : mmI} {J : mmJ} {Q : mmQ} (h : (((I 46 33) ≤ a3 → Q (some (.int a2)) ((fl, n1, n2, p, q, ad), I, J)) ∧ (¬ (I 46 33) ≤ a3 → (vp_in a3 16384 ∧ mm_wc d 237 [.int (I 59 a3.toNatClampNeg)] ((fl, 0, 0, p, q, ad), I, J) (fun v τ => ∃ r1 I1 J1, v = some (.int r1) ∧ τ = ((fl, 0, 0, p, q, ad), I1, J1) ∧ mm_wc d 171 [.int r1] ((fl, 0, 0, p, q, ad), I1, J1) (fun v τ => ∃ r2 I2 J2, v = some (.int r2) ∧ τ = ((fl, 0, 0, p, q, ad), I2, J2) ∧ ((a2 ≤ r2 → mm_w Q (mm_wc d) bk_247 219 [some (.ref 46), none, some (.int a2), some (.int (a3 + (nI 1))), none] [] ((fl, n1, n2, p, q, ad), I2, J2)) ∧ (¬ a2 ≤ r2 → (vp_in a3 16384 ∧ mm_wc d 237 [.int (I2 59 a3.toNatClampNeg)] ((fl, 0, 0, p, q, ad), I2, J2) (fun v τ => ∃ r3 I3 J3, v = some (.int r3) ∧ τ = ((fl, 0, 0, p, q, ad), I3, J3) ∧ mm_wc d 171 [.int r3] ((fl, 0, 0, p, q, ad), I3, J3) (fun v τ => ∃ r4 I4 J4, v = some (.int r4) ∧ τ = ((fl, 0, 0, p, q, ad), I4, J4) ∧ mm_w Q (mm_wc d) bk_247 219 [some (.ref 46), none, some (.int r4), some (.int (a3 + (nI 1))), none] [] ((fl, n1, n2, p, q, ad), I4, J4)))))))))))) : mm_w Q (mm_wc (d)) bk_247 219 [some (.ref 46), none, some (.int a2), some (.int a3), none] [] ((fl, n1, n2, p, q, ad), I, J) := by
  refine mm_go [48, 93, 100, 111, 162, 219] 80 ?_
  show ((I 46 33) ≤ a3 → _) ∧ (¬ (I 46 33) ≤ a3 → _)
  refine ⟨fun c0 => ?_, fun c0 => ?_⟩
  · exact (h.1 c0)
  · show mm_b _ _ _ _ _ [some (.ref 46), none, some (.int a2), some (.int a3), none] [] ((fl, n1, n2, p, q, ad), I, J)
    show vp_in a3 16384 ∧ _
    refine ⟨(h.2 c0).1, ?_⟩
    show mm_b _ _ _ _ _ [some (.ref 46), none, some (.int a2), some (.int a3), none] [.int (I 59 a3.toNatClampNeg)] ((fl, n1, n2, p, q, ad), I, J)
    show mm_wc d 237 [.int (I 59 a3.toNatClampNeg)] ((fl, 0, 0, p, q, ad), I, J) _
    refine mm_wcm ((h.2 c0).2) ?_
    rintro v τ ⟨r1, I1, J1, rfl, rfl, h1⟩
    refine mm_r1' ⟨rfl, ?_⟩
    show mm_b _ _ _ _ _ [some (.ref 46), none, some (.int a2), some (.int a3), none] [.int r1] ((fl, n1, n2, p, q, ad), I1, J1)
    show mm_wc d 171 [.int r1] ((fl, 0, 0, p, q, ad), I1, J1) _
    refine mm_wcm h1 ?_
    rintro v τ ⟨r2, I2, J2, rfl, rfl, h2⟩
    refine mm_r1' ⟨rfl, ?_⟩
    show mm_b _ _ _ _ _ [some (.ref 46), none, some (.int a2), some (.int a3), none] [.int r2] ((fl, n1, n2, p, q, ad), I2, J2)
    show (a2 ≤ r2 → _) ∧ (¬ a2 ≤ r2 → _)
    refine ⟨fun c1 => ?_, fun c1 => ?_⟩
    · exact (h2.1 c1)
    · show mm_b _ _ _ _ _ [some (.ref 46), none, some (.int a2), some (.int a3), none] [] ((fl, n1, n2, p, q, ad), I2, J2)
      show vp_in a3 16384 ∧ _
      refine ⟨(h2.2 c1).1, ?_⟩
      show mm_b _ _ _ _ _ [some (.ref 46), none, some (.int a2), some (.int a3), none] [.int (I2 59 a3.toNatClampNeg)] ((fl, n1, n2, p, q, ad), I2, J2)
      show mm_wc d 237 [.int (I2 59 a3.toNatClampNeg)] ((fl, 0, 0, p, q, ad), I2, J2) _
      refine mm_wcm ((h2.2 c1).2) ?_
      rintro v τ ⟨r3, I3, J3, rfl, rfl, h3⟩
      refine mm_r1' ⟨rfl, ?_⟩
      show mm_b _ _ _ _ _ [some (.ref 46), none, some (.int a2), some (.int a3), none] [.int r3] ((fl, n1, n2, p, q, ad), I3, J3)
      show mm_wc d 171 [.int r3] ((fl, 0, 0, p, q, ad), I3, J3) _
      refine mm_wcm h3 ?_
      rintro v τ ⟨r4, I4, J4, rfl, rfl, h4⟩
      refine mm_r1' ⟨rfl, ?_⟩
      exact h4
theorem fx_247_100 {d : Nat} {a1 : Int32} {a2 : Int32} {a3 : Int32} {fl : Nat → Bool} {n1 n2 : Nat} {p q : Bool} {ad : Nat → Nat} {I : mmI} {J : mmJ} {Q : mmQ} (h : (((I 46 33) ≤ a3 → mm_w Q (mm_wc d) bk_247 162 [some (.ref 46), some (.int a1), some (.int a2), some (.int (nI 0)), none] [] ((fl, n1, n2, p, q, ad), (mm_up I 46 33 (nI 0)), J)) ∧ (¬ (I 46 33) ≤ a3 → mm_w Q (mm_wc d) bk_247 111 [some (.ref 46), some (.int a1), some (.int a2), some (.int a3), some (.int (nI 0))] [] ((fl, n1, n2, p, q, ad), I, J)))) : mm_w Q (mm_wc (d)) bk_247 100 [some (.ref 46), some (.int a1), some (.int a2), some (.int a3), none] [] ((fl, n1, n2, p, q, ad), I, J) := by
  refine mm_go [48, 93, 100, 111, 162, 219] 80 ?_
  show ((I 46 33) ≤ a3 → _) ∧ (¬ (I 46 33) ≤ a3 → _)
  refine ⟨fun c0 => ?_, fun c0 => ?_⟩
  · exact (h.1 c0)
  · exact (h.2 c0)
theorem fx_247_162 {d : Nat} {a1 : Int32} {a2 : Int32} {a3 : Int32} {fl : Nat → Bool} {n1 n2 : Nat} {p q : Bool} {ad : Nat → Nat} {I : mmI} {J : mmJ} {Q : mmQ} (h : (((nI 16384) ≤ a3 → mm_w Q (mm_wc d) bk_247 93 [some (.ref 46), some (.int a1), some (.int (a2 + (nI 1))), none, none] [] ((fl, n1, n2, p, q, ad), I, J)) ∧ (¬ (nI 16384) ≤ a3 → (vp_in a3 16384 ∧ (((I 58 a3.toNatClampNeg) = a2 → (vp_in (I 46 33) 16384 ∧ mm_w Q (mm_wc d) bk_247 162 [some (.ref 46), some (.int a1), some (.int a2), some (.int (a3 + (nI 1))), none] [] ((fl, n1, n2, p, q, ad), (mm_up (mm_up I 59 ((I 46 33)).toNatClampNeg a3) 46 33 ((I 46 33) + (nI 1))), J))) ∧ (¬ (I 58 a3.toNatClampNeg) = a2 → mm_w Q (mm_wc d) bk_247 162 [some (.ref 46), some (.int a1), some (.int a2), some (.int (a3 + (nI 1))), none] [] ((fl, n1, n2, p, q, ad), I, J))))))) : mm_w Q (mm_wc (d)) bk_247 162 [some (.ref 46), some (.int a1), some (.int a2), some (.int a3), none] [] ((fl, n1, n2, p, q, ad), I, J) := by
  refine mm_go [48, 93, 100, 111, 162, 219] 80 ?_
  show ((nI 16384) ≤ a3 → _) ∧ (¬ (nI 16384) ≤ a3 → _)
  refine ⟨fun c0 => ?_, fun c0 => ?_⟩
  · exact (h.1 c0)
  · show mm_b _ _ _ _ _ [some (.ref 46), some (.int a1), some (.int a2), some (.int a3), none] [] ((fl, n1, n2, p, q, ad), I, J)
    show vp_in a3 16384 ∧ _
    refine ⟨(h.2 c0).1, ?_⟩
    show mm_b _ _ _ _ _ [some (.ref 46), some (.int a1), some (.int a2), some (.int a3), none] [.int (I 58 a3.toNatClampNeg)] ((fl, n1, n2, p, q, ad), I, J)
    show ((I 58 a3.toNatClampNeg) = a2 → _) ∧ (¬ (I 58 a3.toNatClampNeg) = a2 → _)
    refine ⟨fun c1 => ?_, fun c1 => ?_⟩
    · show mm_u _ _ _ _ _ _ [some (.ref 46), some (.int a1), some (.int a2), some (.int a3), none] [] ((fl, n1, n2, p, q, ad), I, J)
      show vp_in (I 46 33) 16384 ∧ _
      refine ⟨((h.2 c0).2.1 c1).1, ?_⟩
      exact ((h.2 c0).2.1 c1).2
    · exact ((h.2 c0).2.2 c1)
theorem fx_247_111 {d : Nat} {a1 : Int32} {a2 : Int32} {a3 : Int32} {a4 : Int32} {fl : Nat → Bool} {n1 n2 : Nat} {p q : Bool} {ad : Nat → Nat} {I : mmI} {J : mmJ} {Q : mmQ} (h : (((I 46 32) ≤ a4 → mm_w Q (mm_wc d) bk_247 100 [some (.ref 46), some (.int a1), some (.int a2), some (.int (a3 + (nI 1))), none] [] ((fl, n1, n2, p, q, ad), I, J)) ∧ (¬ (I 46 32) ≤ a4 → (vp_in a3 16384 ∧ (vp_in a4 320 ∧ mm_wc d 238 [.ref 46, .int (I 59 a3.toNatClampNeg), .int (I 57 a4.toNatClampNeg)] ((fl, 0, 0, p, q, ad), I, J) (fun v τ => ∃ r1 I1 J1, v = some (.int r1) ∧ τ = ((fl, 0, 0, p, q, ad), I1, J1) ∧ (vp_in r1 16384 ∧ mm_w Q (mm_wc d) bk_247 111 [some (.ref 46), some (.int a1), some (.int a2), some (.int a3), some (.int (a4 + (nI 1)))] [] ((fl, n1, n2, p, q, ad), (mm_up I1 58 r1.toNatClampNeg a2), J1)))))))) : mm_w Q (mm_wc (d)) bk_247 111 [some (.ref 46), some (.int a1), some (.int a2), some (.int a3), some (.int a4)] [] ((fl, n1, n2, p, q, ad), I, J) := by
  refine mm_go [48, 93, 100, 111, 162, 219] 80 ?_
  show ((I 46 32) ≤ a4 → _) ∧ (¬ (I 46 32) ≤ a4 → _)
  refine ⟨fun c0 => ?_, fun c0 => ?_⟩
  · exact (h.1 c0)
  · show mm_b _ _ _ _ _ [some (.ref 46), some (.int a1), some (.int a2), some (.int a3), some (.int a4)] [] ((fl, n1, n2, p, q, ad), I, J)
    show vp_in a3 16384 ∧ _
    refine ⟨(h.2 c0).1, ?_⟩
    show mm_b _ _ _ _ _ [some (.ref 46), some (.int a1), some (.int a2), some (.int a3), some (.int a4)] [.int (I 59 a3.toNatClampNeg), .ref 46, .ref 58] ((fl, n1, n2, p, q, ad), I, J)
    show vp_in a4 320 ∧ _
    refine ⟨(h.2 c0).2.1, ?_⟩
    show mm_b _ _ _ _ _ [some (.ref 46), some (.int a1), some (.int a2), some (.int a3), some (.int a4)] [.int (I 57 a4.toNatClampNeg), .int (I 59 a3.toNatClampNeg), .ref 46, .ref 58] ((fl, n1, n2, p, q, ad), I, J)
    show mm_wc d 238 [.ref 46, .int (I 59 a3.toNatClampNeg), .int (I 57 a4.toNatClampNeg)] ((fl, 0, 0, p, q, ad), I, J) _
    refine mm_wcm ((h.2 c0).2.2) ?_
    rintro v τ ⟨r1, I1, J1, rfl, rfl, h1⟩
    refine mm_r1' ⟨rfl, ?_⟩
    show mm_b _ _ _ _ _ [some (.ref 46), some (.int a1), some (.int a2), some (.int a3), some (.int a4)] [.int r1, .ref 58] ((fl, n1, n2, p, q, ad), I1, J1)
    show vp_in r1 16384 ∧ _
    refine ⟨h1.1, ?_⟩
    exact h1.2
/- 248 ThreeBreathsModel inTime -/
theorem fx_248 {d : Nat} {fl : Nat → Bool} {n1 n2 : Nat} {p q : Bool} {ad : Nat → Nat} {I : mmI} {J : mmJ} {Q : mmQ} (h : mm_wc d 166 [.ref 46] ((fl, 0, 0, p, q, ad), I, J) (fun v τ => ∃ I1 J1, v = none ∧ τ = ((fl, 0, 0, p, q, ad), I1, J1) ∧ ((¬ (I1 46 14) = (nI 0) → mm_wc d 234 [.ref 46, .int (-1), .int (-1), .int (-1), .int (-1), .int (nI 0)] ((fl, 0, 0, p, q, ad), I1, J1) (fun v τ => ∃ I2 J2, v = none ∧ τ = ((fl, 0, 0, p, q, ad), I2, J2) ∧ mm_wc d 240 [.ref 46] ((fl, 0, 0, p, q, ad), I2, J2) (fun v τ => ∃ r3 I3 J3, v = some (.int r3) ∧ τ = ((fl, 0, 0, p, q, ad), I3, J3) ∧ ((r3 = (-2) → Q (some (.int (nI 0))) ((fl, n1, n2, p, q, ad), I3, J3)) ∧ (¬ r3 = (-2) → (((I3 49 2) < r3 → Q (some (.int (nI 0))) ((fl, n1, n2, p, q, ad), I3, J3)) ∧ (¬ (I3 49 2) < r3 → Q (some (.int (nI 1))) ((fl, n1, n2, p, q, ad), I3, J3)))))))) ∧ ((I1 46 14) = (nI 0) → mm_wc d 167 [.ref 46, .int (nI 1)] ((fl, 0, 0, p, q, ad), I1, J1) (fun v τ => ∃ r4 I4 J4, v = some (.int r4) ∧ τ = ((fl, 0, 0, p, q, ad), I4, J4) ∧ Q (some (.int r4)) ((fl, n1, n2, p, q, ad), I4, J4)))))) : mm_wc (d + 1) 248 [.ref 46] ((fl, n1, n2, p, q, ad), I, J) Q := by
  refine mm_call (c := 248) rfl rfl ?_
  refine mm_go [] 80 ?_
  show mm_wc d 166 [.ref 46] ((fl, 0, 0, p, q, ad), I, J) _
  refine mm_wcm h ?_
  rintro v τ ⟨I1, J1, rfl, rfl, h1⟩
  refine mm_r0' ⟨rfl, ?_⟩
  show mm_b _ _ _ _ _ [some (.ref 46), none] [] ((fl, n1, n2, p, q, ad), I1, J1)
  show (¬ (I1 46 14) = (nI 0) → _) ∧ ((I1 46 14) = (nI 0) → _)
  refine ⟨fun c0 => ?_, fun c0 => ?_⟩
  · show mm_u _ _ _ _ _ _ [some (.ref 46), none] [] ((fl, n1, n2, p, q, ad), I1, J1)
    show mm_wc d 234 [.ref 46, .int (-1), .int (-1), .int (-1), .int (-1), .int (nI 0)] ((fl, 0, 0, p, q, ad), I1, J1) _
    refine mm_wcm (h1.1 c0) ?_
    rintro v τ ⟨I2, J2, rfl, rfl, h2⟩
    refine mm_r0' ⟨rfl, ?_⟩
    show mm_b _ _ _ _ _ [some (.ref 46), none] [] ((fl, n1, n2, p, q, ad), I2, J2)
    show mm_wc d 240 [.ref 46] ((fl, 0, 0, p, q, ad), I2, J2) _
    refine mm_wcm h2 ?_
    rintro v τ ⟨r3, I3, J3, rfl, rfl, h3⟩
    refine mm_r1' ⟨rfl, ?_⟩
    show mm_b _ _ _ _ _ [some (.ref 46), none] [.int r3] ((fl, n1, n2, p, q, ad), I3, J3)
    show (r3 = (-2) → _) ∧ (¬ r3 = (-2) → _)
    refine ⟨fun c1 => ?_, fun c1 => ?_⟩
    · exact (h3.1 c1)
    · show mm_b _ _ _ _ _ [some (.ref 46), some (.int r3)] [] ((fl, n1, n2, p, q, ad), I3, J3)
      show (vp_in (nI 2) 279) ∧ _
      refine ⟨(mm_inl (by decide)), ?_⟩
      show mm_b _ _ _ _ _ [some (.ref 46), some (.int r3)] [.int (I3 49 2), .int r3] ((fl, n1, n2, p, q, ad), I3, J3)
      show ((I3 49 2) < r3 → _) ∧ (¬ (I3 49 2) < r3 → _)
      refine ⟨fun c2 => ?_, fun c2 => ?_⟩
      · exact ((h3.2 c1).1 c2)
      · exact ((h3.2 c1).2 c2)
  · show mm_b _ _ _ _ _ [some (.ref 46), none] [] ((fl, n1, n2, p, q, ad), I1, J1)
    show mm_wc d 167 [.ref 46, .int (nI 1)] ((fl, 0, 0, p, q, ad), I1, J1) _
    refine mm_wcm (h1.2 c0) ?_
    rintro v τ ⟨r4, I4, J4, rfl, rfl, h4⟩
    refine mm_r1' ⟨rfl, ?_⟩
    exact h4
/- 249 ThreeBreathsModel far -/
theorem fx_249 {d : Nat} {x0 : Int32} {x1 : Int32} {fl : Nat → Bool} {n1 n2 : Nat} {p q : Bool} {ad : Nat → Nat} {I : mmI} {J : mmJ} {Q : mmQ} (h : (vp_in ((nI 46) + x0) 279 ∧ (vp_in ((nI 46) + x1) 279 ∧ (vp_in ((nI 51) + x0) 279 ∧ (vp_in ((nI 51) + x1) 279 ∧ (((nI 0) ≤ ((I 49 (((nI 46) + x0)).toNatClampNeg) - (I 49 (((nI 46) + x1)).toNatClampNeg)) → (((nI 0) ≤ ((I 49 (((nI 51) + x0)).toNatClampNeg) - (I 49 (((nI 51) + x1)).toNatClampNeg)) → Q (some (.int (((I 49 (((nI 46) + x0)).toNatClampNeg) - (I 49 (((nI 46) + x1)).toNatClampNeg)) + ((I 49 (((nI 51) + x0)).toNatClampNeg) - (I 49 (((nI 51) + x1)).toNatClampNeg))))) ((fl, n1, n2, p, q, ad), I, J)) ∧ (¬ (nI 0) ≤ ((I 49 (((nI 51) + x0)).toNatClampNeg) - (I 49 (((nI 51) + x1)).toNatClampNeg)) → Q (some (.int (((I 49 (((nI 46) + x0)).toNatClampNeg) - (I 49 (((nI 46) + x1)).toNatClampNeg)) + (-((I 49 (((nI 51) + x0)).toNatClampNeg) - (I 49 (((nI 51) + x1)).toNatClampNeg)))))) ((fl, n1, n2, p, q, ad), I, J)))) ∧ (¬ (nI 0) ≤ ((I 49 (((nI 46) + x0)).toNatClampNeg) - (I 49 (((nI 46) + x1)).toNatClampNeg)) → (((nI 0) ≤ ((I 49 (((nI 51) + x0)).toNatClampNeg) - (I 49 (((nI 51) + x1)).toNatClampNeg)) → Q (some (.int ((-((I 49 (((nI 46) + x0)).toNatClampNeg) - (I 49 (((nI 46) + x1)).toNatClampNeg))) + ((I 49 (((nI 51) + x0)).toNatClampNeg) - (I 49 (((nI 51) + x1)).toNatClampNeg))))) ((fl, n1, n2, p, q, ad), I, J)) ∧ (¬ (nI 0) ≤ ((I 49 (((nI 51) + x0)).toNatClampNeg) - (I 49 (((nI 51) + x1)).toNatClampNeg)) → Q (some (.int ((-((I 49 (((nI 46) + x0)).toNatClampNeg) - (I 49 (((nI 46) + x1)).toNatClampNeg))) + (-((I 49 (((nI 51) + x0)).toNatClampNeg) - (I 49 (((nI 51) + x1)).toNatClampNeg)))))) ((fl, n1, n2, p, q, ad), I, J)))))))))) : mm_wc (d + 1) 249 [.ref 46, .int x0, .int x1] ((fl, n1, n2, p, q, ad), I, J) Q := by
  refine mm_call (c := 249) rfl rfl ?_
  refine mm_go [] 80 ?_
  show vp_in ((nI 46) + x0) 279 ∧ _
  refine ⟨h.1, ?_⟩
  show mm_b _ _ _ _ _ [some (.ref 46), some (.int x0), some (.int x1), none, none] [.int (I 49 (((nI 46) + x0)).toNatClampNeg)] ((fl, n1, n2, p, q, ad), I, J)
  show vp_in ((nI 46) + x1) 279 ∧ _
  refine ⟨h.2.1, ?_⟩
  show mm_b _ _ _ _ _ [some (.ref 46), some (.int x0), some (.int x1), none, none] [.int (I 49 (((nI 46) + x1)).toNatClampNeg), .int (I 49 (((nI 46) + x0)).toNatClampNeg)] ((fl, n1, n2, p, q, ad), I, J)
  show vp_in ((nI 51) + x0) 279 ∧ _
  refine ⟨h.2.2.1, ?_⟩
  show mm_b _ _ _ _ _ [some (.ref 46), some (.int x0), some (.int x1), some (.int ((I 49 (((nI 46) + x0)).toNatClampNeg) - (I 49 (((nI 46) + x1)).toNatClampNeg))), none] [.int (I 49 (((nI 51) + x0)).toNatClampNeg)] ((fl, n1, n2, p, q, ad), I, J)
  show vp_in ((nI 51) + x1) 279 ∧ _
  refine ⟨h.2.2.2.1, ?_⟩
  show mm_b _ _ _ _ _ [some (.ref 46), some (.int x0), some (.int x1), some (.int ((I 49 (((nI 46) + x0)).toNatClampNeg) - (I 49 (((nI 46) + x1)).toNatClampNeg))), none] [.int (I 49 (((nI 51) + x1)).toNatClampNeg), .int (I 49 (((nI 51) + x0)).toNatClampNeg)] ((fl, n1, n2, p, q, ad), I, J)
  show ((nI 0) ≤ ((I 49 (((nI 46) + x0)).toNatClampNeg) - (I 49 (((nI 46) + x1)).toNatClampNeg)) → _) ∧ (¬ (nI 0) ≤ ((I 49 (((nI 46) + x0)).toNatClampNeg) - (I 49 (((nI 46) + x1)).toNatClampNeg)) → _)
  refine ⟨fun c0 => ?_, fun c0 => ?_⟩
  · show mm_u _ _ _ _ _ _ [some (.ref 46), some (.int x0), some (.int x1), some (.int ((I 49 (((nI 46) + x0)).toNatClampNeg) - (I 49 (((nI 46) + x1)).toNatClampNeg))), some (.int ((I 49 (((nI 51) + x0)).toNatClampNeg) - (I 49 (((nI 51) + x1)).toNatClampNeg)))] [] ((fl, n1, n2, p, q, ad), I, J)
    show ((nI 0) ≤ ((I 49 (((nI 51) + x0)).toNatClampNeg) - (I 49 (((nI 51) + x1)).toNatClampNeg)) → _) ∧ (¬ (nI 0) ≤ ((I 49 (((nI 51) + x0)).toNatClampNeg) - (I 49 (((nI 51) + x1)).toNatClampNeg)) → _)
    refine ⟨fun c1 => ?_, fun c1 => ?_⟩
    · exact ((h.2.2.2.2.1 c0).1 c1)
    · exact ((h.2.2.2.2.1 c0).2 c1)
  · show mm_b _ _ _ _ _ [some (.ref 46), some (.int x0), some (.int x1), some (.int ((I 49 (((nI 46) + x0)).toNatClampNeg) - (I 49 (((nI 46) + x1)).toNatClampNeg))), some (.int ((I 49 (((nI 51) + x0)).toNatClampNeg) - (I 49 (((nI 51) + x1)).toNatClampNeg)))] [] ((fl, n1, n2, p, q, ad), I, J)
    show ((nI 0) ≤ ((I 49 (((nI 51) + x0)).toNatClampNeg) - (I 49 (((nI 51) + x1)).toNatClampNeg)) → _) ∧ (¬ (nI 0) ≤ ((I 49 (((nI 51) + x0)).toNatClampNeg) - (I 49 (((nI 51) + x1)).toNatClampNeg)) → _)
    refine ⟨fun c1 => ?_, fun c1 => ?_⟩
    · exact ((h.2.2.2.2.2 c0).1 c1)
    · exact ((h.2.2.2.2.2 c0).2 c1)
/- 250 ThreeBreathsModel walk -/
theorem fx_250 {d : Nat} {x0 : Int32} {x1 : Int32} {fl : Nat → Bool} {n1 n2 : Nat} {p q : Bool} {ad : Nat → Nat} {I : mmI} {J : mmJ} {Q : mmQ} (h : mm_wc d 166 [.ref 46] ((fl, 0, 0, p, q, ad), I, J) (fun v τ => ∃ I1 J1, v = none ∧ τ = ((fl, 0, 0, p, q, ad), I1, J1) ∧ mm_wc d 203 [.ref 46, .int x0] ((fl, 0, 0, p, q, ad), I1, J1) (fun v τ => ∃ r2 I2 J2, v = some (.int r2) ∧ τ = ((fl, 0, 0, p, q, ad), I2, J2) ∧ ((r2 = (nI 0) → mm_wc d 167 [.ref 46, .int (nI 1)] ((fl, 0, 0, p, q, ad), I2, J2) (fun v τ => ∃ r3 I3 J3, v = some (.int r3) ∧ τ = ((fl, 0, 0, p, q, ad), I3, J3) ∧ Q (some (.int r3)) ((fl, n1, n2, p, q, ad), I3, J3))) ∧ (¬ r2 = (nI 0) → mm_wc d 202 [.ref 46, .int x1] ((fl, 0, 0, p, q, ad), I2, J2) (fun v τ => ∃ r4 I4 J4, v = some (.int r4) ∧ τ = ((fl, 0, 0, p, q, ad), I4, J4) ∧ ((¬ r4 = (nI 0) → mm_wc d 234 [.ref 46, .int x0, .int (-1), .int (-1), .int (-1), .int (nI 1)] ((fl, 0, 0, p, q, ad), I4, J4) (fun v τ => ∃ I5 J5, v = none ∧ τ = ((fl, 0, 0, p, q, ad), I5, J5) ∧ mm_wc d 240 [.ref 46] ((fl, 0, 0, p, q, ad), I5, J5) (fun v τ => ∃ r6 I6 J6, v = some (.int r6) ∧ τ = ((fl, 0, 0, p, q, ad), I6, J6) ∧ ((r6 = (-2) → Q (some (.int r6)) ((fl, n1, n2, p, q, ad), I6, J6)) ∧ (¬ r6 = (-2) → ((¬ r6 = (nI 0) → mm_w Q (mm_wc d) bk_250 55 [some (.ref 46), none, some (.int x1), some (.int r6), some (.int (nI 0)), none, none, none, none, none, none, none, none] [] ((fl, n1, n2, p, q, ad), I6, J6)) ∧ (r6 = (nI 0) → Q (some (.int r6)) ((fl, n1, n2, p, q, ad), I6, J6)))))))) ∧ (r4 = (nI 0) → mm_wc d 167 [.ref 46, .int (nI 1)] ((fl, 0, 0, p, q, ad), I4, J4) (fun v τ => ∃ r7 I7 J7, v = some (.int r7) ∧ τ = ((fl, 0, 0, p, q, ad), I7, J7) ∧ Q (some (.int r7)) ((fl, n1, n2, p, q, ad), I7, J7)))))))))) : mm_wc (d + 1) 250 [.ref 46, .int x0, .int x1] ((fl, n1, n2, p, q, ad), I, J) Q := by
  refine mm_call (c := 250) rfl rfl ?_
  refine mm_go [55, 96, 117, 196] 80 ?_
  show mm_wc d 166 [.ref 46] ((fl, 0, 0, p, q, ad), I, J) _
  refine mm_wcm h ?_
  rintro v τ ⟨I1, J1, rfl, rfl, h1⟩
  refine mm_r0' ⟨rfl, ?_⟩
  show mm_b _ _ _ _ _ [some (.ref 46), some (.int x0), some (.int x1), none, none, none, none, none, none, none, none, none, none] [] ((fl, n1, n2, p, q, ad), I1, J1)
  show mm_wc d 203 [.ref 46, .int x0] ((fl, 0, 0, p, q, ad), I1, J1) _
  refine mm_wcm h1 ?_
  rintro v τ ⟨r2, I2, J2, rfl, rfl, h2⟩
  refine mm_r1' ⟨rfl, ?_⟩
  show mm_b _ _ _ _ _ [some (.ref 46), some (.int x0), some (.int x1), none, none, none, none, none, none, none, none, none, none] [.int r2] ((fl, n1, n2, p, q, ad), I2, J2)
  show (r2 = (nI 0) → _) ∧ (¬ r2 = (nI 0) → _)
  refine ⟨fun c0 => ?_, fun c0 => ?_⟩
  · show mm_u _ _ _ _ _ _ [some (.ref 46), some (.int x0), some (.int x1), none, none, none, none, none, none, none, none, none, none] [] ((fl, n1, n2, p, q, ad), I2, J2)
    show mm_wc d 167 [.ref 46, .int (nI 1)] ((fl, 0, 0, p, q, ad), I2, J2) _
    refine mm_wcm (h2.1 c0) ?_
    rintro v τ ⟨r3, I3, J3, rfl, rfl, h3⟩
    refine mm_r1' ⟨rfl, ?_⟩
    exact h3
  · show mm_b _ _ _ _ _ [some (.ref 46), some (.int x0), some (.int x1), none, none, none, none, none, none, none, none, none, none] [] ((fl, n1, n2, p, q, ad), I2, J2)
    show mm_wc d 202 [.ref 46, .int x1] ((fl, 0, 0, p, q, ad), I2, J2) _
    refine mm_wcm (h2.2 c0) ?_
    rintro v τ ⟨r4, I4, J4, rfl, rfl, h4⟩
    refine mm_r1' ⟨rfl, ?_⟩
    show mm_b _ _ _ _ _ [some (.ref 46), some (.int x0), some (.int x1), none, none, none, none, none, none, none, none, none, none] [.int r4] ((fl, n1, n2, p, q, ad), I4, J4)
    show (¬ r4 = (nI 0) → _) ∧ (r4 = (nI 0) → _)
    refine ⟨fun c1 => ?_, fun c1 => ?_⟩
    · show mm_u _ _ _ _ _ _ [some (.ref 46), some (.int x0), some (.int x1), none, none, none, none, none, none, none, none, none, none] [] ((fl, n1, n2, p, q, ad), I4, J4)
      show mm_wc d 234 [.ref 46, .int x0, .int (-1), .int (-1), .int (-1), .int (nI 1)] ((fl, 0, 0, p, q, ad), I4, J4) _
      refine mm_wcm (h4.1 c1) ?_
      rintro v τ ⟨I5, J5, rfl, rfl, h5⟩
      refine mm_r0' ⟨rfl, ?_⟩
      show mm_b _ _ _ _ _ [some (.ref 46), some (.int x0), some (.int x1), none, none, none, none, none, none, none, none, none, none] [] ((fl, n1, n2, p, q, ad), I5, J5)
      show mm_wc d 240 [.ref 46] ((fl, 0, 0, p, q, ad), I5, J5) _
      refine mm_wcm h5 ?_
      rintro v τ ⟨r6, I6, J6, rfl, rfl, h6⟩
      refine mm_r1' ⟨rfl, ?_⟩
      show mm_b _ _ _ _ _ [some (.ref 46), some (.int x0), some (.int x1), none, none, none, none, none, none, none, none, none, none] [.int r6] ((fl, n1, n2, p, q, ad), I6, J6)
      show (r6 = (-2) → _) ∧ (¬ r6 = (-2) → _)
      refine ⟨fun c2 => ?_, fun c2 => ?_⟩
      · exact (h6.1 c2)
      · show mm_b _ _ _ _ _ [some (.ref 46), some (.int x0), some (.int x1), some (.int r6), none, none, none, none, none, none, none, none, none] [] ((fl, n1, n2, p, q, ad), I6, J6)
        show (¬ r6 = (nI 0) → _) ∧ (r6 = (nI 0) → _)
        refine ⟨fun c3 => ?_, fun c3 => ?_⟩
        · exact ((h6.2 c2).1 c3)
        · exact ((h6.2 c2).2 c3)
    · show mm_b _ _ _ _ _ [some (.ref 46), some (.int x0), some (.int x1), none, none, none, none, none, none, none, none, none, none] [] ((fl, n1, n2, p, q, ad), I4, J4)
      show mm_wc d 167 [.ref 46, .int (nI 1)] ((fl, 0, 0, p, q, ad), I4, J4) _
      refine mm_wcm (h4.2 c1) ?_
      rintro v τ ⟨r7, I7, J7, rfl, rfl, h7⟩
      refine mm_r1' ⟨rfl, ?_⟩
      exact h7
theorem fx_250_55 {d : Nat} {a2 : Int32} {a3 : Int32} {a4 : Int32} {fl : Nat → Bool} {n1 n2 : Nat} {p q : Bool} {ad : Nat → Nat} {I : mmI} {J : mmJ} {Q : mmQ} (h : (((nI 81920) ≤ a4 → (vp_in (((nI 5) * (I 46 34)) + a2) 81920 ∧ mm_w Q (mm_wc d) bk_250 96 [some (.ref 46), none, none, some (.int a3), some (.int (-1)), some (.int (nI 0)), none, none, none, none, none, none, none] [] ((fl, n1, n2, p, q, ad), (mm_up I 61 ((((nI 5) * (I 46 34)) + a2)).toNatClampNeg (nI 0)), J))) ∧ (¬ (nI 81920) ≤ a4 → (vp_in a4 81920 ∧ mm_w Q (mm_wc d) bk_250 55 [some (.ref 46), none, some (.int a2), some (.int a3), some (.int (a4 + (nI 1))), none, none, none, none, none, none, none, none] [] ((fl, n1, n2, p, q, ad), (mm_up I 61 a4.toNatClampNeg (-1)), J))))) : mm_w Q (mm_wc (d)) bk_250 55 [some (.ref 46), none, some (.int a2), some (.int a3), some (.int a4), none, none, none, none, none, none, none, none] [] ((fl, n1, n2, p, q, ad), I, J) := by
  refine mm_go [55, 96, 117, 196] 80 ?_
  show ((nI 81920) ≤ a4 → _) ∧ (¬ (nI 81920) ≤ a4 → _)
  refine ⟨fun c0 => ?_, fun c0 => ?_⟩
  · show mm_u _ _ _ _ _ _ [some (.ref 46), none, some (.int a2), some (.int a3), some (.int a4), none, none, none, none, none, none, none, none] [] ((fl, n1, n2, p, q, ad), I, J)
    show vp_in (((nI 5) * (I 46 34)) + a2) 81920 ∧ _
    refine ⟨(h.1 c0).1, ?_⟩
    exact (h.1 c0).2
  · show mm_b _ _ _ _ _ [some (.ref 46), none, some (.int a2), some (.int a3), some (.int a4), none, none, none, none, none, none, none, none] [] ((fl, n1, n2, p, q, ad), I, J)
    show vp_in a4 81920 ∧ _
    refine ⟨(h.2 c0).1, ?_⟩
    exact (h.2 c0).2
theorem fx_250_96 {d : Nat} {a3 : Int32} {a4 : Int32} {a5 : Int32} {fl : Nat → Bool} {n1 n2 : Nat} {p q : Bool} {ad : Nat → Nat} {I : mmI} {J : mmJ} {Q : mmQ} (h : (((I 46 33) ≤ a5 → Q (some (.int a4)) ((fl, n1, n2, p, q, ad), I, J)) ∧ (¬ (I 46 33) ≤ a5 → (vp_in a5 16384 ∧ mm_w Q (mm_wc d) bk_250 117 [some (.ref 46), none, none, some (.int a3), some (.int a4), some (.int a5), some (.int (I 59 a5.toNatClampNeg)), some (.int (nI 0)), none, none, none, none, none] [] ((fl, n1, n2, p, q, ad), I, J))))) : mm_w Q (mm_wc (d)) bk_250 96 [some (.ref 46), none, none, some (.int a3), some (.int a4), some (.int a5), none, none, none, none, none, none, none] [] ((fl, n1, n2, p, q, ad), I, J) := by
  refine mm_go [55, 96, 117, 196] 80 ?_
  show ((I 46 33) ≤ a5 → _) ∧ (¬ (I 46 33) ≤ a5 → _)
  refine ⟨fun c0 => ?_, fun c0 => ?_⟩
  · exact (h.1 c0)
  · show mm_b _ _ _ _ _ [some (.ref 46), none, none, some (.int a3), some (.int a4), some (.int a5), none, none, none, none, none, none, none] [] ((fl, n1, n2, p, q, ad), I, J)
    show vp_in a5 16384 ∧ _
    refine ⟨(h.2 c0).1, ?_⟩
    exact (h.2 c0).2
theorem fx_250_117 {d : Nat} {a3 : Int32} {a4 : Int32} {a5 : Int32} {a6 : Int32} {a7 : Int32} {fl : Nat → Bool} {n1 n2 : Nat} {p q : Bool} {ad : Nat → Nat} {I : mmI} {J : mmJ} {Q : mmQ} (h : (((I 49 4) ≤ a7 → mm_w Q (mm_wc d) bk_250 96 [some (.ref 46), none, none, some (.int a3), some (.int a4), some (.int (a5 + (nI 1))), none, none, none, none, none, none, none] [] ((fl, n1, n2, p, q, ad), I, J)) ∧ (¬ (I 49 4) ≤ a7 → (vp_in (((nI 5) * a6) + a7) 81920 ∧ (((nI 0) ≤ (I 61 ((((nI 5) * a6) + a7)).toNatClampNeg) → mm_wc d 237 [.int a6] ((fl, 0, 0, p, q, ad), I, J) (fun v τ => ∃ r1 I1 J1, v = some (.int r1) ∧ τ = ((fl, 0, 0, p, q, ad), I1, J1) ∧ ((¬ r1 = (nI 0) → mm_w Q (mm_wc d) bk_250 196 [some (.ref 46), none, none, some (.int a3), some (.int a4), some (.int a5), some (.int a6), some (.int a7), some (.int (I 61 ((((nI 5) * a6) + a7)).toNatClampNeg)), some (.int (nI 0)), none, none, none] [] ((fl, n1, n2, p, q, ad), I1, J1)) ∧ (r1 = (nI 0) → (vp_in a6 16384 ∧ ((¬ (I1 58 a6.toNatClampNeg) = a3 → mm_w Q (mm_wc d) bk_250 196 [some (.ref 46), none, none, some (.int a3), some (.int a4), some (.int a5), some (.int a6), some (.int a7), some (.int (I 61 ((((nI 5) * a6) + a7)).toNatClampNeg)), some (.int (nI 0)), none, none, none] [] ((fl, n1, n2, p, q, ad), I1, J1)) ∧ ((I1 58 a6.toNatClampNeg) = a3 → ((a4 < (nI 0) → mm_w Q (mm_wc d) bk_250 117 [some (.ref 46), none, none, some (.int a3), some (.int (I 61 ((((nI 5) * a6) + a7)).toNatClampNeg)), some (.int a5), some (.int a6), some (.int (a7 + (nI 1))), none, none, none, none, none] [] ((fl, n1, n2, p, q, ad), I1, J1)) ∧ (¬ a4 < (nI 0) → ((a4 ≤ (I 61 ((((nI 5) * a6) + a7)).toNatClampNeg) → mm_w Q (mm_wc d) bk_250 117 [some (.ref 46), none, none, some (.int a3), some (.int a4), some (.int a5), some (.int a6), some (.int (a7 + (nI 1))), none, none, none, none, none] [] ((fl, n1, n2, p, q, ad), I1, J1)) ∧ (¬ a4 ≤ (I 61 ((((nI 5) * a6) + a7)).toNatClampNeg) → mm_w Q (mm_wc d) bk_250 117 [some (.ref 46), none, none, some (.int a3), some (.int (I 61 ((((nI 5) * a6) + a7)).toNatClampNeg)), some (.int a5), some (.int a6), some (.int (a7 + (nI 1))), none, none, none, none, none] [] ((fl, n1, n2, p, q, ad), I1, J1)))))))))))) ∧ (¬ (nI 0) ≤ (I 61 ((((nI 5) * a6) + a7)).toNatClampNeg) → mm_w Q (mm_wc d) bk_250 117 [some (.ref 46), none, none, some (.int a3), some (.int a4), some (.int a5), some (.int a6), some (.int (a7 + (nI 1))), none, none, none, none, none] [] ((fl, n1, n2, p, q, ad), I, J))))))) : mm_w Q (mm_wc (d)) bk_250 117 [some (.ref 46), none, none, some (.int a3), some (.int a4), some (.int a5), some (.int a6), some (.int a7), none, none, none, none, none] [] ((fl, n1, n2, p, q, ad), I, J) := by
  refine mm_go [55, 96, 117, 196] 80 ?_
  show (vp_in (nI 4) 279) ∧ _
  refine ⟨(mm_inl (by decide)), ?_⟩
  show mm_b _ _ _ _ _ [some (.ref 46), none, none, some (.int a3), some (.int a4), some (.int a5), some (.int a6), some (.int a7), none, none, none, none, none] [.int (I 49 4), .int a7] ((fl, n1, n2, p, q, ad), I, J)
  show ((I 49 4) ≤ a7 → _) ∧ (¬ (I 49 4) ≤ a7 → _)
  refine ⟨fun c0 => ?_, fun c0 => ?_⟩
  · exact (h.1 c0)
  · show mm_b _ _ _ _ _ [some (.ref 46), none, none, some (.int a3), some (.int a4), some (.int a5), some (.int a6), some (.int a7), none, none, none, none, none] [] ((fl, n1, n2, p, q, ad), I, J)
    show vp_in (((nI 5) * a6) + a7) 81920 ∧ _
    refine ⟨(h.2 c0).1, ?_⟩
    show mm_b _ _ _ _ _ [some (.ref 46), none, none, some (.int a3), some (.int a4), some (.int a5), some (.int a6), some (.int a7), none, none, none, none, none] [.int (I 61 ((((nI 5) * a6) + a7)).toNatClampNeg)] ((fl, n1, n2, p, q, ad), I, J)
    show ((nI 0) ≤ (I 61 ((((nI 5) * a6) + a7)).toNatClampNeg) → _) ∧ (¬ (nI 0) ≤ (I 61 ((((nI 5) * a6) + a7)).toNatClampNeg) → _)
    refine ⟨fun c1 => ?_, fun c1 => ?_⟩
    · show mm_u _ _ _ _ _ _ [some (.ref 46), none, none, some (.int a3), some (.int a4), some (.int a5), some (.int a6), some (.int a7), some (.int (I 61 ((((nI 5) * a6) + a7)).toNatClampNeg)), none, none, none, none] [] ((fl, n1, n2, p, q, ad), I, J)
      show mm_wc d 237 [.int a6] ((fl, 0, 0, p, q, ad), I, J) _
      refine mm_wcm ((h.2 c0).2.1 c1) ?_
      rintro v τ ⟨r1, I1, J1, rfl, rfl, h1⟩
      refine mm_r1' ⟨rfl, ?_⟩
      show mm_b _ _ _ _ _ [some (.ref 46), none, none, some (.int a3), some (.int a4), some (.int a5), some (.int a6), some (.int a7), some (.int (I 61 ((((nI 5) * a6) + a7)).toNatClampNeg)), none, none, none, none] [.int r1] ((fl, n1, n2, p, q, ad), I1, J1)
      show (¬ r1 = (nI 0) → _) ∧ (r1 = (nI 0) → _)
      refine ⟨fun c2 => ?_, fun c2 => ?_⟩
      · exact (h1.1 c2)
      · show mm_b _ _ _ _ _ [some (.ref 46), none, none, some (.int a3), some (.int a4), some (.int a5), some (.int a6), some (.int a7), some (.int (I 61 ((((nI 5) * a6) + a7)).toNatClampNeg)), none, none, none, none] [] ((fl, n1, n2, p, q, ad), I1, J1)
        show vp_in a6 16384 ∧ _
        refine ⟨(h1.2 c2).1, ?_⟩
        show mm_b _ _ _ _ _ [some (.ref 46), none, none, some (.int a3), some (.int a4), some (.int a5), some (.int a6), some (.int a7), some (.int (I 61 ((((nI 5) * a6) + a7)).toNatClampNeg)), none, none, none, none] [.int (I1 58 a6.toNatClampNeg)] ((fl, n1, n2, p, q, ad), I1, J1)
        show (¬ (I1 58 a6.toNatClampNeg) = a3 → _) ∧ ((I1 58 a6.toNatClampNeg) = a3 → _)
        refine ⟨fun c3 => ?_, fun c3 => ?_⟩
        · exact ((h1.2 c2).2.1 c3)
        · show mm_b _ _ _ _ _ [some (.ref 46), none, none, some (.int a3), some (.int a4), some (.int a5), some (.int a6), some (.int a7), some (.int (I 61 ((((nI 5) * a6) + a7)).toNatClampNeg)), none, none, none, none] [] ((fl, n1, n2, p, q, ad), I1, J1)
          show (a4 < (nI 0) → _) ∧ (¬ a4 < (nI 0) → _)
          refine ⟨fun c4 => ?_, fun c4 => ?_⟩
          · exact (((h1.2 c2).2.2 c3).1 c4)
          · show mm_b _ _ _ _ _ [some (.ref 46), none, none, some (.int a3), some (.int a4), some (.int a5), some (.int a6), some (.int a7), some (.int (I 61 ((((nI 5) * a6) + a7)).toNatClampNeg)), none, none, none, none] [] ((fl, n1, n2, p, q, ad), I1, J1)
            show (a4 ≤ (I 61 ((((nI 5) * a6) + a7)).toNatClampNeg) → _) ∧ (¬ a4 ≤ (I 61 ((((nI 5) * a6) + a7)).toNatClampNeg) → _)
            refine ⟨fun c5 => ?_, fun c5 => ?_⟩
            · exact ((((h1.2 c2).2.2 c3).2 c4).1 c5)
            · exact ((((h1.2 c2).2.2 c3).2 c4).2 c5)
    · exact ((h.2 c0).2.2 c1)
theorem fx_250_196 {d : Nat} {a3 : Int32} {a4 : Int32} {a5 : Int32} {a6 : Int32} {a7 : Int32} {a8 : Int32} {a9 : Int32} {fl : Nat → Bool} {n1 n2 : Nat} {p q : Bool} {ad : Nat → Nat} {I : mmI} {J : mmJ} {Q : mmQ} (h : (((I 46 32) ≤ a9 → mm_w Q (mm_wc d) bk_250 117 [some (.ref 46), none, none, some (.int a3), some (.int a4), some (.int a5), some (.int a6), some (.int (a7 + (nI 1))), none, none, none, none, none] [] ((fl, n1, n2, p, q, ad), I, J)) ∧ (¬ (I 46 32) ≤ a9 → (vp_in a6 16384 ∧ ((a3 ≤ (I 58 a6.toNatClampNeg) → mm_w Q (mm_wc d) bk_250 117 [some (.ref 46), none, none, some (.int a3), some (.int a4), some (.int a5), some (.int a6), some (.int (a7 + (nI 1))), none, none, none, none, none] [] ((fl, n1, n2, p, q, ad), I, J)) ∧ (¬ a3 ≤ (I 58 a6.toNatClampNeg) → (vp_in a9 320 ∧ mm_wc d 238 [.ref 46, .int a6, .int (I 57 a9.toNatClampNeg)] ((fl, 0, 0, p, q, ad), I, J) (fun v τ => ∃ r1 I1 J1, v = some (.int r1) ∧ τ = ((fl, 0, 0, p, q, ad), I1, J1) ∧ (vp_in a9 320 ∧ mm_wc d 208 [.ref 46, .int (I1 57 a9.toNatClampNeg)] ((fl, 0, 0, p, q, ad), I1, J1) (fun v τ => ∃ r2 I2 J2, v = some (.int r2) ∧ τ = ((fl, 0, 0, p, q, ad), I2, J2) ∧ (vp_in a9 320 ∧ mm_wc d 208 [.ref 46, .int (I2 57 a9.toNatClampNeg)] ((fl, 0, 0, p, q, ad), I2, J2) (fun v τ => ∃ r3 I3 J3, v = some (.int r3) ∧ τ = ((fl, 0, 0, p, q, ad), I3, J3) ∧ mm_wc d 249 [.ref 46, .int a7, .int r3] ((fl, 0, 0, p, q, ad), I3, J3) (fun v τ => ∃ r4 I4 J4, v = some (.int r4) ∧ τ = ((fl, 0, 0, p, q, ad), I4, J4) ∧ (vp_in r1 16384 ∧ (vp_in a6 16384 ∧ ((¬ (I4 58 r1.toNatClampNeg) = ((I4 58 a6.toNatClampNeg) + (nI 1)) → mm_w Q (mm_wc d) bk_250 196 [some (.ref 46), none, none, some (.int a3), some (.int a4), some (.int a5), some (.int a6), some (.int a7), some (.int a8), some (.int (a9 + (nI 1))), none, none, none] [] ((fl, n1, n2, p, q, ad), I4, J4)) ∧ ((I4 58 r1.toNatClampNeg) = ((I4 58 a6.toNatClampNeg) + (nI 1)) → (vp_in (((nI 5) * r1) + r2) 81920 ∧ (((I4 61 ((((nI 5) * r1) + r2)).toNatClampNeg) < (nI 0) → (vp_in (((nI 5) * r1) + r2) 81920 ∧ mm_w Q (mm_wc d) bk_250 196 [some (.ref 46), none, none, some (.int a3), some (.int a4), some (.int a5), some (.int a6), some (.int a7), some (.int a8), some (.int (a9 + (nI 1))), none, none, none] [] ((fl, n1, n2, p, q, ad), (mm_up I4 61 ((((nI 5) * r1) + r2)).toNatClampNeg (a8 + r4)), J4))) ∧ (¬ (I4 61 ((((nI 5) * r1) + r2)).toNatClampNeg) < (nI 0) → (vp_in (((nI 5) * r1) + r2) 81920 ∧ (((I4 61 ((((nI 5) * r1) + r2)).toNatClampNeg) ≤ (a8 + r4) → mm_w Q (mm_wc d) bk_250 196 [some (.ref 46), none, none, some (.int a3), some (.int a4), some (.int a5), some (.int a6), some (.int a7), some (.int a8), some (.int (a9 + (nI 1))), none, none, none] [] ((fl, n1, n2, p, q, ad), I4, J4)) ∧ (¬ (I4 61 ((((nI 5) * r1) + r2)).toNatClampNeg) ≤ (a8 + r4) → (vp_in (((nI 5) * r1) + r2) 81920 ∧ mm_w Q (mm_wc d) bk_250 196 [some (.ref 46), none, none, some (.int a3), some (.int a4), some (.int a5), some (.int a6), some (.int a7), some (.int a8), some (.int (a9 + (nI 1))), none, none, none] [] ((fl, n1, n2, p, q, ad), (mm_up I4 61 ((((nI 5) * r1) + r2)).toNatClampNeg (a8 + r4)), J4))))))))))))))))))))))))) : mm_w Q (mm_wc (d)) bk_250 196 [some (.ref 46), none, none, some (.int a3), some (.int a4), some (.int a5), some (.int a6), some (.int a7), some (.int a8), some (.int a9), none, none, none] [] ((fl, n1, n2, p, q, ad), I, J) := by
  refine mm_go [55, 96, 117, 196] 80 ?_
  show ((I 46 32) ≤ a9 → _) ∧ (¬ (I 46 32) ≤ a9 → _)
  refine ⟨fun c0 => ?_, fun c0 => ?_⟩
  · exact (h.1 c0)
  · show mm_b _ _ _ _ _ [some (.ref 46), none, none, some (.int a3), some (.int a4), some (.int a5), some (.int a6), some (.int a7), some (.int a8), some (.int a9), none, none, none] [] ((fl, n1, n2, p, q, ad), I, J)
    show vp_in a6 16384 ∧ _
    refine ⟨(h.2 c0).1, ?_⟩
    show mm_b _ _ _ _ _ [some (.ref 46), none, none, some (.int a3), some (.int a4), some (.int a5), some (.int a6), some (.int a7), some (.int a8), some (.int a9), none, none, none] [.int (I 58 a6.toNatClampNeg)] ((fl, n1, n2, p, q, ad), I, J)
    show (a3 ≤ (I 58 a6.toNatClampNeg) → _) ∧ (¬ a3 ≤ (I 58 a6.toNatClampNeg) → _)
    refine ⟨fun c1 => ?_, fun c1 => ?_⟩
    · exact ((h.2 c0).2.1 c1)
    · show mm_b _ _ _ _ _ [some (.ref 46), none, none, some (.int a3), some (.int a4), some (.int a5), some (.int a6), some (.int a7), some (.int a8), some (.int a9), none, none, none] [] ((fl, n1, n2, p, q, ad), I, J)
      show vp_in a9 320 ∧ _
      refine ⟨((h.2 c0).2.2 c1).1, ?_⟩
      show mm_b _ _ _ _ _ [some (.ref 46), none, none, some (.int a3), some (.int a4), some (.int a5), some (.int a6), some (.int a7), some (.int a8), some (.int a9), none, none, none] [.int (I 57 a9.toNatClampNeg), .int a6, .ref 46] ((fl, n1, n2, p, q, ad), I, J)
      show mm_wc d 238 [.ref 46, .int a6, .int (I 57 a9.toNatClampNeg)] ((fl, 0, 0, p, q, ad), I, J) _
      refine mm_wcm (((h.2 c0).2.2 c1).2) ?_
      rintro v τ ⟨r1, I1, J1, rfl, rfl, h1⟩
      refine mm_r1' ⟨rfl, ?_⟩
      show mm_b _ _ _ _ _ [some (.ref 46), none, none, some (.int a3), some (.int a4), some (.int a5), some (.int a6), some (.int a7), some (.int a8), some (.int a9), none, none, none] [.int r1] ((fl, n1, n2, p, q, ad), I1, J1)
      show vp_in a9 320 ∧ _
      refine ⟨h1.1, ?_⟩
      show mm_b _ _ _ _ _ [some (.ref 46), none, none, some (.int a3), some (.int a4), some (.int a5), some (.int a6), some (.int a7), some (.int a8), some (.int a9), some (.int r1), none, none] [.int (I1 57 a9.toNatClampNeg), .ref 46, .int ((nI 5) * r1)] ((fl, n1, n2, p, q, ad), I1, J1)
      show mm_wc d 208 [.ref 46, .int (I1 57 a9.toNatClampNeg)] ((fl, 0, 0, p, q, ad), I1, J1) _
      refine mm_wcm (h1.2) ?_
      rintro v τ ⟨r2, I2, J2, rfl, rfl, h2⟩
      refine mm_r1' ⟨rfl, ?_⟩
      show mm_b _ _ _ _ _ [some (.ref 46), none, none, some (.int a3), some (.int a4), some (.int a5), some (.int a6), some (.int a7), some (.int a8), some (.int a9), some (.int r1), none, none] [.int r2, .int ((nI 5) * r1)] ((fl, n1, n2, p, q, ad), I2, J2)
      show vp_in a9 320 ∧ _
      refine ⟨h2.1, ?_⟩
      show mm_b _ _ _ _ _ [some (.ref 46), none, none, some (.int a3), some (.int a4), some (.int a5), some (.int a6), some (.int a7), some (.int a8), some (.int a9), some (.int r1), some (.int (((nI 5) * r1) + r2)), none] [.int (I2 57 a9.toNatClampNeg), .ref 46, .int a7, .ref 46, .int a8] ((fl, n1, n2, p, q, ad), I2, J2)
      show mm_wc d 208 [.ref 46, .int (I2 57 a9.toNatClampNeg)] ((fl, 0, 0, p, q, ad), I2, J2) _
      refine mm_wcm (h2.2) ?_
      rintro v τ ⟨r3, I3, J3, rfl, rfl, h3⟩
      refine mm_r1' ⟨rfl, ?_⟩
      show mm_b _ _ _ _ _ [some (.ref 46), none, none, some (.int a3), some (.int a4), some (.int a5), some (.int a6), some (.int a7), some (.int a8), some (.int a9), some (.int r1), some (.int (((nI 5) * r1) + r2)), none] [.int r3, .int a7, .ref 46, .int a8] ((fl, n1, n2, p, q, ad), I3, J3)
      show mm_wc d 249 [.ref 46, .int a7, .int r3] ((fl, 0, 0, p, q, ad), I3, J3) _
      refine mm_wcm h3 ?_
      rintro v τ ⟨r4, I4, J4, rfl, rfl, h4⟩
      refine mm_r1' ⟨rfl, ?_⟩
      show mm_b _ _ _ _ _ [some (.ref 46), none, none, some (.int a3), some (.int a4), some (.int a5), some (.int a6), some (.int a7), some (.int a8), some (.int a9), some (.int r1), some (.int (((nI 5) * r1) + r2)), none] [.int r4, .int a8] ((fl, n1, n2, p, q, ad), I4, J4)
      show vp_in r1 16384 ∧ _
      refine ⟨h4.1, ?_⟩
      show mm_b _ _ _ _ _ [some (.ref 46), none, none, some (.int a3), some (.int a4), some (.int a5), some (.int a6), some (.int a7), some (.int a8), some (.int a9), some (.int r1), some (.int (((nI 5) * r1) + r2)), some (.int (a8 + r4))] [.int (I4 58 r1.toNatClampNeg)] ((fl, n1, n2, p, q, ad), I4, J4)
      show vp_in a6 16384 ∧ _
      refine ⟨h4.2.1, ?_⟩
      show mm_b _ _ _ _ _ [some (.ref 46), none, none, some (.int a3), some (.int a4), some (.int a5), some (.int a6), some (.int a7), some (.int a8), some (.int a9), some (.int r1), some (.int (((nI 5) * r1) + r2)), some (.int (a8 + r4))] [.int (I4 58 a6.toNatClampNeg), .int (I4 58 r1.toNatClampNeg)] ((fl, n1, n2, p, q, ad), I4, J4)
      show (¬ (I4 58 r1.toNatClampNeg) = ((I4 58 a6.toNatClampNeg) + (nI 1)) → _) ∧ ((I4 58 r1.toNatClampNeg) = ((I4 58 a6.toNatClampNeg) + (nI 1)) → _)
      refine ⟨fun c2 => ?_, fun c2 => ?_⟩
      · exact (h4.2.2.1 c2)
      · show mm_b _ _ _ _ _ [some (.ref 46), none, none, some (.int a3), some (.int a4), some (.int a5), some (.int a6), some (.int a7), some (.int a8), some (.int a9), some (.int r1), some (.int (((nI 5) * r1) + r2)), some (.int (a8 + r4))] [] ((fl, n1, n2, p, q, ad), I4, J4)
        show vp_in (((nI 5) * r1) + r2) 81920 ∧ _
        refine ⟨(h4.2.2.2 c2).1, ?_⟩
        show mm_b _ _ _ _ _ [some (.ref 46), none, none, some (.int a3), some (.int a4), some (.int a5), some (.int a6), some (.int a7), some (.int a8), some (.int a9), some (.int r1), some (.int (((nI 5) * r1) + r2)), some (.int (a8 + r4))] [.int (I4 61 ((((nI 5) * r1) + r2)).toNatClampNeg)] ((fl, n1, n2, p, q, ad), I4, J4)
        show ((I4 61 ((((nI 5) * r1) + r2)).toNatClampNeg) < (nI 0) → _) ∧ (¬ (I4 61 ((((nI 5) * r1) + r2)).toNatClampNeg) < (nI 0) → _)
        refine ⟨fun c3 => ?_, fun c3 => ?_⟩
        · show mm_u _ _ _ _ _ _ [some (.ref 46), none, none, some (.int a3), some (.int a4), some (.int a5), some (.int a6), some (.int a7), some (.int a8), some (.int a9), some (.int r1), some (.int (((nI 5) * r1) + r2)), some (.int (a8 + r4))] [] ((fl, n1, n2, p, q, ad), I4, J4)
          show vp_in (((nI 5) * r1) + r2) 81920 ∧ _
          refine ⟨((h4.2.2.2 c2).2.1 c3).1, ?_⟩
          exact ((h4.2.2.2 c2).2.1 c3).2
        · show mm_b _ _ _ _ _ [some (.ref 46), none, none, some (.int a3), some (.int a4), some (.int a5), some (.int a6), some (.int a7), some (.int a8), some (.int a9), some (.int r1), some (.int (((nI 5) * r1) + r2)), some (.int (a8 + r4))] [] ((fl, n1, n2, p, q, ad), I4, J4)
          show vp_in (((nI 5) * r1) + r2) 81920 ∧ _
          refine ⟨((h4.2.2.2 c2).2.2 c3).1, ?_⟩
          show mm_b _ _ _ _ _ [some (.ref 46), none, none, some (.int a3), some (.int a4), some (.int a5), some (.int a6), some (.int a7), some (.int a8), some (.int a9), some (.int r1), some (.int (((nI 5) * r1) + r2)), some (.int (a8 + r4))] [.int (I4 61 ((((nI 5) * r1) + r2)).toNatClampNeg), .int (a8 + r4)] ((fl, n1, n2, p, q, ad), I4, J4)
          show ((I4 61 ((((nI 5) * r1) + r2)).toNatClampNeg) ≤ (a8 + r4) → _) ∧ (¬ (I4 61 ((((nI 5) * r1) + r2)).toNatClampNeg) ≤ (a8 + r4) → _)
          refine ⟨fun c4 => ?_, fun c4 => ?_⟩
          · exact (((h4.2.2.2 c2).2.2 c3).2.1 c4)
          · show mm_b _ _ _ _ _ [some (.ref 46), none, none, some (.int a3), some (.int a4), some (.int a5), some (.int a6), some (.int a7), some (.int a8), some (.int a9), some (.int r1), some (.int (((nI 5) * r1) + r2)), some (.int (a8 + r4))] [] ((fl, n1, n2, p, q, ad), I4, J4)
            show vp_in (((nI 5) * r1) + r2) 81920 ∧ _
            refine ⟨(((h4.2.2.2 c2).2.2 c3).2.2 c4).1, ?_⟩
            exact (((h4.2.2.2 c2).2.2 c3).2.2 c4).2
/- 251 ThreeBreathsModel teamOf -/
theorem fx_251 {d : Nat} {fl : Nat → Bool} {n1 n2 : Nat} {p q : Bool} {ad : Nat → Nat} {I : mmI} {J : mmJ} {Q : mmQ} (h : mm_wc d 224 [.ref 46] ((fl, 0, 0, p, q, ad), I, J) (fun v τ => ∃ I1 J1, v = none ∧ τ = ((fl, 0, 0, p, q, ad), I1, J1) ∧ mm_w Q (mm_wc d) bk_251 19 [some (.ref 46), some (.int (-2)), some (.int ((nI 1) <<< ((I1 49 6) &&& 31))), some (.int (nI 0)), none, none, none] [] ((fl, n1, n2, p, q, ad), I1, J1))) : mm_wc (d + 1) 251 [.ref 46] ((fl, n1, n2, p, q, ad), I, J) Q := by
  refine mm_call (c := 251) rfl rfl ?_
  refine mm_go [19, 61, 69, 126, 164] 80 ?_
  show mm_wc d 224 [.ref 46] ((fl, 0, 0, p, q, ad), I, J) _
  refine mm_wcm h ?_
  rintro v τ ⟨I1, J1, rfl, rfl, h1⟩
  refine mm_r0' ⟨rfl, ?_⟩
  show mm_b _ _ _ _ _ [some (.ref 46), none, none, none, none, none, none] [] ((fl, n1, n2, p, q, ad), I1, J1)
  show (vp_in (nI 6) 279) ∧ _
  refine ⟨(mm_inl (by decide)), ?_⟩
  exact h1
theorem fx_251_19 {d : Nat} {a1 : Int32} {a2 : Int32} {a3 : Int32} {fl : Nat → Bool} {n1 n2 : Nat} {p q : Bool} {ad : Nat → Nat} {I : mmI} {J : mmJ} {Q : mmQ} (h : (((a2 * (nI 16384)) ≤ a3 → mm_wc d 235 [.ref 46, .int (I 46 17), .int (I 46 18)] ((fl, 0, 0, p, q, ad), I, J) (fun v τ => ∃ r1 I1 J1, v = some (.int r1) ∧ τ = ((fl, 0, 0, p, q, ad), I1, J1) ∧ (vp_in r1 262144 ∧ mm_w Q (mm_wc d) bk_251 61 [some (.ref 46), some (.int a1), some (.int a2), some (.int (nI 0)), none, none, none] [] ((fl, n1, n2, p, q, ad), (mm_up I1 62 r1.toNatClampNeg (nI 1)), J1)))) ∧ (¬ (a2 * (nI 16384)) ≤ a3 → (vp_in a3 262144 ∧ mm_w Q (mm_wc d) bk_251 19 [some (.ref 46), some (.int a1), some (.int a2), some (.int (a3 + (nI 1))), none, none, none] [] ((fl, n1, n2, p, q, ad), (mm_up I 62 a3.toNatClampNeg (nI 0)), J))))) : mm_w Q (mm_wc (d)) bk_251 19 [some (.ref 46), some (.int a1), some (.int a2), some (.int a3), none, none, none] [] ((fl, n1, n2, p, q, ad), I, J) := by
  refine mm_go [19, 61, 69, 126, 164] 80 ?_
  show ((a2 * (nI 16384)) ≤ a3 → _) ∧ (¬ (a2 * (nI 16384)) ≤ a3 → _)
  refine ⟨fun c0 => ?_, fun c0 => ?_⟩
  · show mm_u _ _ _ _ _ _ [some (.ref 46), some (.int a1), some (.int a2), some (.int a3), none, none, none] [] ((fl, n1, n2, p, q, ad), I, J)
    show mm_wc d 235 [.ref 46, .int (I 46 17), .int (I 46 18)] ((fl, 0, 0, p, q, ad), I, J) _
    refine mm_wcm (h.1 c0) ?_
    rintro v τ ⟨r1, I1, J1, rfl, rfl, h1⟩
    refine mm_r1' ⟨rfl, ?_⟩
    show mm_b _ _ _ _ _ [some (.ref 46), some (.int a1), some (.int a2), none, none, none, none] [.int r1, .ref 62] ((fl, n1, n2, p, q, ad), I1, J1)
    show (((nI 1) : Int32) = 0 ∨ ((nI 1) : Int32) = 1) ∧ _
    refine ⟨(by decide), ?_⟩
    show vp_in r1 262144 ∧ _
    refine ⟨h1.1, ?_⟩
    exact h1.2
  · show mm_b _ _ _ _ _ [some (.ref 46), some (.int a1), some (.int a2), some (.int a3), none, none, none] [] ((fl, n1, n2, p, q, ad), I, J)
    show (((nI 0) : Int32) = 0 ∨ ((nI 0) : Int32) = 1) ∧ _
    refine ⟨(by decide), ?_⟩
    show vp_in a3 262144 ∧ _
    refine ⟨(h.2 c0).1, ?_⟩
    exact (h.2 c0).2
theorem fx_251_61 {d : Nat} {a1 : Int32} {a2 : Int32} {a3 : Int32} {fl : Nat → Bool} {n1 n2 : Nat} {p q : Bool} {ad : Nat → Nat} {I : mmI} {J : mmJ} {Q : mmQ} (h : ((a2 ≤ a3 → Q (some (.int a1)) ((fl, n1, n2, p, q, ad), I, J)) ∧ (¬ a2 ≤ a3 → mm_w Q (mm_wc d) bk_251 69 [some (.ref 46), some (.int a1), some (.int a2), some (.int a3), some (.int (nI 0)), none, none] [] ((fl, n1, n2, p, q, ad), I, J)))) : mm_w Q (mm_wc (d)) bk_251 61 [some (.ref 46), some (.int a1), some (.int a2), some (.int a3), none, none, none] [] ((fl, n1, n2, p, q, ad), I, J) := by
  refine mm_go [19, 61, 69, 126, 164] 80 ?_
  show (a2 ≤ a3 → _) ∧ (¬ a2 ≤ a3 → _)
  refine ⟨fun c0 => ?_, fun c0 => ?_⟩
  · exact (h.1 c0)
  · exact (h.2 c0)
theorem fx_251_69 {d : Nat} {a1 : Int32} {a2 : Int32} {a3 : Int32} {a4 : Int32} {fl : Nat → Bool} {n1 n2 : Nat} {p q : Bool} {ad : Nat → Nat} {I : mmI} {J : mmJ} {Q : mmQ} (h : (((nI 16384) ≤ a4 → mm_w Q (mm_wc d) bk_251 61 [some (.ref 46), some (.int a1), some (.int a2), some (.int (a3 + (nI 1))), none, none, none] [] ((fl, n1, n2, p, q, ad), I, J)) ∧ (¬ (nI 16384) ≤ a4 → (vp_in (((nI 16384) * a3) + a4) 262144 ∧ ((¬ (I 62 ((((nI 16384) * a3) + a4)).toNatClampNeg) = (nI 0) → mm_wc d 237 [.int a4] ((fl, 0, 0, p, q, ad), I, J) (fun v τ => ∃ r1 I1 J1, v = some (.int r1) ∧ τ = ((fl, 0, 0, p, q, ad), I1, J1) ∧ ((¬ r1 = (nI 0) → mm_w Q (mm_wc d) bk_251 126 [some (.ref 46), some (.int a1), some (.int a2), some (.int a3), some (.int a4), some (.int (nI 0)), none] [] ((fl, n1, n2, p, q, ad), I1, J1)) ∧ (r1 = (nI 0) → ((a1 = (-2) → mm_w Q (mm_wc d) bk_251 126 [some (.ref 46), some (.int a3), some (.int a2), some (.int a3), some (.int a4), some (.int (nI 0)), none] [] ((fl, n1, n2, p, q, ad), I1, J1)) ∧ (¬ a1 = (-2) → mm_wc d 171 [.int a3] ((fl, 0, 0, p, q, ad), I1, J1) (fun v τ => ∃ r2 I2 J2, v = some (.int r2) ∧ τ = ((fl, 0, 0, p, q, ad), I2, J2) ∧ mm_wc d 171 [.int a1] ((fl, 0, 0, p, q, ad), I2, J2) (fun v τ => ∃ r3 I3 J3, v = some (.int r3) ∧ τ = ((fl, 0, 0, p, q, ad), I3, J3) ∧ ((r3 ≤ r2 → mm_w Q (mm_wc d) bk_251 126 [some (.ref 46), some (.int a1), some (.int a2), some (.int a3), some (.int a4), some (.int (nI 0)), none] [] ((fl, n1, n2, p, q, ad), I3, J3)) ∧ (¬ r3 ≤ r2 → mm_w Q (mm_wc d) bk_251 126 [some (.ref 46), some (.int a3), some (.int a2), some (.int a3), some (.int a4), some (.int (nI 0)), none] [] ((fl, n1, n2, p, q, ad), I3, J3))))))))))) ∧ ((I 62 ((((nI 16384) * a3) + a4)).toNatClampNeg) = (nI 0) → mm_w Q (mm_wc d) bk_251 69 [some (.ref 46), some (.int a1), some (.int a2), some (.int a3), some (.int (a4 + (nI 1))), none, none] [] ((fl, n1, n2, p, q, ad), I, J))))))) : mm_w Q (mm_wc (d)) bk_251 69 [some (.ref 46), some (.int a1), some (.int a2), some (.int a3), some (.int a4), none, none] [] ((fl, n1, n2, p, q, ad), I, J) := by
  refine mm_go [19, 61, 69, 126, 164] 80 ?_
  show ((nI 16384) ≤ a4 → _) ∧ (¬ (nI 16384) ≤ a4 → _)
  refine ⟨fun c0 => ?_, fun c0 => ?_⟩
  · exact (h.1 c0)
  · show mm_b _ _ _ _ _ [some (.ref 46), some (.int a1), some (.int a2), some (.int a3), some (.int a4), none, none] [] ((fl, n1, n2, p, q, ad), I, J)
    show vp_in (((nI 16384) * a3) + a4) 262144 ∧ _
    refine ⟨(h.2 c0).1, ?_⟩
    show mm_b _ _ _ _ _ [some (.ref 46), some (.int a1), some (.int a2), some (.int a3), some (.int a4), none, none] [.int (I 62 ((((nI 16384) * a3) + a4)).toNatClampNeg)] ((fl, n1, n2, p, q, ad), I, J)
    show (¬ (I 62 ((((nI 16384) * a3) + a4)).toNatClampNeg) = (nI 0) → _) ∧ ((I 62 ((((nI 16384) * a3) + a4)).toNatClampNeg) = (nI 0) → _)
    refine ⟨fun c1 => ?_, fun c1 => ?_⟩
    · show mm_u _ _ _ _ _ _ [some (.ref 46), some (.int a1), some (.int a2), some (.int a3), some (.int a4), none, none] [] ((fl, n1, n2, p, q, ad), I, J)
      show mm_wc d 237 [.int a4] ((fl, 0, 0, p, q, ad), I, J) _
      refine mm_wcm ((h.2 c0).2.1 c1) ?_
      rintro v τ ⟨r1, I1, J1, rfl, rfl, h1⟩
      refine mm_r1' ⟨rfl, ?_⟩
      show mm_b _ _ _ _ _ [some (.ref 46), some (.int a1), some (.int a2), some (.int a3), some (.int a4), none, none] [.int r1] ((fl, n1, n2, p, q, ad), I1, J1)
      show (¬ r1 = (nI 0) → _) ∧ (r1 = (nI 0) → _)
      refine ⟨fun c2 => ?_, fun c2 => ?_⟩
      · exact (h1.1 c2)
      · show mm_b _ _ _ _ _ [some (.ref 46), some (.int a1), some (.int a2), some (.int a3), some (.int a4), none, none] [] ((fl, n1, n2, p, q, ad), I1, J1)
        show (a1 = (-2) → _) ∧ (¬ a1 = (-2) → _)
        refine ⟨fun c3 => ?_, fun c3 => ?_⟩
        · exact ((h1.2 c2).1 c3)
        · show mm_b _ _ _ _ _ [some (.ref 46), some (.int a1), some (.int a2), some (.int a3), some (.int a4), none, none] [] ((fl, n1, n2, p, q, ad), I1, J1)
          show mm_wc d 171 [.int a3] ((fl, 0, 0, p, q, ad), I1, J1) _
          refine mm_wcm ((h1.2 c2).2 c3) ?_
          rintro v τ ⟨r2, I2, J2, rfl, rfl, h2⟩
          refine mm_r1' ⟨rfl, ?_⟩
          show mm_b _ _ _ _ _ [some (.ref 46), some (.int a1), some (.int a2), some (.int a3), some (.int a4), none, none] [.int r2] ((fl, n1, n2, p, q, ad), I2, J2)
          show mm_wc d 171 [.int a1] ((fl, 0, 0, p, q, ad), I2, J2) _
          refine mm_wcm h2 ?_
          rintro v τ ⟨r3, I3, J3, rfl, rfl, h3⟩
          refine mm_r1' ⟨rfl, ?_⟩
          show mm_b _ _ _ _ _ [some (.ref 46), some (.int a1), some (.int a2), some (.int a3), some (.int a4), none, none] [.int r3, .int r2] ((fl, n1, n2, p, q, ad), I3, J3)
          show (r3 ≤ r2 → _) ∧ (¬ r3 ≤ r2 → _)
          refine ⟨fun c4 => ?_, fun c4 => ?_⟩
          · exact (h3.1 c4)
          · exact (h3.2 c4)
    · exact ((h.2 c0).2.2 c1)
theorem fx_251_126 {d : Nat} {a1 : Int32} {a2 : Int32} {a3 : Int32} {a4 : Int32} {a5 : Int32} {fl : Nat → Bool} {n1 n2 : Nat} {p q : Bool} {ad : Nat → Nat} {I : mmI} {J : mmJ} {Q : mmQ} (h : (((I 49 6) ≤ a5 → mm_w Q (mm_wc d) bk_251 69 [some (.ref 46), some (.int a1), some (.int a2), some (.int a3), some (.int (a4 + (nI 1))), none, none] [] ((fl, n1, n2, p, q, ad), I, J)) ∧ (¬ (I 49 6) ≤ a5 → mm_wc d 170 [.int a3, .int a5] ((fl, 0, 0, p, q, ad), I, J) (fun v τ => ∃ r1 I1 J1, v = some (.int r1) ∧ τ = ((fl, 0, 0, p, q, ad), I1, J1) ∧ ((r1 = (nI 0) → mm_w Q (mm_wc d) bk_251 164 [some (.ref 46), some (.int a1), some (.int a2), some (.int a3), some (.int a4), some (.int a5), some (.int (((nI 16) * (I1 49 4)) * a5))] [] ((fl, n1, n2, p, q, ad), I1, J1)) ∧ (¬ r1 = (nI 0) → mm_w Q (mm_wc d) bk_251 126 [some (.ref 46), some (.int a1), some (.int a2), some (.int a3), some (.int a4), some (.int (a5 + (nI 1))), none] [] ((fl, n1, n2, p, q, ad), I1, J1))))))) : mm_w Q (mm_wc (d)) bk_251 126 [some (.ref 46), some (.int a1), some (.int a2), some (.int a3), some (.int a4), some (.int a5), none] [] ((fl, n1, n2, p, q, ad), I, J) := by
  refine mm_go [19, 61, 69, 126, 164] 80 ?_
  show (vp_in (nI 6) 279) ∧ _
  refine ⟨(mm_inl (by decide)), ?_⟩
  show mm_b _ _ _ _ _ [some (.ref 46), some (.int a1), some (.int a2), some (.int a3), some (.int a4), some (.int a5), none] [.int (I 49 6), .int a5] ((fl, n1, n2, p, q, ad), I, J)
  show ((I 49 6) ≤ a5 → _) ∧ (¬ (I 49 6) ≤ a5 → _)
  refine ⟨fun c0 => ?_, fun c0 => ?_⟩
  · exact (h.1 c0)
  · show mm_b _ _ _ _ _ [some (.ref 46), some (.int a1), some (.int a2), some (.int a3), some (.int a4), some (.int a5), none] [] ((fl, n1, n2, p, q, ad), I, J)
    show mm_wc d 170 [.int a3, .int a5] ((fl, 0, 0, p, q, ad), I, J) _
    refine mm_wcm (h.2 c0) ?_
    rintro v τ ⟨r1, I1, J1, rfl, rfl, h1⟩
    refine mm_r1' ⟨rfl, ?_⟩
    show mm_b _ _ _ _ _ [some (.ref 46), some (.int a1), some (.int a2), some (.int a3), some (.int a4), some (.int a5), none] [.int r1] ((fl, n1, n2, p, q, ad), I1, J1)
    show (r1 = (nI 0) → _) ∧ (¬ r1 = (nI 0) → _)
    refine ⟨fun c1 => ?_, fun c1 => ?_⟩
    · show mm_u _ _ _ _ _ _ [some (.ref 46), some (.int a1), some (.int a2), some (.int a3), some (.int a4), some (.int a5), none] [] ((fl, n1, n2, p, q, ad), I1, J1)
      show (vp_in (nI 4) 279) ∧ _
      refine ⟨(mm_inl (by decide)), ?_⟩
      exact (h1.1 c1)
    · exact (h1.2 c1)
theorem fx_251_164 {d : Nat} {a1 : Int32} {a2 : Int32} {a3 : Int32} {a4 : Int32} {a5 : Int32} {a6 : Int32} {fl : Nat → Bool} {n1 n2 : Nat} {p q : Bool} {ad : Nat → Nat} {I : mmI} {J : mmJ} {Q : mmQ} (h : (((((nI 16) * (I 49 4)) * (a5 + (nI 1))) ≤ a6 → mm_w Q (mm_wc d) bk_251 126 [some (.ref 46), some (.int a1), some (.int a2), some (.int a3), some (.int a4), some (.int (a5 + (nI 1))), none] [] ((fl, n1, n2, p, q, ad), I, J)) ∧ (¬ (((nI 16) * (I 49 4)) * (a5 + (nI 1))) ≤ a6 → mm_wc d 238 [.ref 46, .int a4, .int a6] ((fl, 0, 0, p, q, ad), I, J) (fun v τ => ∃ r1 I1 J1, v = some (.int r1) ∧ τ = ((fl, 0, 0, p, q, ad), I1, J1) ∧ (vp_in (((nI 16384) * (a3 ||| ((nI 1) <<< (a5 &&& 31)))) + r1) 262144 ∧ mm_w Q (mm_wc d) bk_251 164 [some (.ref 46), some (.int a1), some (.int a2), some (.int a3), some (.int a4), some (.int a5), some (.int (a6 + (nI 1)))] [] ((fl, n1, n2, p, q, ad), (mm_up I1 62 ((((nI 16384) * (a3 ||| ((nI 1) <<< (a5 &&& 31)))) + r1)).toNatClampNeg (nI 1)), J1)))))) : mm_w Q (mm_wc (d)) bk_251 164 [some (.ref 46), some (.int a1), some (.int a2), some (.int a3), some (.int a4), some (.int a5), some (.int a6)] [] ((fl, n1, n2, p, q, ad), I, J) := by
  refine mm_go [19, 61, 69, 126, 164] 80 ?_
  show (vp_in (nI 4) 279) ∧ _
  refine ⟨(mm_inl (by decide)), ?_⟩
  show mm_b _ _ _ _ _ [some (.ref 46), some (.int a1), some (.int a2), some (.int a3), some (.int a4), some (.int a5), some (.int a6)] [.int (I 49 4), .int (nI 16), .int a6] ((fl, n1, n2, p, q, ad), I, J)
  show ((((nI 16) * (I 49 4)) * (a5 + (nI 1))) ≤ a6 → _) ∧ (¬ (((nI 16) * (I 49 4)) * (a5 + (nI 1))) ≤ a6 → _)
  refine ⟨fun c0 => ?_, fun c0 => ?_⟩
  · exact (h.1 c0)
  · show mm_b _ _ _ _ _ [some (.ref 46), some (.int a1), some (.int a2), some (.int a3), some (.int a4), some (.int a5), some (.int a6)] [] ((fl, n1, n2, p, q, ad), I, J)
    show mm_wc d 238 [.ref 46, .int a4, .int a6] ((fl, 0, 0, p, q, ad), I, J) _
    refine mm_wcm (h.2 c0) ?_
    rintro v τ ⟨r1, I1, J1, rfl, rfl, h1⟩
    refine mm_r1' ⟨rfl, ?_⟩
    show mm_b _ _ _ _ _ [some (.ref 46), some (.int a1), some (.int a2), some (.int a3), some (.int a4), some (.int a5), some (.int a6)] [.int r1, .int ((nI 16384) * (a3 ||| ((nI 1) <<< (a5 &&& 31)))), .ref 62] ((fl, n1, n2, p, q, ad), I1, J1)
    show (((nI 1) : Int32) = 0 ∨ ((nI 1) : Int32) = 1) ∧ _
    refine ⟨(by decide), ?_⟩
    show vp_in (((nI 16384) * (a3 ||| ((nI 1) <<< (a5 &&& 31)))) + r1) 262144 ∧ _
    refine ⟨h1.1, ?_⟩
    exact h1.2
/- 252 ThreeBreathsModel each -/
theorem fx_252 {d : Nat} {fl : Nat → Bool} {n1 n2 : Nat} {p q : Bool} {ad : Nat → Nat} {I : mmI} {J : mmJ} {Q : mmQ} (h : mm_wc d 166 [.ref 46] ((fl, 0, 0, p, q, ad), I, J) (fun v τ => ∃ I1 J1, v = none ∧ τ = ((fl, 0, 0, p, q, ad), I1, J1) ∧ ((¬ (I1 46 14) = (nI 0) → mm_wc d 251 [.ref 46] ((fl, 0, 0, p, q, ad), I1, J1) (fun v τ => ∃ r2 I2 J2, v = some (.int r2) ∧ τ = ((fl, 0, 0, p, q, ad), I2, J2) ∧ ((¬ r2 = (-2) → mm_wc d 171 [.int r2] ((fl, 0, 0, p, q, ad), I2, J2) (fun v τ => ∃ r3 I3 J3, v = some (.int r3) ∧ τ = ((fl, 0, 0, p, q, ad), I3, J3) ∧ Q (some (.int r3)) ((fl, n1, n2, p, q, ad), I3, J3))) ∧ (r2 = (-2) → Q (some (.int (-2))) ((fl, n1, n2, p, q, ad), I2, J2))))) ∧ ((I1 46 14) = (nI 0) → mm_wc d 167 [.ref 46, .int (nI 1)] ((fl, 0, 0, p, q, ad), I1, J1) (fun v τ => ∃ r4 I4 J4, v = some (.int r4) ∧ τ = ((fl, 0, 0, p, q, ad), I4, J4) ∧ Q (some (.int r4)) ((fl, n1, n2, p, q, ad), I4, J4)))))) : mm_wc (d + 1) 252 [.ref 46] ((fl, n1, n2, p, q, ad), I, J) Q := by
  refine mm_call (c := 252) rfl rfl ?_
  refine mm_go [] 80 ?_
  show mm_wc d 166 [.ref 46] ((fl, 0, 0, p, q, ad), I, J) _
  refine mm_wcm h ?_
  rintro v τ ⟨I1, J1, rfl, rfl, h1⟩
  refine mm_r0' ⟨rfl, ?_⟩
  show mm_b _ _ _ _ _ [some (.ref 46), none] [] ((fl, n1, n2, p, q, ad), I1, J1)
  show (¬ (I1 46 14) = (nI 0) → _) ∧ ((I1 46 14) = (nI 0) → _)
  refine ⟨fun c0 => ?_, fun c0 => ?_⟩
  · show mm_u _ _ _ _ _ _ [some (.ref 46), none] [] ((fl, n1, n2, p, q, ad), I1, J1)
    show mm_wc d 251 [.ref 46] ((fl, 0, 0, p, q, ad), I1, J1) _
    refine mm_wcm (h1.1 c0) ?_
    rintro v τ ⟨r2, I2, J2, rfl, rfl, h2⟩
    refine mm_r1' ⟨rfl, ?_⟩
    show mm_b _ _ _ _ _ [some (.ref 46), none] [.int r2] ((fl, n1, n2, p, q, ad), I2, J2)
    show (¬ r2 = (-2) → _) ∧ (r2 = (-2) → _)
    refine ⟨fun c1 => ?_, fun c1 => ?_⟩
    · show mm_u _ _ _ _ _ _ [some (.ref 46), some (.int r2)] [] ((fl, n1, n2, p, q, ad), I2, J2)
      show mm_wc d 171 [.int r2] ((fl, 0, 0, p, q, ad), I2, J2) _
      refine mm_wcm (h2.1 c1) ?_
      rintro v τ ⟨r3, I3, J3, rfl, rfl, h3⟩
      refine mm_r1' ⟨rfl, ?_⟩
      exact h3
    · exact (h2.2 c1)
  · show mm_b _ _ _ _ _ [some (.ref 46), none] [] ((fl, n1, n2, p, q, ad), I1, J1)
    show mm_wc d 167 [.ref 46, .int (nI 1)] ((fl, 0, 0, p, q, ad), I1, J1) _
    refine mm_wcm (h1.2 c0) ?_
    rintro v τ ⟨r4, I4, J4, rfl, rfl, h4⟩
    refine mm_r1' ⟨rfl, ?_⟩
    exact h4
/- 253 ThreeBreathsModel team -/
theorem fx_253 {d : Nat} {fl : Nat → Bool} {n1 n2 : Nat} {p q : Bool} {ad : Nat → Nat} {I : mmI} {J : mmJ} {Q : mmQ} (h : mm_wc d 166 [.ref 46] ((fl, 0, 0, p, q, ad), I, J) (fun v τ => ∃ I1 J1, v = none ∧ τ = ((fl, 0, 0, p, q, ad), I1, J1) ∧ (((I1 46 14) = (nI 0) → mm_wc d 167 [.ref 46, .int (nI 1)] ((fl, 0, 0, p, q, ad), I1, J1) (fun v τ => ∃ r2 I2 J2, v = some (.int r2) ∧ τ = ((fl, 0, 0, p, q, ad), I2, J2) ∧ Q (some (.int r2)) ((fl, n1, n2, p, q, ad), I2, J2))) ∧ (¬ (I1 46 14) = (nI 0) → mm_wc d 251 [.ref 46] ((fl, 0, 0, p, q, ad), I1, J1) (fun v τ => ∃ r3 I3 J3, v = some (.int r3) ∧ τ = ((fl, 0, 0, p, q, ad), I3, J3) ∧ Q (some (.int r3)) ((fl, n1, n2, p, q, ad), I3, J3)))))) : mm_wc (d + 1) 253 [.ref 46] ((fl, n1, n2, p, q, ad), I, J) Q := by
  refine mm_call (c := 253) rfl rfl ?_
  refine mm_go [] 80 ?_
  show mm_wc d 166 [.ref 46] ((fl, 0, 0, p, q, ad), I, J) _
  refine mm_wcm h ?_
  rintro v τ ⟨I1, J1, rfl, rfl, h1⟩
  refine mm_r0' ⟨rfl, ?_⟩
  show mm_b _ _ _ _ _ [some (.ref 46)] [] ((fl, n1, n2, p, q, ad), I1, J1)
  show ((I1 46 14) = (nI 0) → _) ∧ (¬ (I1 46 14) = (nI 0) → _)
  refine ⟨fun c0 => ?_, fun c0 => ?_⟩
  · show mm_u _ _ _ _ _ _ [some (.ref 46)] [] ((fl, n1, n2, p, q, ad), I1, J1)
    show mm_wc d 167 [.ref 46, .int (nI 1)] ((fl, 0, 0, p, q, ad), I1, J1) _
    refine mm_wcm (h1.1 c0) ?_
    rintro v τ ⟨r2, I2, J2, rfl, rfl, h2⟩
    refine mm_r1' ⟨rfl, ?_⟩
    exact h2
  · show mm_b _ _ _ _ _ [some (.ref 46)] [] ((fl, n1, n2, p, q, ad), I1, J1)
    show mm_wc d 251 [.ref 46] ((fl, 0, 0, p, q, ad), I1, J1) _
    refine mm_wcm (h1.2 c0) ?_
    rintro v τ ⟨r3, I3, J3, rfl, rfl, h3⟩
    refine mm_r1' ⟨rfl, ?_⟩
    exact h3
/- 254 ThreeBreathsModel greedyEnd -/
theorem fx_254 {d : Nat} {fl : Nat → Bool} {n1 n2 : Nat} {p q : Bool} {ad : Nat → Nat} {I : mmI} {J : mmJ} {Q : mmQ} (h : mm_wc d 166 [.ref 46] ((fl, 0, 0, p, q, ad), I, J) (fun v τ => ∃ I1 J1, v = none ∧ τ = ((fl, 0, 0, p, q, ad), I1, J1) ∧ ((¬ (I1 46 14) = (nI 0) → mm_w Q (mm_wc d) bk_254 29 [some (.ref 46), some (.int (I1 46 17)), some (.int (I1 46 18)), some (.int (nI 0)), none, none] [] ((fl, n1, n2, p, q, ad), I1, J1)) ∧ ((I1 46 14) = (nI 0) → mm_wc d 167 [.ref 46, .int (nI 1)] ((fl, 0, 0, p, q, ad), I1, J1) (fun v τ => ∃ r2 I2 J2, v = some (.int r2) ∧ τ = ((fl, 0, 0, p, q, ad), I2, J2) ∧ Q (some (.int r2)) ((fl, n1, n2, p, q, ad), I2, J2)))))) : mm_wc (d + 1) 254 [.ref 46] ((fl, n1, n2, p, q, ad), I, J) Q := by
  refine mm_call (c := 254) rfl rfl ?_
  refine mm_go [29] 80 ?_
  show mm_wc d 166 [.ref 46] ((fl, 0, 0, p, q, ad), I, J) _
  refine mm_wcm h ?_
  rintro v τ ⟨I1, J1, rfl, rfl, h1⟩
  refine mm_r0' ⟨rfl, ?_⟩
  show mm_b _ _ _ _ _ [some (.ref 46), none, none, none, none, none] [] ((fl, n1, n2, p, q, ad), I1, J1)
  show (¬ (I1 46 14) = (nI 0) → _) ∧ ((I1 46 14) = (nI 0) → _)
  refine ⟨fun c0 => ?_, fun c0 => ?_⟩
  · exact (h1.1 c0)
  · show mm_b _ _ _ _ _ [some (.ref 46), none, none, none, none, none] [] ((fl, n1, n2, p, q, ad), I1, J1)
    show mm_wc d 167 [.ref 46, .int (nI 1)] ((fl, 0, 0, p, q, ad), I1, J1) _
    refine mm_wcm (h1.2 c0) ?_
    rintro v τ ⟨r2, I2, J2, rfl, rfl, h2⟩
    refine mm_r1' ⟨rfl, ?_⟩
    exact h2
theorem fx_254_29 {d : Nat} {a1 : Int32} {a2 : Int32} {a3 : Int32} {fl : Nat → Bool} {n1 n2 : Nat} {p q : Bool} {ad : Nat → Nat} {I : mmI} {J : mmJ} {Q : mmQ} (h : (((I 49 2) ≤ a3 → mm_wc d 171 [.int (I 46 17)] ((fl, 0, 0, p, q, ad), I, J) (fun v τ => ∃ r1 I1 J1, v = some (.int r1) ∧ τ = ((fl, 0, 0, p, q, ad), I1, J1) ∧ Q (some (.int r1)) ((fl, n1, n2, p, q, ad), (mm_up (mm_up I1 46 17 a1) 46 18 a2), J1))) ∧ (¬ (I 49 2) ≤ a3 → mm_wc d 227 [.ref 46] ((fl, 0, 0, p, q, ad), I, J) (fun v τ => ∃ r2 I2 J2, v = some (.int r2) ∧ τ = ((fl, 0, 0, p, q, ad), I2, J2) ∧ mm_wc d 225 [.ref 46, .int r2] ((fl, 0, 0, p, q, ad), I2, J2) (fun v τ => ∃ r3 I3 J3, v = some (.int r3) ∧ τ = ((fl, 0, 0, p, q, ad), I3, J3) ∧ (((nI 0) < r3 → (vp_in r2 320 ∧ mm_wc d 212 [.ref 46, .int (I3 46 17), .int (I3 46 18), .int (I3 53 r2.toNatClampNeg)] ((fl, 0, 0, p, q, ad), I3, J3) (fun v τ => ∃ r4 I4 J4, v = some (.int r4) ∧ τ = ((fl, 0, 0, p, q, ad), I4, J4) ∧ mm_wc d 213 [.int r4] ((fl, 0, 0, p, q, ad), I4, J4) (fun v τ => ∃ r5 I5 J5, v = some (.int r5) ∧ τ = ((fl, 0, 0, p, q, ad), I5, J5) ∧ mm_wc d 214 [.int r4] ((fl, 0, 0, p, q, ad), (mm_up I5 46 17 r5), J5) (fun v τ => ∃ r6 I6 J6, v = some (.int r6) ∧ τ = ((fl, 0, 0, p, q, ad), I6, J6) ∧ mm_w Q (mm_wc d) bk_254 29 [some (.ref 46), some (.int a1), some (.int a2), some (.int (a3 + (nI 1))), none, none] [] ((fl, n1, n2, p, q, ad), (mm_up I6 46 18 r6), J6)))))) ∧ (¬ (nI 0) < r3 → mm_wc d 171 [.int (I3 46 17)] ((fl, 0, 0, p, q, ad), I3, J3) (fun v τ => ∃ r7 I7 J7, v = some (.int r7) ∧ τ = ((fl, 0, 0, p, q, ad), I7, J7) ∧ Q (some (.int r7)) ((fl, n1, n2, p, q, ad), (mm_up (mm_up I7 46 17 a1) 46 18 a2), J7))))))))) : mm_w Q (mm_wc (d)) bk_254 29 [some (.ref 46), some (.int a1), some (.int a2), some (.int a3), none, none] [] ((fl, n1, n2, p, q, ad), I, J) := by
  refine mm_go [29] 80 ?_
  show (vp_in (nI 2) 279) ∧ _
  refine ⟨(mm_inl (by decide)), ?_⟩
  show mm_b _ _ _ _ _ [some (.ref 46), some (.int a1), some (.int a2), some (.int a3), none, none] [.int (I 49 2), .int a3] ((fl, n1, n2, p, q, ad), I, J)
  show ((I 49 2) ≤ a3 → _) ∧ (¬ (I 49 2) ≤ a3 → _)
  refine ⟨fun c0 => ?_, fun c0 => ?_⟩
  · show mm_u _ _ _ _ _ _ [some (.ref 46), some (.int a1), some (.int a2), some (.int a3), none, none] [] ((fl, n1, n2, p, q, ad), I, J)
    show mm_wc d 171 [.int (I 46 17)] ((fl, 0, 0, p, q, ad), I, J) _
    refine mm_wcm (h.1 c0) ?_
    rintro v τ ⟨r1, I1, J1, rfl, rfl, h1⟩
    refine mm_r1' ⟨rfl, ?_⟩
    exact h1
  · show mm_b _ _ _ _ _ [some (.ref 46), some (.int a1), some (.int a2), some (.int a3), none, none] [] ((fl, n1, n2, p, q, ad), I, J)
    show mm_wc d 227 [.ref 46] ((fl, 0, 0, p, q, ad), I, J) _
    refine mm_wcm (h.2 c0) ?_
    rintro v τ ⟨r2, I2, J2, rfl, rfl, h2⟩
    refine mm_r1' ⟨rfl, ?_⟩
    show mm_b _ _ _ _ _ [some (.ref 46), some (.int a1), some (.int a2), some (.int a3), none, none] [.int r2] ((fl, n1, n2, p, q, ad), I2, J2)
    show mm_wc d 225 [.ref 46, .int r2] ((fl, 0, 0, p, q, ad), I2, J2) _
    refine mm_wcm h2 ?_
    rintro v τ ⟨r3, I3, J3, rfl, rfl, h3⟩
    refine mm_r1' ⟨rfl, ?_⟩
    show mm_b _ _ _ _ _ [some (.ref 46), some (.int a1), some (.int a2), some (.int a3), some (.int r2), none] [.int r3] ((fl, n1, n2, p, q, ad), I3, J3)
    show ((nI 0) < r3 → _) ∧ (¬ (nI 0) < r3 → _)
    refine ⟨fun c1 => ?_, fun c1 => ?_⟩
    · show mm_u _ _ _ _ _ _ [some (.ref 46), some (.int a1), some (.int a2), some (.int a3), some (.int r2), none] [] ((fl, n1, n2, p, q, ad), I3, J3)
      show vp_in r2 320 ∧ _
      refine ⟨(h3.1 c1).1, ?_⟩
      show mm_b _ _ _ _ _ [some (.ref 46), some (.int a1), some (.int a2), some (.int a3), some (.int r2), none] [.int (I3 53 r2.toNatClampNeg), .int (I3 46 18), .int (I3 46 17), .ref 46] ((fl, n1, n2, p, q, ad), I3, J3)
      show mm_wc d 212 [.ref 46, .int (I3 46 17), .int (I3 46 18), .int (I3 53 r2.toNatClampNeg)] ((fl, 0, 0, p, q, ad), I3, J3) _
      refine mm_wcm ((h3.1 c1).2) ?_
      rintro v τ ⟨r4, I4, J4, rfl, rfl, h4⟩
      refine mm_r1' ⟨rfl, ?_⟩
      show mm_b _ _ _ _ _ [some (.ref 46), some (.int a1), some (.int a2), some (.int a3), some (.int r2), none] [.int r4] ((fl, n1, n2, p, q, ad), I4, J4)
      show mm_wc d 213 [.int r4] ((fl, 0, 0, p, q, ad), I4, J4) _
      refine mm_wcm h4 ?_
      rintro v τ ⟨r5, I5, J5, rfl, rfl, h5⟩
      refine mm_r1' ⟨rfl, ?_⟩
      show mm_b _ _ _ _ _ [some (.ref 46), some (.int a1), some (.int a2), some (.int a3), some (.int r2), some (.int r4)] [.int r5, .ref 46] ((fl, n1, n2, p, q, ad), I5, J5)
      show mm_wc d 214 [.int r4] ((fl, 0, 0, p, q, ad), (mm_up I5 46 17 r5), J5) _
      refine mm_wcm h5 ?_
      rintro v τ ⟨r6, I6, J6, rfl, rfl, h6⟩
      refine mm_r1' ⟨rfl, ?_⟩
      exact h6
    · show mm_b _ _ _ _ _ [some (.ref 46), some (.int a1), some (.int a2), some (.int a3), some (.int r2), none] [] ((fl, n1, n2, p, q, ad), I3, J3)
      show mm_wc d 171 [.int (I3 46 17)] ((fl, 0, 0, p, q, ad), I3, J3) _
      refine mm_wcm (h3.2 c1) ?_
      rintro v τ ⟨r7, I7, J7, rfl, rfl, h7⟩
      refine mm_r1' ⟨rfl, ?_⟩
      exact h7
/- 255 ThreeBreathsModel weight -/
theorem fx_255 {d : Nat} {x0 : Int32} {fl : Nat → Bool} {n1 n2 : Nat} {p q : Bool} {ad : Nat → Nat} {I : mmI} {J : mmJ} {Q : mmQ} (h : ((¬ (I 49 7) = (nI 0) → (vp_in ((nI 10) + x0) 279 ∧ Q (some (.int (I 49 (((nI 10) + x0)).toNatClampNeg))) ((fl, n1, n2, p, q, ad), I, J))) ∧ ((I 49 7) = (nI 0) → ((¬ x0 = (nI 1) → Q (some (.int (nI 0))) ((fl, n1, n2, p, q, ad), I, J)) ∧ (x0 = (nI 1) → Q (some (.int (nI 1))) ((fl, n1, n2, p, q, ad), I, J)))))) : mm_wc (d + 1) 255 [.ref 46, .int x0] ((fl, n1, n2, p, q, ad), I, J) Q := by
  refine mm_call (c := 255) rfl rfl ?_
  refine mm_go [] 80 ?_
  show (vp_in (nI 7) 279) ∧ _
  refine ⟨(mm_inl (by decide)), ?_⟩
  show mm_b _ _ _ _ _ [some (.ref 46), some (.int x0)] [.int (I 49 7)] ((fl, n1, n2, p, q, ad), I, J)
  show (¬ (I 49 7) = (nI 0) → _) ∧ ((I 49 7) = (nI 0) → _)
  refine ⟨fun c0 => ?_, fun c0 => ?_⟩
  · show mm_u _ _ _ _ _ _ [some (.ref 46), some (.int x0)] [] ((fl, n1, n2, p, q, ad), I, J)
    show vp_in ((nI 10) + x0) 279 ∧ _
    refine ⟨(h.1 c0).1, ?_⟩
    exact (h.1 c0).2
  · show mm_b _ _ _ _ _ [some (.ref 46), some (.int x0)] [] ((fl, n1, n2, p, q, ad), I, J)
    show (¬ x0 = (nI 1) → _) ∧ (x0 = (nI 1) → _)
    refine ⟨fun c1 => ?_, fun c1 => ?_⟩
    · exact ((h.2 c0).1 c1)
    · exact ((h.2 c0).2 c1)
/- 256 ThreeBreathsModel weights -/
theorem fx_256 {d : Nat} {x0 : Int32} {fl : Nat → Bool} {n1 n2 : Nat} {p q : Bool} {ad : Nat → Nat} {I : mmI} {J : mmJ} {Q : mmQ} (h : mm_w Q (mm_wc d) bk_256 5 [some (.ref 46), some (.int x0), some (.long (lN 1)), none, some (.int (nI 0))] [] ((fl, n1, n2, p, q, ad), I, J)) : mm_wc (d + 1) 256 [.ref 46, .int x0] ((fl, n1, n2, p, q, ad), I, J) Q := by
  refine mm_call (c := 256) rfl rfl ?_
  refine mm_go [5] 80 ?_
  exact h
theorem fx_256_5 {d : Nat} {a1 : Int32} {a2 : Int64} {a4 : Int32} {fl : Nat → Bool} {n1 n2 : Nat} {p q : Bool} {ad : Nat → Nat} {I : mmI} {J : mmJ} {Q : mmQ} (h : ((a1 ≤ a4 → Q (some (.long a2)) ((fl, n1, n2, p, q, ad), I, J)) ∧ (¬ a1 ≤ a4 → mm_wc d 255 [.ref 46, .int (nI 0)] ((fl, 0, 0, p, q, ad), I, J) (fun v τ => ∃ r1 I1 J1, v = some (.int r1) ∧ τ = ((fl, 0, 0, p, q, ad), I1, J1) ∧ mm_wc d 255 [.ref 46, .int (nI 1)] ((fl, 0, 0, p, q, ad), I1, J1) (fun v τ => ∃ r2 I2 J2, v = some (.int r2) ∧ τ = ((fl, 0, 0, p, q, ad), I2, J2) ∧ mm_wc d 255 [.ref 46, .int (nI 2)] ((fl, 0, 0, p, q, ad), I2, J2) (fun v τ => ∃ r3 I3 J3, v = some (.int r3) ∧ τ = ((fl, 0, 0, p, q, ad), I3, J3) ∧ mm_w Q (mm_wc d) bk_256 5 [some (.ref 46), some (.int a1), some (.long (a2 * (Int32.toInt64 ((r1 + r2) + r3)))), none, some (.int (a4 + (nI 1)))] [] ((fl, n1, n2, p, q, ad), I3, J3))))))) : mm_w Q (mm_wc (d)) bk_256 5 [some (.ref 46), some (.int a1), some (.long a2), none, some (.int a4)] [] ((fl, n1, n2, p, q, ad), I, J) := by
  refine mm_go [5] 80 ?_
  show (a1 ≤ a4 → _) ∧ (¬ a1 ≤ a4 → _)
  refine ⟨fun c0 => ?_, fun c0 => ?_⟩
  · exact (h.1 c0)
  · show mm_b _ _ _ _ _ [some (.ref 46), some (.int a1), some (.long a2), none, some (.int a4)] [] ((fl, n1, n2, p, q, ad), I, J)
    show mm_wc d 255 [.ref 46, .int (nI 0)] ((fl, 0, 0, p, q, ad), I, J) _
    refine mm_wcm (h.2 c0) ?_
    rintro v τ ⟨r1, I1, J1, rfl, rfl, h1⟩
    refine mm_r1' ⟨rfl, ?_⟩
    show mm_b _ _ _ _ _ [some (.ref 46), some (.int a1), some (.long a2), none, some (.int a4)] [.int r1, .long a2] ((fl, n1, n2, p, q, ad), I1, J1)
    show mm_wc d 255 [.ref 46, .int (nI 1)] ((fl, 0, 0, p, q, ad), I1, J1) _
    refine mm_wcm h1 ?_
    rintro v τ ⟨r2, I2, J2, rfl, rfl, h2⟩
    refine mm_r1' ⟨rfl, ?_⟩
    show mm_b _ _ _ _ _ [some (.ref 46), some (.int a1), some (.long a2), none, some (.int a4)] [.int r2, .int r1, .long a2] ((fl, n1, n2, p, q, ad), I2, J2)
    show mm_wc d 255 [.ref 46, .int (nI 2)] ((fl, 0, 0, p, q, ad), I2, J2) _
    refine mm_wcm h2 ?_
    rintro v τ ⟨r3, I3, J3, rfl, rfl, h3⟩
    refine mm_r1' ⟨rfl, ?_⟩
    exact h3
/- 257 ThreeBreathsModel chanceBy -/
theorem fx_257 {d : Nat} {x0 : Int32} {x1 : Int32} {x2 : Int32} {fl : Nat → Bool} {n1 n2 : Nat} {p q : Bool} {ad : Nat → Nat} {I : mmI} {J : mmJ} {Q : mmQ} (h : mm_w Q (mm_wc d) bk_257 6 [some (.ref 46), some (.int x0), some (.int x1), some (.int x2), some (.long (lN 0)), none, some (.int (nI 0)), none] [] ((fl, n1, n2, p, q, ad), I, J)) : mm_wc (d + 1) 257 [.ref 46, .int x0, .int x1, .int x2] ((fl, n1, n2, p, q, ad), I, J) Q := by
  refine mm_call (c := 257) rfl rfl ?_
  refine mm_go [6] 80 ?_
  exact h
theorem fx_257_6 {d : Nat} {a1 : Int32} {a2 : Int32} {a3 : Int32} {a4 : Int64} {a6 : Int32} {fl : Nat → Bool} {n1 n2 : Nat} {p q : Bool} {ad : Nat → Nat} {I : mmI} {J : mmJ} {Q : mmQ} (h : (((nI 3) ≤ a6 → Q (some (.long a4)) ((fl, n1, n2, p, q, ad), I, J)) ∧ (¬ (nI 3) ≤ a6 → mm_wc d 255 [.ref 46, .int a6] ((fl, 0, 0, p, q, ad), I, J) (fun v τ => ∃ r1 I1 J1, v = some (.int r1) ∧ τ = ((fl, 0, 0, p, q, ad), I1, J1) ∧ ((r1 ≤ (nI 0) → mm_w Q (mm_wc d) bk_257 6 [some (.ref 46), some (.int a1), some (.int a2), some (.int a3), some (.long a4), none, some (.int (a6 + (nI 1))), none] [] ((fl, n1, n2, p, q, ad), I1, J1)) ∧ (¬ r1 ≤ (nI 0) → mm_wc d 255 [.ref 46, .int a6] ((fl, 0, 0, p, q, ad), I1, J1) (fun v τ => ∃ r2 I2 J2, v = some (.int r2) ∧ τ = ((fl, 0, 0, p, q, ad), I2, J2) ∧ mm_wc d 238 [.ref 46, .int a1, .int (((a2 / (nI 16)) * (nI 16)) + ((((a2 - a2 / (nI 16) * (nI 16)) + a6) + (nI 15)) - (((a2 - a2 / (nI 16) * (nI 16)) + a6) + (nI 15)) / (nI 16) * (nI 16)))] ((fl, 0, 0, p, q, ad), I2, J2) (fun v τ => ∃ r3 I3 J3, v = some (.int r3) ∧ τ = ((fl, 0, 0, p, q, ad), I3, J3) ∧ mm_wc d 258 [.ref 46, .int r3, .int (a3 - (nI 1))] ((fl, 0, 0, p, q, ad), I3, J3) (fun v τ => ∃ r4 I4 J4, v = some (.long r4) ∧ τ = ((fl, 0, 0, p, q, ad), I4, J4) ∧ mm_w Q (mm_wc d) bk_257 6 [some (.ref 46), some (.int a1), some (.int a2), some (.int a3), some (.long (a4 + ((Int32.toInt64 r2) * r4))), none, some (.int (a6 + (nI 1))), none] [] ((fl, n1, n2, p, q, ad), I4, J4)))))))))) : mm_w Q (mm_wc (d)) bk_257 6 [some (.ref 46), some (.int a1), some (.int a2), some (.int a3), some (.long a4), none, some (.int a6), none] [] ((fl, n1, n2, p, q, ad), I, J) := by
  refine mm_go [6] 80 ?_
  show ((nI 3) ≤ a6 → _) ∧ (¬ (nI 3) ≤ a6 → _)
  refine ⟨fun c0 => ?_, fun c0 => ?_⟩
  · exact (h.1 c0)
  · show mm_b _ _ _ _ _ [some (.ref 46), some (.int a1), some (.int a2), some (.int a3), some (.long a4), none, some (.int a6), none] [] ((fl, n1, n2, p, q, ad), I, J)
    show (¬ ((nI 16) : Int32) = 0) ∧ _
    refine ⟨(by decide), ?_⟩
    show mm_b _ _ _ _ _ [some (.ref 46), some (.int a1), some (.int a2), some (.int a3), some (.long a4), none, some (.int a6), none] [.int (a2 / (nI 16))] ((fl, n1, n2, p, q, ad), I, J)
    show (¬ ((nI 16) : Int32) = 0) ∧ _
    refine ⟨(by decide), ?_⟩
    show mm_b _ _ _ _ _ [some (.ref 46), some (.int a1), some (.int a2), some (.int a3), some (.long a4), none, some (.int a6), none] [.int (a2 - a2 / (nI 16) * (nI 16)), .int ((a2 / (nI 16)) * (nI 16))] ((fl, n1, n2, p, q, ad), I, J)
    show (¬ ((nI 16) : Int32) = 0) ∧ _
    refine ⟨(by decide), ?_⟩
    show mm_b _ _ _ _ _ [some (.ref 46), some (.int a1), some (.int a2), some (.int a3), some (.long a4), none, some (.int a6), none] [.int ((((a2 - a2 / (nI 16) * (nI 16)) + a6) + (nI 15)) - (((a2 - a2 / (nI 16) * (nI 16)) + a6) + (nI 15)) / (nI 16) * (nI 16)), .int ((a2 / (nI 16)) * (nI 16))] ((fl, n1, n2, p, q, ad), I, J)
    show mm_wc d 255 [.ref 46, .int a6] ((fl, 0, 0, p, q, ad), I, J) _
    refine mm_wcm (h.2 c0) ?_
    rintro v τ ⟨r1, I1, J1, rfl, rfl, h1⟩
    refine mm_r1' ⟨rfl, ?_⟩
    show mm_b _ _ _ _ _ [some (.ref 46), some (.int a1), some (.int a2), some (.int a3), some (.long a4), none, some (.int a6), some (.int (((a2 / (nI 16)) * (nI 16)) + ((((a2 - a2 / (nI 16) * (nI 16)) + a6) + (nI 15)) - (((a2 - a2 / (nI 16) * (nI 16)) + a6) + (nI 15)) / (nI 16) * (nI 16))))] [.int r1] ((fl, n1, n2, p, q, ad), I1, J1)
    show (r1 ≤ (nI 0) → _) ∧ (¬ r1 ≤ (nI 0) → _)
    refine ⟨fun c1 => ?_, fun c1 => ?_⟩
    · exact (h1.1 c1)
    · show mm_b _ _ _ _ _ [some (.ref 46), some (.int a1), some (.int a2), some (.int a3), some (.long a4), none, some (.int a6), some (.int (((a2 / (nI 16)) * (nI 16)) + ((((a2 - a2 / (nI 16) * (nI 16)) + a6) + (nI 15)) - (((a2 - a2 / (nI 16) * (nI 16)) + a6) + (nI 15)) / (nI 16) * (nI 16))))] [] ((fl, n1, n2, p, q, ad), I1, J1)
      show mm_wc d 255 [.ref 46, .int a6] ((fl, 0, 0, p, q, ad), I1, J1) _
      refine mm_wcm (h1.2 c1) ?_
      rintro v τ ⟨r2, I2, J2, rfl, rfl, h2⟩
      refine mm_r1' ⟨rfl, ?_⟩
      show mm_b _ _ _ _ _ [some (.ref 46), some (.int a1), some (.int a2), some (.int a3), some (.long a4), none, some (.int a6), some (.int (((a2 / (nI 16)) * (nI 16)) + ((((a2 - a2 / (nI 16) * (nI 16)) + a6) + (nI 15)) - (((a2 - a2 / (nI 16) * (nI 16)) + a6) + (nI 15)) / (nI 16) * (nI 16))))] [.int r2, .long a4] ((fl, n1, n2, p, q, ad), I2, J2)
      show mm_wc d 238 [.ref 46, .int a1, .int (((a2 / (nI 16)) * (nI 16)) + ((((a2 - a2 / (nI 16) * (nI 16)) + a6) + (nI 15)) - (((a2 - a2 / (nI 16) * (nI 16)) + a6) + (nI 15)) / (nI 16) * (nI 16)))] ((fl, 0, 0, p, q, ad), I2, J2) _
      refine mm_wcm h2 ?_
      rintro v τ ⟨r3, I3, J3, rfl, rfl, h3⟩
      refine mm_r1' ⟨rfl, ?_⟩
      show mm_b _ _ _ _ _ [some (.ref 46), some (.int a1), some (.int a2), some (.int a3), some (.long a4), none, some (.int a6), some (.int (((a2 / (nI 16)) * (nI 16)) + ((((a2 - a2 / (nI 16) * (nI 16)) + a6) + (nI 15)) - (((a2 - a2 / (nI 16) * (nI 16)) + a6) + (nI 15)) / (nI 16) * (nI 16))))] [.int r3, .ref 46, .long (Int32.toInt64 r2), .long a4] ((fl, n1, n2, p, q, ad), I3, J3)
      show mm_wc d 258 [.ref 46, .int r3, .int (a3 - (nI 1))] ((fl, 0, 0, p, q, ad), I3, J3) _
      refine mm_wcm h3 ?_
      rintro v τ ⟨r4, I4, J4, rfl, rfl, h4⟩
      refine mm_r2' ⟨rfl, ?_⟩
      exact h4
/- 258 ThreeBreathsModel chanceOf -/
theorem fx_258 {d : Nat} {x0 : Int32} {x1 : Int32} {fl : Nat → Bool} {n1 n2 : Nat} {p q : Bool} {ad : Nat → Nat} {I : mmI} {J : mmJ} {Q : mmQ} (h : mm_wc d 237 [.int x0] ((fl, 0, 0, p, q, ad), I, J) (fun v τ => ∃ r1 I1 J1, v = some (.int r1) ∧ τ = ((fl, 0, 0, p, q, ad), I1, J1) ∧ ((¬ r1 = (nI 0) → ((¬ x1 = (nI 0) → ((¬ x1 = (nI 1) → ((¬ x1 = (nI 2) → mm_w Q (mm_wc d) bk_258 70 [some (.ref 46), some (.int x0), some (.int x1), some (.long (lN 0)), none, some (.int (nI 0)), none, none] [] ((fl, n1, n2, p, q, ad), I1, J1)) ∧ (x1 = (nI 2) → (vp_in x0 16384 ∧ (((lg_cmp (J1 64 x0.toNatClampNeg) (lN 0)) < (nI 0) → mm_w Q (mm_wc d) bk_258 70 [some (.ref 46), some (.int x0), some (.int x1), some (.long (lN 0)), none, some (.int (nI 0)), none, none] [] ((fl, n1, n2, p, q, ad), I1, J1)) ∧ (¬ (lg_cmp (J1 64 x0.toNatClampNeg) (lN 0)) < (nI 0) → (vp_in x0 16384 ∧ Q (some (.long (J1 64 x0.toNatClampNeg))) ((fl, n1, n2, p, q, ad), I1, J1)))))))) ∧ (x1 = (nI 1) → (vp_in x0 16384 ∧ (((lg_cmp (J1 63 x0.toNatClampNeg) (lN 0)) < (nI 0) → ((¬ x1 = (nI 2) → mm_w Q (mm_wc d) bk_258 70 [some (.ref 46), some (.int x0), some (.int x1), some (.long (lN 0)), none, some (.int (nI 0)), none, none] [] ((fl, n1, n2, p, q, ad), I1, J1)) ∧ (x1 = (nI 2) → (vp_in x0 16384 ∧ (((lg_cmp (J1 64 x0.toNatClampNeg) (lN 0)) < (nI 0) → mm_w Q (mm_wc d) bk_258 70 [some (.ref 46), some (.int x0), some (.int x1), some (.long (lN 0)), none, some (.int (nI 0)), none, none] [] ((fl, n1, n2, p, q, ad), I1, J1)) ∧ (¬ (lg_cmp (J1 64 x0.toNatClampNeg) (lN 0)) < (nI 0) → (vp_in x0 16384 ∧ Q (some (.long (J1 64 x0.toNatClampNeg))) ((fl, n1, n2, p, q, ad), I1, J1)))))))) ∧ (¬ (lg_cmp (J1 63 x0.toNatClampNeg) (lN 0)) < (nI 0) → (vp_in x0 16384 ∧ Q (some (.long (J1 63 x0.toNatClampNeg))) ((fl, n1, n2, p, q, ad), I1, J1)))))))) ∧ (x1 = (nI 0) → Q (some (.long (lN 0))) ((fl, n1, n2, p, q, ad), I1, J1)))) ∧ (r1 = (nI 0) → mm_wc d 256 [.ref 46, .int x1] ((fl, 0, 0, p, q, ad), I1, J1) (fun v τ => ∃ r2 I2 J2, v = some (.long r2) ∧ τ = ((fl, 0, 0, p, q, ad), I2, J2) ∧ Q (some (.long r2)) ((fl, n1, n2, p, q, ad), I2, J2)))))) : mm_wc (d + 1) 258 [.ref 46, .int x0, .int x1] ((fl, n1, n2, p, q, ad), I, J) Q := by
  refine mm_call (c := 258) rfl rfl ?_
  refine mm_go [70] 80 ?_
  show mm_wc d 237 [.int x0] ((fl, 0, 0, p, q, ad), I, J) _
  refine mm_wcm h ?_
  rintro v τ ⟨r1, I1, J1, rfl, rfl, h1⟩
  refine mm_r1' ⟨rfl, ?_⟩
  show mm_b _ _ _ _ _ [some (.ref 46), some (.int x0), some (.int x1), none, none, none, none, none] [.int r1] ((fl, n1, n2, p, q, ad), I1, J1)
  show (¬ r1 = (nI 0) → _) ∧ (r1 = (nI 0) → _)
  refine ⟨fun c0 => ?_, fun c0 => ?_⟩
  · show mm_u _ _ _ _ _ _ [some (.ref 46), some (.int x0), some (.int x1), none, none, none, none, none] [] ((fl, n1, n2, p, q, ad), I1, J1)
    show (¬ x1 = (nI 0) → _) ∧ (x1 = (nI 0) → _)
    refine ⟨fun c1 => ?_, fun c1 => ?_⟩
    · show mm_u _ _ _ _ _ _ [some (.ref 46), some (.int x0), some (.int x1), none, none, none, none, none] [] ((fl, n1, n2, p, q, ad), I1, J1)
      show (¬ x1 = (nI 1) → _) ∧ (x1 = (nI 1) → _)
      refine ⟨fun c2 => ?_, fun c2 => ?_⟩
      · show mm_u _ _ _ _ _ _ [some (.ref 46), some (.int x0), some (.int x1), none, none, none, none, none] [] ((fl, n1, n2, p, q, ad), I1, J1)
        show (¬ x1 = (nI 2) → _) ∧ (x1 = (nI 2) → _)
        refine ⟨fun c3 => ?_, fun c3 => ?_⟩
        · exact ((((h1.1 c0).1 c1).1 c2).1 c3)
        · show mm_b _ _ _ _ _ [some (.ref 46), some (.int x0), some (.int x1), none, none, none, none, none] [] ((fl, n1, n2, p, q, ad), I1, J1)
          show vp_in x0 16384 ∧ _
          refine ⟨((((h1.1 c0).1 c1).1 c2).2 c3).1, ?_⟩
          show mm_b _ _ _ _ _ [some (.ref 46), some (.int x0), some (.int x1), none, none, none, none, none] [.long (J1 64 x0.toNatClampNeg)] ((fl, n1, n2, p, q, ad), I1, J1)
          show ((lg_cmp (J1 64 x0.toNatClampNeg) (lN 0)) < (nI 0) → _) ∧ (¬ (lg_cmp (J1 64 x0.toNatClampNeg) (lN 0)) < (nI 0) → _)
          refine ⟨fun c4 => ?_, fun c4 => ?_⟩
          · exact (((((h1.1 c0).1 c1).1 c2).2 c3).2.1 c4)
          · show mm_b _ _ _ _ _ [some (.ref 46), some (.int x0), some (.int x1), none, none, none, none, none] [] ((fl, n1, n2, p, q, ad), I1, J1)
            show vp_in x0 16384 ∧ _
            refine ⟨(((((h1.1 c0).1 c1).1 c2).2 c3).2.2 c4).1, ?_⟩
            exact (((((h1.1 c0).1 c1).1 c2).2 c3).2.2 c4).2
      · show mm_b _ _ _ _ _ [some (.ref 46), some (.int x0), some (.int x1), none, none, none, none, none] [] ((fl, n1, n2, p, q, ad), I1, J1)
        show vp_in x0 16384 ∧ _
        refine ⟨(((h1.1 c0).1 c1).2 c2).1, ?_⟩
        show mm_b _ _ _ _ _ [some (.ref 46), some (.int x0), some (.int x1), none, none, none, none, none] [.long (J1 63 x0.toNatClampNeg)] ((fl, n1, n2, p, q, ad), I1, J1)
        show ((lg_cmp (J1 63 x0.toNatClampNeg) (lN 0)) < (nI 0) → _) ∧ (¬ (lg_cmp (J1 63 x0.toNatClampNeg) (lN 0)) < (nI 0) → _)
        refine ⟨fun c3 => ?_, fun c3 => ?_⟩
        · show mm_u _ _ _ _ _ _ [some (.ref 46), some (.int x0), some (.int x1), none, none, none, none, none] [] ((fl, n1, n2, p, q, ad), I1, J1)
          show (¬ x1 = (nI 2) → _) ∧ (x1 = (nI 2) → _)
          refine ⟨fun c4 => ?_, fun c4 => ?_⟩
          · exact (((((h1.1 c0).1 c1).2 c2).2.1 c3).1 c4)
          · show mm_b _ _ _ _ _ [some (.ref 46), some (.int x0), some (.int x1), none, none, none, none, none] [] ((fl, n1, n2, p, q, ad), I1, J1)
            show vp_in x0 16384 ∧ _
            refine ⟨(((((h1.1 c0).1 c1).2 c2).2.1 c3).2 c4).1, ?_⟩
            show mm_b _ _ _ _ _ [some (.ref 46), some (.int x0), some (.int x1), none, none, none, none, none] [.long (J1 64 x0.toNatClampNeg)] ((fl, n1, n2, p, q, ad), I1, J1)
            show ((lg_cmp (J1 64 x0.toNatClampNeg) (lN 0)) < (nI 0) → _) ∧ (¬ (lg_cmp (J1 64 x0.toNatClampNeg) (lN 0)) < (nI 0) → _)
            refine ⟨fun c5 => ?_, fun c5 => ?_⟩
            · exact ((((((h1.1 c0).1 c1).2 c2).2.1 c3).2 c4).2.1 c5)
            · show mm_b _ _ _ _ _ [some (.ref 46), some (.int x0), some (.int x1), none, none, none, none, none] [] ((fl, n1, n2, p, q, ad), I1, J1)
              show vp_in x0 16384 ∧ _
              refine ⟨((((((h1.1 c0).1 c1).2 c2).2.1 c3).2 c4).2.2 c5).1, ?_⟩
              exact ((((((h1.1 c0).1 c1).2 c2).2.1 c3).2 c4).2.2 c5).2
        · show mm_b _ _ _ _ _ [some (.ref 46), some (.int x0), some (.int x1), none, none, none, none, none] [] ((fl, n1, n2, p, q, ad), I1, J1)
          show vp_in x0 16384 ∧ _
          refine ⟨((((h1.1 c0).1 c1).2 c2).2.2 c3).1, ?_⟩
          exact ((((h1.1 c0).1 c1).2 c2).2.2 c3).2
    · exact ((h1.1 c0).2 c1)
  · show mm_b _ _ _ _ _ [some (.ref 46), some (.int x0), some (.int x1), none, none, none, none, none] [] ((fl, n1, n2, p, q, ad), I1, J1)
    show mm_wc d 256 [.ref 46, .int x1] ((fl, 0, 0, p, q, ad), I1, J1) _
    refine mm_wcm (h1.2 c0) ?_
    rintro v τ ⟨r2, I2, J2, rfl, rfl, h2⟩
    refine mm_r2' ⟨rfl, ?_⟩
    exact h2
theorem fx_258_70 {d : Nat} {a1 : Int32} {a2 : Int32} {a3 : Int64} {a5 : Int32} {fl : Nat → Bool} {n1 n2 : Nat} {p q : Bool} {ad : Nat → Nat} {I : mmI} {J : mmJ} {Q : mmQ} (h : mm_wc d 206 [.ref 46] ((fl, 0, 0, p, q, ad), I, J) (fun v τ => ∃ r1 I1 J1, v = some (.int r1) ∧ τ = ((fl, 0, 0, p, q, ad), I1, J1) ∧ ((r1 ≤ a5 → ((¬ a2 = (nI 1) → ((¬ a2 = (nI 2) → Q (some (.long a3)) ((fl, n1, n2, p, q, ad), I1, J1)) ∧ (a2 = (nI 2) → (vp_in a1 16384 ∧ Q (some (.long a3)) ((fl, n1, n2, p, q, ad), I1, (mm_upJ J1 64 a1.toNatClampNeg a3)))))) ∧ (a2 = (nI 1) → (vp_in a1 16384 ∧ ((¬ a2 = (nI 2) → Q (some (.long a3)) ((fl, n1, n2, p, q, ad), I1, (mm_upJ J1 63 a1.toNatClampNeg a3))) ∧ (a2 = (nI 2) → (vp_in a1 16384 ∧ Q (some (.long a3)) ((fl, n1, n2, p, q, ad), I1, (mm_upJ (mm_upJ J1 63 a1.toNatClampNeg a3) 64 a1.toNatClampNeg a3))))))))) ∧ (¬ r1 ≤ a5 → mm_wc d 257 [.ref 46, .int a1, .int a5, .int a2] ((fl, 0, 0, p, q, ad), I1, J1) (fun v τ => ∃ r2 I2 J2, v = some (.long r2) ∧ τ = ((fl, 0, 0, p, q, ad), I2, J2) ∧ (((lg_cmp r2 a3) ≤ (nI 0) → mm_w Q (mm_wc d) bk_258 70 [some (.ref 46), some (.int a1), some (.int a2), some (.long a3), none, some (.int (a5 + (nI 1))), none, none] [] ((fl, n1, n2, p, q, ad), I2, J2)) ∧ (¬ (lg_cmp r2 a3) ≤ (nI 0) → mm_w Q (mm_wc d) bk_258 70 [some (.ref 46), some (.int a1), some (.int a2), some (.long r2), none, some (.int (a5 + (nI 1))), none, none] [] ((fl, n1, n2, p, q, ad), I2, J2)))))))) : mm_w Q (mm_wc (d)) bk_258 70 [some (.ref 46), some (.int a1), some (.int a2), some (.long a3), none, some (.int a5), none, none] [] ((fl, n1, n2, p, q, ad), I, J) := by
  refine mm_go [70] 80 ?_
  show mm_wc d 206 [.ref 46] ((fl, 0, 0, p, q, ad), I, J) _
  refine mm_wcm h ?_
  rintro v τ ⟨r1, I1, J1, rfl, rfl, h1⟩
  refine mm_r1' ⟨rfl, ?_⟩
  show mm_b _ _ _ _ _ [some (.ref 46), some (.int a1), some (.int a2), some (.long a3), none, some (.int a5), none, none] [.int r1, .int a5] ((fl, n1, n2, p, q, ad), I1, J1)
  show (r1 ≤ a5 → _) ∧ (¬ r1 ≤ a5 → _)
  refine ⟨fun c0 => ?_, fun c0 => ?_⟩
  · show mm_u _ _ _ _ _ _ [some (.ref 46), some (.int a1), some (.int a2), some (.long a3), none, some (.int a5), none, none] [] ((fl, n1, n2, p, q, ad), I1, J1)
    show (¬ a2 = (nI 1) → _) ∧ (a2 = (nI 1) → _)
    refine ⟨fun c1 => ?_, fun c1 => ?_⟩
    · show mm_u _ _ _ _ _ _ [some (.ref 46), some (.int a1), some (.int a2), some (.long a3), none, none, none, none] [] ((fl, n1, n2, p, q, ad), I1, J1)
      show (¬ a2 = (nI 2) → _) ∧ (a2 = (nI 2) → _)
      refine ⟨fun c2 => ?_, fun c2 => ?_⟩
      · exact (((h1.1 c0).1 c1).1 c2)
      · show mm_b _ _ _ _ _ [some (.ref 46), some (.int a1), some (.int a2), some (.long a3), none, none, none, none] [] ((fl, n1, n2, p, q, ad), I1, J1)
        show vp_in a1 16384 ∧ _
        refine ⟨(((h1.1 c0).1 c1).2 c2).1, ?_⟩
        exact (((h1.1 c0).1 c1).2 c2).2
    · show mm_b _ _ _ _ _ [some (.ref 46), some (.int a1), some (.int a2), some (.long a3), none, none, none, none] [] ((fl, n1, n2, p, q, ad), I1, J1)
      show vp_in a1 16384 ∧ _
      refine ⟨((h1.1 c0).2 c1).1, ?_⟩
      show mm_b _ _ _ _ _ [some (.ref 46), some (.int a1), some (.int a2), some (.long a3), none, none, none, none] [] ((fl, n1, n2, p, q, ad), I1, (mm_upJ J1 63 a1.toNatClampNeg a3))
      show (¬ a2 = (nI 2) → _) ∧ (a2 = (nI 2) → _)
      refine ⟨fun c2 => ?_, fun c2 => ?_⟩
      · exact (((h1.1 c0).2 c1).2.1 c2)
      · show mm_b _ _ _ _ _ [some (.ref 46), some (.int a1), some (.int a2), some (.long a3), none, none, none, none] [] ((fl, n1, n2, p, q, ad), I1, (mm_upJ J1 63 a1.toNatClampNeg a3))
        show vp_in a1 16384 ∧ _
        refine ⟨(((h1.1 c0).2 c1).2.2 c2).1, ?_⟩
        exact (((h1.1 c0).2 c1).2.2 c2).2
  · show mm_b _ _ _ _ _ [some (.ref 46), some (.int a1), some (.int a2), some (.long a3), none, some (.int a5), none, none] [] ((fl, n1, n2, p, q, ad), I1, J1)
    show mm_wc d 257 [.ref 46, .int a1, .int a5, .int a2] ((fl, 0, 0, p, q, ad), I1, J1) _
    refine mm_wcm (h1.2 c0) ?_
    rintro v τ ⟨r2, I2, J2, rfl, rfl, h2⟩
    refine mm_r2' ⟨rfl, ?_⟩
    show mm_b _ _ _ _ _ [some (.ref 46), some (.int a1), some (.int a2), some (.long a3), none, some (.int a5), none, none] [.long r2] ((fl, n1, n2, p, q, ad), I2, J2)
    show ((lg_cmp r2 a3) ≤ (nI 0) → _) ∧ (¬ (lg_cmp r2 a3) ≤ (nI 0) → _)
    refine ⟨fun c1 => ?_, fun c1 => ?_⟩
    · exact (h2.1 c1)
    · exact (h2.2 c1)
/- 259 ThreeBreathsModel forget -/
theorem fx_259 {d : Nat} {fl : Nat → Bool} {n1 n2 : Nat} {p q : Bool} {ad : Nat → Nat} {I : mmI} {J : mmJ} {Q : mmQ} (h : mm_wc d 224 [.ref 46] ((fl, 0, 0, p, q, ad), I, J) (fun v τ => ∃ I1 J1, v = none ∧ τ = ((fl, 0, 0, p, q, ad), I1, J1) ∧ mm_w Q (mm_wc d) bk_259 6 [some (.ref 46), some (.int (nI 0))] [] ((fl, n1, n2, p, q, ad), I1, J1))) : mm_wc (d + 1) 259 [.ref 46] ((fl, n1, n2, p, q, ad), I, J) Q := by
  refine mm_call (c := 259) rfl rfl ?_
  refine mm_go [6] 80 ?_
  show mm_wc d 224 [.ref 46] ((fl, 0, 0, p, q, ad), I, J) _
  refine mm_wcm h ?_
  rintro v τ ⟨I1, J1, rfl, rfl, h1⟩
  refine mm_r0' ⟨rfl, ?_⟩
  exact h1
theorem fx_259_6 {d : Nat} {a1 : Int32} {fl : Nat → Bool} {n1 n2 : Nat} {p q : Bool} {ad : Nat → Nat} {I : mmI} {J : mmJ} {Q : mmQ} (h : (((nI 16384) ≤ a1 → Q none ((fl, n1, n2, p, q, ad), I, J)) ∧ (¬ (nI 16384) ≤ a1 → (vp_in a1 16384 ∧ (vp_in a1 16384 ∧ mm_w Q (mm_wc d) bk_259 6 [some (.ref 46), some (.int (a1 + (nI 1)))] [] ((fl, n1, n2, p, q, ad), I, (mm_upJ (mm_upJ J 63 a1.toNatClampNeg (-1)) 64 a1.toNatClampNeg (-1)))))))) : mm_w Q (mm_wc (d)) bk_259 6 [some (.ref 46), some (.int a1)] [] ((fl, n1, n2, p, q, ad), I, J) := by
  refine mm_go [6] 80 ?_
  show ((nI 16384) ≤ a1 → _) ∧ (¬ (nI 16384) ≤ a1 → _)
  refine ⟨fun c0 => ?_, fun c0 => ?_⟩
  · exact (h.1 c0)
  · show mm_b _ _ _ _ _ [some (.ref 46), some (.int a1)] [] ((fl, n1, n2, p, q, ad), I, J)
    show vp_in a1 16384 ∧ _
    refine ⟨(h.2 c0).1, ?_⟩
    show mm_b _ _ _ _ _ [some (.ref 46), some (.int a1)] [] ((fl, n1, n2, p, q, ad), I, (mm_upJ J 63 a1.toNatClampNeg (-1)))
    show vp_in a1 16384 ∧ _
    refine ⟨(h.2 c0).2.1, ?_⟩
    exact (h.2 c0).2.2
/- 260 ThreeBreathsModel common -/
theorem fx_260 {d : Nat} {x0 : Int64} {x1 : Int64} {fl : Nat → Bool} {n1 n2 : Nat} {p q : Bool} {ad : Nat → Nat} {I : mmI} {J : mmJ} {Q : mmQ} (h : mm_w Q (mm_wc d) bk_260 6 [none, none, none, none, some (.long x0), none, some (.long x1), none, none, none] [] ((fl, n1, n2, p, q, ad), I, J)) : mm_wc (d + 1) 260 [.long x0, .long x1] ((fl, n1, n2, p, q, ad), I, J) Q := by
  refine mm_call (c := 260) rfl rfl ?_
  refine mm_go [6] 80 ?_
  exact h
theorem fx_260_6 {d : Nat} {a4 : Int64} {a6 : Int64} {fl : Nat → Bool} {n1 n2 : Nat} {p q : Bool} {ad : Nat → Nat} {I : mmI} {J : mmJ} {Q : mmQ} (h : (((lg_cmp a6 (lN 0)) = (nI 0) → Q (some (.long a4)) ((fl, n1, n2, p, q, ad), I, J)) ∧ (¬ (lg_cmp a6 (lN 0)) = (nI 0) → (¬ a6 = 0 ∧ mm_w Q (mm_wc d) bk_260 6 [none, none, none, none, some (.long a6), none, some (.long (a4 - a4 / a6 * a6)), none, none, none] [] ((fl, n1, n2, p, q, ad), I, J))))) : mm_w Q (mm_wc (d)) bk_260 6 [none, none, none, none, some (.long a4), none, some (.long a6), none, none, none] [] ((fl, n1, n2, p, q, ad), I, J) := by
  refine mm_go [6] 80 ?_
  show ((lg_cmp a6 (lN 0)) = (nI 0) → _) ∧ (¬ (lg_cmp a6 (lN 0)) = (nI 0) → _)
  refine ⟨fun c0 => ?_, fun c0 => ?_⟩
  · exact (h.1 c0)
  · show mm_b _ _ _ _ _ [none, none, none, none, some (.long a4), none, some (.long a6), none, none, none] [] ((fl, n1, n2, p, q, ad), I, J)
    show ¬ a6 = 0 ∧ _
    refine ⟨(h.2 c0).1, ?_⟩
    exact (h.2 c0).2
/- 261 ThreeBreathsModel countWhy -/
theorem fx_261 {d : Nat} {x0 : Int32} {x1 : Int32} {fl : Nat → Bool} {n1 n2 : Nat} {p q : Bool} {ad : Nat → Nat} {I : mmI} {J : mmJ} {Q : mmQ} (h : ((¬ (I 46 14) = (nI 0) → mm_wc d 169 [.int x0, .int (nI 1), .int x1] ((fl, 0, 0, p, q, ad), I, J) (fun v τ => ∃ r1 I1 J1, v = some (.int r1) ∧ τ = ((fl, 0, 0, p, q, ad), I1, J1) ∧ ((r1 = (nI 0) → Q (some (.int (nI 2))) ((fl, n1, n2, p, q, ad), I1, J1)) ∧ (¬ r1 = (nI 0) → Q (some (.int (nI 0))) ((fl, n1, n2, p, q, ad), I1, J1))))) ∧ ((I 46 14) = (nI 0) → Q (some (.int (nI 1))) ((fl, n1, n2, p, q, ad), I, J)))) : mm_wc (d + 1) 261 [.ref 46, .int x0, .int x1] ((fl, n1, n2, p, q, ad), I, J) Q := by
  refine mm_call (c := 261) rfl rfl ?_
  refine mm_go [] 80 ?_
  show (¬ (I 46 14) = (nI 0) → _) ∧ ((I 46 14) = (nI 0) → _)
  refine ⟨fun c0 => ?_, fun c0 => ?_⟩
  · show mm_u _ _ _ _ _ _ [some (.ref 46), some (.int x0), some (.int x1)] [] ((fl, n1, n2, p, q, ad), I, J)
    show mm_wc d 169 [.int x0, .int (nI 1), .int x1] ((fl, 0, 0, p, q, ad), I, J) _
    refine mm_wcm (h.1 c0) ?_
    rintro v τ ⟨r1, I1, J1, rfl, rfl, h1⟩
    refine mm_r1' ⟨rfl, ?_⟩
    show mm_b _ _ _ _ _ [none, some (.int x0), some (.int x1)] [.int r1] ((fl, n1, n2, p, q, ad), I1, J1)
    show (r1 = (nI 0) → _) ∧ (¬ r1 = (nI 0) → _)
    refine ⟨fun c1 => ?_, fun c1 => ?_⟩
    · exact (h1.1 c1)
    · exact (h1.2 c1)
  · exact (h.2 c0)
/- 262 ThreeBreathsModel chance -/
theorem fx_262 {d : Nat} {x0 : Int32} {x1 : Int32} {fl : Nat → Bool} {n1 n2 : Nat} {p q : Bool} {ad : Nat → Nat} {I : mmI} {J : mmJ} {Q : mmQ} (h : mm_wc d 166 [.ref 46] ((fl, 0, 0, p, q, ad), I, J) (fun v τ => ∃ I1 J1, v = none ∧ τ = ((fl, 0, 0, p, q, ad), I1, J1) ∧ mm_wc d 261 [.ref 46, .int x0, .int (nI 3)] ((fl, 0, 0, p, q, ad), I1, J1) (fun v τ => ∃ r2 I2 J2, v = some (.int r2) ∧ τ = ((fl, 0, 0, p, q, ad), I2, J2) ∧ ((r2 = (nI 0) → mm_wc d 259 [.ref 46] ((fl, 0, 0, p, q, ad), I2, J2) (fun v τ => ∃ I3 J3, v = none ∧ τ = ((fl, 0, 0, p, q, ad), I3, J3) ∧ mm_wc d 235 [.ref 46, .int (I3 46 17), .int (I3 46 18)] ((fl, 0, 0, p, q, ad), I3, J3) (fun v τ => ∃ r4 I4 J4, v = some (.int r4) ∧ τ = ((fl, 0, 0, p, q, ad), I4, J4) ∧ mm_wc d 258 [.ref 46, .int r4, .int x0] ((fl, 0, 0, p, q, ad), I4, J4) (fun v τ => ∃ r5 I5 J5, v = some (.long r5) ∧ τ = ((fl, 0, 0, p, q, ad), I5, J5) ∧ mm_wc d 256 [.ref 46, .int x0] ((fl, 0, 0, p, q, ad), I5, J5) (fun v τ => ∃ r6 I6 J6, v = some (.long r6) ∧ τ = ((fl, 0, 0, p, q, ad), I6, J6) ∧ mm_wc d 260 [.long r5, .long r6] ((fl, 0, 0, p, q, ad), I6, J6) (fun v τ => ∃ r7 I7 J7, v = some (.long r7) ∧ τ = ((fl, 0, 0, p, q, ad), I7, J7) ∧ ((x1 = (nI 0) → (¬ r7 = 0 ∧ Q (some (.long (r5 / r7))) ((fl, n1, n2, p, q, ad), I7, J7))) ∧ (¬ x1 = (nI 0) → mm_wc d 256 [.ref 46, .int x0] ((fl, 0, 0, p, q, ad), I7, J7) (fun v τ => ∃ r8 I8 J8, v = some (.long r8) ∧ τ = ((fl, 0, 0, p, q, ad), I8, J8) ∧ (¬ r7 = 0 ∧ Q (some (.long (r8 / r7))) ((fl, n1, n2, p, q, ad), I8, J8))))))))))) ∧ (¬ r2 = (nI 0) → mm_wc d 167 [.ref 46, .int r2] ((fl, 0, 0, p, q, ad), I2, J2) (fun v τ => ∃ r9 I9 J9, v = some (.int r9) ∧ τ = ((fl, 0, 0, p, q, ad), I9, J9) ∧ Q (some (.long (Int32.toInt64 r9))) ((fl, n1, n2, p, q, ad), I9, J9))))))) : mm_wc (d + 1) 262 [.ref 46, .int x0, .int x1] ((fl, n1, n2, p, q, ad), I, J) Q := by
  refine mm_call (c := 262) rfl rfl ?_
  refine mm_go [] 80 ?_
  show mm_wc d 166 [.ref 46] ((fl, 0, 0, p, q, ad), I, J) _
  refine mm_wcm h ?_
  rintro v τ ⟨I1, J1, rfl, rfl, h1⟩
  refine mm_r0' ⟨rfl, ?_⟩
  show mm_b _ _ _ _ _ [some (.ref 46), some (.int x0), some (.int x1), none, none, none, none, none] [] ((fl, n1, n2, p, q, ad), I1, J1)
  show mm_wc d 261 [.ref 46, .int x0, .int (nI 3)] ((fl, 0, 0, p, q, ad), I1, J1) _
  refine mm_wcm h1 ?_
  rintro v τ ⟨r2, I2, J2, rfl, rfl, h2⟩
  refine mm_r1' ⟨rfl, ?_⟩
  show mm_b _ _ _ _ _ [some (.ref 46), some (.int x0), some (.int x1), none, none, none, none, none] [.int r2] ((fl, n1, n2, p, q, ad), I2, J2)
  show (r2 = (nI 0) → _) ∧ (¬ r2 = (nI 0) → _)
  refine ⟨fun c0 => ?_, fun c0 => ?_⟩
  · show mm_u _ _ _ _ _ _ [some (.ref 46), some (.int x0), some (.int x1), some (.int r2), none, none, none, none] [] ((fl, n1, n2, p, q, ad), I2, J2)
    show mm_wc d 259 [.ref 46] ((fl, 0, 0, p, q, ad), I2, J2) _
    refine mm_wcm (h2.1 c0) ?_
    rintro v τ ⟨I3, J3, rfl, rfl, h3⟩
    refine mm_r0' ⟨rfl, ?_⟩
    show mm_b _ _ _ _ _ [some (.ref 46), some (.int x0), some (.int x1), none, none, none, none, none] [] ((fl, n1, n2, p, q, ad), I3, J3)
    show mm_wc d 235 [.ref 46, .int (I3 46 17), .int (I3 46 18)] ((fl, 0, 0, p, q, ad), I3, J3) _
    refine mm_wcm h3 ?_
    rintro v τ ⟨r4, I4, J4, rfl, rfl, h4⟩
    refine mm_r1' ⟨rfl, ?_⟩
    show mm_b _ _ _ _ _ [some (.ref 46), some (.int x0), some (.int x1), none, none, none, none, none] [.int r4, .ref 46] ((fl, n1, n2, p, q, ad), I4, J4)
    show mm_wc d 258 [.ref 46, .int r4, .int x0] ((fl, 0, 0, p, q, ad), I4, J4) _
    refine mm_wcm h4 ?_
    rintro v τ ⟨r5, I5, J5, rfl, rfl, h5⟩
    refine mm_r2' ⟨rfl, ?_⟩
    show mm_b _ _ _ _ _ [some (.ref 46), some (.int x0), some (.int x1), none, none, none, none, none] [.long r5] ((fl, n1, n2, p, q, ad), I5, J5)
    show mm_wc d 256 [.ref 46, .int x0] ((fl, 0, 0, p, q, ad), I5, J5) _
    refine mm_wcm h5 ?_
    rintro v τ ⟨r6, I6, J6, rfl, rfl, h6⟩
    refine mm_r2' ⟨rfl, ?_⟩
    show mm_b _ _ _ _ _ [some (.ref 46), some (.int x0), some (.int x1), none, some (.long r5), none, none, none] [.long r6, .long r5] ((fl, n1, n2, p, q, ad), I6, J6)
    show mm_wc d 260 [.long r5, .long r6] ((fl, 0, 0, p, q, ad), I6, J6) _
    refine mm_wcm h6 ?_
    rintro v τ ⟨r7, I7, J7, rfl, rfl, h7⟩
    refine mm_r2' ⟨rfl, ?_⟩
    show mm_b _ _ _ _ _ [some (.ref 46), some (.int x0), some (.int x1), none, some (.long r5), none, none, none] [.long r7] ((fl, n1, n2, p, q, ad), I7, J7)
    show (x1 = (nI 0) → _) ∧ (¬ x1 = (nI 0) → _)
    refine ⟨fun c1 => ?_, fun c1 => ?_⟩
    · show mm_u _ _ _ _ _ _ [some (.ref 46), some (.int x0), some (.int x1), none, some (.long r5), none, some (.long r7), none] [] ((fl, n1, n2, p, q, ad), I7, J7)
      show ¬ r7 = 0 ∧ _
      refine ⟨(h7.1 c1).1, ?_⟩
      exact (h7.1 c1).2
    · show mm_b _ _ _ _ _ [some (.ref 46), some (.int x0), some (.int x1), none, some (.long r5), none, some (.long r7), none] [] ((fl, n1, n2, p, q, ad), I7, J7)
      show mm_wc d 256 [.ref 46, .int x0] ((fl, 0, 0, p, q, ad), I7, J7) _
      refine mm_wcm (h7.2 c1) ?_
      rintro v τ ⟨r8, I8, J8, rfl, rfl, h8⟩
      refine mm_r2' ⟨rfl, ?_⟩
      show mm_b _ _ _ _ _ [some (.ref 46), some (.int x0), some (.int x1), none, some (.long r5), none, some (.long r7), none] [.long r8] ((fl, n1, n2, p, q, ad), I8, J8)
      show ¬ r7 = 0 ∧ _
      refine ⟨h8.1, ?_⟩
      exact h8.2
  · show mm_b _ _ _ _ _ [some (.ref 46), some (.int x0), some (.int x1), some (.int r2), none, none, none, none] [] ((fl, n1, n2, p, q, ad), I2, J2)
    show mm_wc d 167 [.ref 46, .int r2] ((fl, 0, 0, p, q, ad), I2, J2) _
    refine mm_wcm (h2.2 c0) ?_
    rintro v τ ⟨r9, I9, J9, rfl, rfl, h9⟩
    refine mm_r1' ⟨rfl, ?_⟩
    exact h9
/- 263 ThreeBreathsModel contentBy -/
theorem fx_263 {d : Nat} {x0 : Int32} {x1 : Int32} {x2 : Int32} {fl : Nat → Bool} {n1 n2 : Nat} {p q : Bool} {ad : Nat → Nat} {I : mmI} {J : mmJ} {Q : mmQ} (h : mm_w Q (mm_wc d) bk_263 6 [some (.ref 46), some (.int x0), some (.int x1), some (.int x2), some (.long (lN 0)), none, some (.int (nI 0)), none] [] ((fl, n1, n2, p, q, ad), I, J)) : mm_wc (d + 1) 263 [.ref 46, .int x0, .int x1, .int x2] ((fl, n1, n2, p, q, ad), I, J) Q := by
  refine mm_call (c := 263) rfl rfl ?_
  refine mm_go [6] 80 ?_
  exact h
theorem fx_263_6 {d : Nat} {a1 : Int32} {a2 : Int32} {a3 : Int32} {a4 : Int64} {a6 : Int32} {fl : Nat → Bool} {n1 n2 : Nat} {p q : Bool} {ad : Nat → Nat} {I : mmI} {J : mmJ} {Q : mmQ} (h : (((nI 3) ≤ a6 → Q (some (.long a4)) ((fl, n1, n2, p, q, ad), I, J)) ∧ (¬ (nI 3) ≤ a6 → mm_wc d 255 [.ref 46, .int a6] ((fl, 0, 0, p, q, ad), I, J) (fun v τ => ∃ r1 I1 J1, v = some (.int r1) ∧ τ = ((fl, 0, 0, p, q, ad), I1, J1) ∧ ((r1 ≤ (nI 0) → mm_w Q (mm_wc d) bk_263 6 [some (.ref 46), some (.int a1), some (.int a2), some (.int a3), some (.long a4), none, some (.int (a6 + (nI 1))), none] [] ((fl, n1, n2, p, q, ad), I1, J1)) ∧ (¬ r1 ≤ (nI 0) → mm_wc d 255 [.ref 46, .int a6] ((fl, 0, 0, p, q, ad), I1, J1) (fun v τ => ∃ r2 I2 J2, v = some (.int r2) ∧ τ = ((fl, 0, 0, p, q, ad), I2, J2) ∧ mm_wc d 238 [.ref 46, .int a1, .int (((a2 / (nI 16)) * (nI 16)) + ((((a2 - a2 / (nI 16) * (nI 16)) + a6) + (nI 15)) - (((a2 - a2 / (nI 16) * (nI 16)) + a6) + (nI 15)) / (nI 16) * (nI 16)))] ((fl, 0, 0, p, q, ad), I2, J2) (fun v τ => ∃ r3 I3 J3, v = some (.int r3) ∧ τ = ((fl, 0, 0, p, q, ad), I3, J3) ∧ mm_wc d 264 [.ref 46, .int r3, .int (a3 - (nI 1))] ((fl, 0, 0, p, q, ad), I3, J3) (fun v τ => ∃ r4 I4 J4, v = some (.long r4) ∧ τ = ((fl, 0, 0, p, q, ad), I4, J4) ∧ mm_w Q (mm_wc d) bk_263 6 [some (.ref 46), some (.int a1), some (.int a2), some (.int a3), some (.long (a4 + ((Int32.toInt64 r2) * r4))), none, some (.int (a6 + (nI 1))), none] [] ((fl, n1, n2, p, q, ad), I4, J4)))))))))) : mm_w Q (mm_wc (d)) bk_263 6 [some (.ref 46), some (.int a1), some (.int a2), some (.int a3), some (.long a4), none, some (.int a6), none] [] ((fl, n1, n2, p, q, ad), I, J) := by
  refine mm_go [6] 80 ?_
  show ((nI 3) ≤ a6 → _) ∧ (¬ (nI 3) ≤ a6 → _)
  refine ⟨fun c0 => ?_, fun c0 => ?_⟩
  · exact (h.1 c0)
  · show mm_b _ _ _ _ _ [some (.ref 46), some (.int a1), some (.int a2), some (.int a3), some (.long a4), none, some (.int a6), none] [] ((fl, n1, n2, p, q, ad), I, J)
    show (¬ ((nI 16) : Int32) = 0) ∧ _
    refine ⟨(by decide), ?_⟩
    show mm_b _ _ _ _ _ [some (.ref 46), some (.int a1), some (.int a2), some (.int a3), some (.long a4), none, some (.int a6), none] [.int (a2 / (nI 16))] ((fl, n1, n2, p, q, ad), I, J)
    show (¬ ((nI 16) : Int32) = 0) ∧ _
    refine ⟨(by decide), ?_⟩
    show mm_b _ _ _ _ _ [some (.ref 46), some (.int a1), some (.int a2), some (.int a3), some (.long a4), none, some (.int a6), none] [.int (a2 - a2 / (nI 16) * (nI 16)), .int ((a2 / (nI 16)) * (nI 16))] ((fl, n1, n2, p, q, ad), I, J)
    show (¬ ((nI 16) : Int32) = 0) ∧ _
    refine ⟨(by decide), ?_⟩
    show mm_b _ _ _ _ _ [some (.ref 46), some (.int a1), some (.int a2), some (.int a3), some (.long a4), none, some (.int a6), none] [.int ((((a2 - a2 / (nI 16) * (nI 16)) + a6) + (nI 15)) - (((a2 - a2 / (nI 16) * (nI 16)) + a6) + (nI 15)) / (nI 16) * (nI 16)), .int ((a2 / (nI 16)) * (nI 16))] ((fl, n1, n2, p, q, ad), I, J)
    show mm_wc d 255 [.ref 46, .int a6] ((fl, 0, 0, p, q, ad), I, J) _
    refine mm_wcm (h.2 c0) ?_
    rintro v τ ⟨r1, I1, J1, rfl, rfl, h1⟩
    refine mm_r1' ⟨rfl, ?_⟩
    show mm_b _ _ _ _ _ [some (.ref 46), some (.int a1), some (.int a2), some (.int a3), some (.long a4), none, some (.int a6), some (.int (((a2 / (nI 16)) * (nI 16)) + ((((a2 - a2 / (nI 16) * (nI 16)) + a6) + (nI 15)) - (((a2 - a2 / (nI 16) * (nI 16)) + a6) + (nI 15)) / (nI 16) * (nI 16))))] [.int r1] ((fl, n1, n2, p, q, ad), I1, J1)
    show (r1 ≤ (nI 0) → _) ∧ (¬ r1 ≤ (nI 0) → _)
    refine ⟨fun c1 => ?_, fun c1 => ?_⟩
    · exact (h1.1 c1)
    · show mm_b _ _ _ _ _ [some (.ref 46), some (.int a1), some (.int a2), some (.int a3), some (.long a4), none, some (.int a6), some (.int (((a2 / (nI 16)) * (nI 16)) + ((((a2 - a2 / (nI 16) * (nI 16)) + a6) + (nI 15)) - (((a2 - a2 / (nI 16) * (nI 16)) + a6) + (nI 15)) / (nI 16) * (nI 16))))] [] ((fl, n1, n2, p, q, ad), I1, J1)
      show mm_wc d 255 [.ref 46, .int a6] ((fl, 0, 0, p, q, ad), I1, J1) _
      refine mm_wcm (h1.2 c1) ?_
      rintro v τ ⟨r2, I2, J2, rfl, rfl, h2⟩
      refine mm_r1' ⟨rfl, ?_⟩
      show mm_b _ _ _ _ _ [some (.ref 46), some (.int a1), some (.int a2), some (.int a3), some (.long a4), none, some (.int a6), some (.int (((a2 / (nI 16)) * (nI 16)) + ((((a2 - a2 / (nI 16) * (nI 16)) + a6) + (nI 15)) - (((a2 - a2 / (nI 16) * (nI 16)) + a6) + (nI 15)) / (nI 16) * (nI 16))))] [.int r2, .long a4] ((fl, n1, n2, p, q, ad), I2, J2)
      show mm_wc d 238 [.ref 46, .int a1, .int (((a2 / (nI 16)) * (nI 16)) + ((((a2 - a2 / (nI 16) * (nI 16)) + a6) + (nI 15)) - (((a2 - a2 / (nI 16) * (nI 16)) + a6) + (nI 15)) / (nI 16) * (nI 16)))] ((fl, 0, 0, p, q, ad), I2, J2) _
      refine mm_wcm h2 ?_
      rintro v τ ⟨r3, I3, J3, rfl, rfl, h3⟩
      refine mm_r1' ⟨rfl, ?_⟩
      show mm_b _ _ _ _ _ [some (.ref 46), some (.int a1), some (.int a2), some (.int a3), some (.long a4), none, some (.int a6), some (.int (((a2 / (nI 16)) * (nI 16)) + ((((a2 - a2 / (nI 16) * (nI 16)) + a6) + (nI 15)) - (((a2 - a2 / (nI 16) * (nI 16)) + a6) + (nI 15)) / (nI 16) * (nI 16))))] [.int r3, .ref 46, .long (Int32.toInt64 r2), .long a4] ((fl, n1, n2, p, q, ad), I3, J3)
      show mm_wc d 264 [.ref 46, .int r3, .int (a3 - (nI 1))] ((fl, 0, 0, p, q, ad), I3, J3) _
      refine mm_wcm h3 ?_
      rintro v τ ⟨r4, I4, J4, rfl, rfl, h4⟩
      refine mm_r2' ⟨rfl, ?_⟩
      exact h4
/- 264 ThreeBreathsModel contentOf -/
theorem fx_264 {d : Nat} {x0 : Int32} {x1 : Int32} {fl : Nat → Bool} {n1 n2 : Nat} {p q : Bool} {ad : Nat → Nat} {I : mmI} {J : mmJ} {Q : mmQ} (h : mm_wc d 237 [.int x0] ((fl, 0, 0, p, q, ad), I, J) (fun v τ => ∃ r1 I1 J1, v = some (.int r1) ∧ τ = ((fl, 0, 0, p, q, ad), I1, J1) ∧ mm_wc d 171 [.int r1] ((fl, 0, 0, p, q, ad), I1, J1) (fun v τ => ∃ r2 I2 J2, v = some (.int r2) ∧ τ = ((fl, 0, 0, p, q, ad), I2, J2) ∧ mm_wc d 256 [.ref 46, .int x1] ((fl, 0, 0, p, q, ad), I2, J2) (fun v τ => ∃ r3 I3 J3, v = some (.long r3) ∧ τ = ((fl, 0, 0, p, q, ad), I3, J3) ∧ ((x1 = (nI 0) → Q (some (.long ((Int32.toInt64 r2) * r3))) ((fl, n1, n2, p, q, ad), I3, J3)) ∧ (¬ x1 = (nI 0) → ((¬ (lg_cmp ((Int32.toInt64 r2) * r3) (lN 0)) = (nI 0) → ((¬ x1 = (nI 1) → ((¬ x1 = (nI 2) → mm_w Q (mm_wc d) bk_264 76 [some (.ref 46), some (.int x0), some (.int x1), some (.long ((Int32.toInt64 r2) * r3)), none, some (.int (nI 0)), none, none] [] ((fl, n1, n2, p, q, ad), I3, J3)) ∧ (x1 = (nI 2) → (vp_in x0 16384 ∧ (((lg_cmp (J3 64 x0.toNatClampNeg) (lN 0)) < (nI 0) → mm_w Q (mm_wc d) bk_264 76 [some (.ref 46), some (.int x0), some (.int x1), some (.long ((Int32.toInt64 r2) * r3)), none, some (.int (nI 0)), none, none] [] ((fl, n1, n2, p, q, ad), I3, J3)) ∧ (¬ (lg_cmp (J3 64 x0.toNatClampNeg) (lN 0)) < (nI 0) → (vp_in x0 16384 ∧ Q (some (.long (J3 64 x0.toNatClampNeg))) ((fl, n1, n2, p, q, ad), I3, J3)))))))) ∧ (x1 = (nI 1) → (vp_in x0 16384 ∧ (((lg_cmp (J3 63 x0.toNatClampNeg) (lN 0)) < (nI 0) → ((¬ x1 = (nI 2) → mm_w Q (mm_wc d) bk_264 76 [some (.ref 46), some (.int x0), some (.int x1), some (.long ((Int32.toInt64 r2) * r3)), none, some (.int (nI 0)), none, none] [] ((fl, n1, n2, p, q, ad), I3, J3)) ∧ (x1 = (nI 2) → (vp_in x0 16384 ∧ (((lg_cmp (J3 64 x0.toNatClampNeg) (lN 0)) < (nI 0) → mm_w Q (mm_wc d) bk_264 76 [some (.ref 46), some (.int x0), some (.int x1), some (.long ((Int32.toInt64 r2) * r3)), none, some (.int (nI 0)), none, none] [] ((fl, n1, n2, p, q, ad), I3, J3)) ∧ (¬ (lg_cmp (J3 64 x0.toNatClampNeg) (lN 0)) < (nI 0) → (vp_in x0 16384 ∧ Q (some (.long (J3 64 x0.toNatClampNeg))) ((fl, n1, n2, p, q, ad), I3, J3)))))))) ∧ (¬ (lg_cmp (J3 63 x0.toNatClampNeg) (lN 0)) < (nI 0) → (vp_in x0 16384 ∧ Q (some (.long (J3 63 x0.toNatClampNeg))) ((fl, n1, n2, p, q, ad), I3, J3)))))))) ∧ ((lg_cmp ((Int32.toInt64 r2) * r3) (lN 0)) = (nI 0) → Q (some (.long ((Int32.toInt64 r2) * r3))) ((fl, n1, n2, p, q, ad), I3, J3))))))))) : mm_wc (d + 1) 264 [.ref 46, .int x0, .int x1] ((fl, n1, n2, p, q, ad), I, J) Q := by
  refine mm_call (c := 264) rfl rfl ?_
  refine mm_go [76] 80 ?_
  show mm_wc d 237 [.int x0] ((fl, 0, 0, p, q, ad), I, J) _
  refine mm_wcm h ?_
  rintro v τ ⟨r1, I1, J1, rfl, rfl, h1⟩
  refine mm_r1' ⟨rfl, ?_⟩
  show mm_b _ _ _ _ _ [some (.ref 46), some (.int x0), some (.int x1), none, none, none, none, none] [.int r1] ((fl, n1, n2, p, q, ad), I1, J1)
  show mm_wc d 171 [.int r1] ((fl, 0, 0, p, q, ad), I1, J1) _
  refine mm_wcm h1 ?_
  rintro v τ ⟨r2, I2, J2, rfl, rfl, h2⟩
  refine mm_r1' ⟨rfl, ?_⟩
  show mm_b _ _ _ _ _ [some (.ref 46), some (.int x0), some (.int x1), none, none, none, none, none] [.int r2] ((fl, n1, n2, p, q, ad), I2, J2)
  show mm_wc d 256 [.ref 46, .int x1] ((fl, 0, 0, p, q, ad), I2, J2) _
  refine mm_wcm h2 ?_
  rintro v τ ⟨r3, I3, J3, rfl, rfl, h3⟩
  refine mm_r2' ⟨rfl, ?_⟩
  show mm_b _ _ _ _ _ [some (.ref 46), some (.int x0), some (.int x1), none, none, none, none, none] [.long r3, .long (Int32.toInt64 r2)] ((fl, n1, n2, p, q, ad), I3, J3)
  show (x1 = (nI 0) → _) ∧ (¬ x1 = (nI 0) → _)
  refine ⟨fun c0 => ?_, fun c0 => ?_⟩
  · exact (h3.1 c0)
  · show mm_b _ _ _ _ _ [some (.ref 46), some (.int x0), some (.int x1), some (.long ((Int32.toInt64 r2) * r3)), none, none, none, none] [] ((fl, n1, n2, p, q, ad), I3, J3)
    show (¬ (lg_cmp ((Int32.toInt64 r2) * r3) (lN 0)) = (nI 0) → _) ∧ ((lg_cmp ((Int32.toInt64 r2) * r3) (lN 0)) = (nI 0) → _)
    refine ⟨fun c1 => ?_, fun c1 => ?_⟩
    · show mm_u _ _ _ _ _ _ [some (.ref 46), some (.int x0), some (.int x1), some (.long ((Int32.toInt64 r2) * r3)), none, none, none, none] [] ((fl, n1, n2, p, q, ad), I3, J3)
      show (¬ x1 = (nI 1) → _) ∧ (x1 = (nI 1) → _)
      refine ⟨fun c2 => ?_, fun c2 => ?_⟩
      · show mm_u _ _ _ _ _ _ [some (.ref 46), some (.int x0), some (.int x1), some (.long ((Int32.toInt64 r2) * r3)), none, none, none, none] [] ((fl, n1, n2, p, q, ad), I3, J3)
        show (¬ x1 = (nI 2) → _) ∧ (x1 = (nI 2) → _)
        refine ⟨fun c3 => ?_, fun c3 => ?_⟩
        · exact ((((h3.2 c0).1 c1).1 c2).1 c3)
        · show mm_b _ _ _ _ _ [some (.ref 46), some (.int x0), some (.int x1), some (.long ((Int32.toInt64 r2) * r3)), none, none, none, none] [] ((fl, n1, n2, p, q, ad), I3, J3)
          show vp_in x0 16384 ∧ _
          refine ⟨((((h3.2 c0).1 c1).1 c2).2 c3).1, ?_⟩
          show mm_b _ _ _ _ _ [some (.ref 46), some (.int x0), some (.int x1), some (.long ((Int32.toInt64 r2) * r3)), none, none, none, none] [.long (J3 64 x0.toNatClampNeg)] ((fl, n1, n2, p, q, ad), I3, J3)
          show ((lg_cmp (J3 64 x0.toNatClampNeg) (lN 0)) < (nI 0) → _) ∧ (¬ (lg_cmp (J3 64 x0.toNatClampNeg) (lN 0)) < (nI 0) → _)
          refine ⟨fun c4 => ?_, fun c4 => ?_⟩
          · exact (((((h3.2 c0).1 c1).1 c2).2 c3).2.1 c4)
          · show mm_b _ _ _ _ _ [some (.ref 46), some (.int x0), some (.int x1), some (.long ((Int32.toInt64 r2) * r3)), none, none, none, none] [] ((fl, n1, n2, p, q, ad), I3, J3)
            show vp_in x0 16384 ∧ _
            refine ⟨(((((h3.2 c0).1 c1).1 c2).2 c3).2.2 c4).1, ?_⟩
            exact (((((h3.2 c0).1 c1).1 c2).2 c3).2.2 c4).2
      · show mm_b _ _ _ _ _ [some (.ref 46), some (.int x0), some (.int x1), some (.long ((Int32.toInt64 r2) * r3)), none, none, none, none] [] ((fl, n1, n2, p, q, ad), I3, J3)
        show vp_in x0 16384 ∧ _
        refine ⟨(((h3.2 c0).1 c1).2 c2).1, ?_⟩
        show mm_b _ _ _ _ _ [some (.ref 46), some (.int x0), some (.int x1), some (.long ((Int32.toInt64 r2) * r3)), none, none, none, none] [.long (J3 63 x0.toNatClampNeg)] ((fl, n1, n2, p, q, ad), I3, J3)
        show ((lg_cmp (J3 63 x0.toNatClampNeg) (lN 0)) < (nI 0) → _) ∧ (¬ (lg_cmp (J3 63 x0.toNatClampNeg) (lN 0)) < (nI 0) → _)
        refine ⟨fun c3 => ?_, fun c3 => ?_⟩
        · show mm_u _ _ _ _ _ _ [some (.ref 46), some (.int x0), some (.int x1), some (.long ((Int32.toInt64 r2) * r3)), none, none, none, none] [] ((fl, n1, n2, p, q, ad), I3, J3)
          show (¬ x1 = (nI 2) → _) ∧ (x1 = (nI 2) → _)
          refine ⟨fun c4 => ?_, fun c4 => ?_⟩
          · exact (((((h3.2 c0).1 c1).2 c2).2.1 c3).1 c4)
          · show mm_b _ _ _ _ _ [some (.ref 46), some (.int x0), some (.int x1), some (.long ((Int32.toInt64 r2) * r3)), none, none, none, none] [] ((fl, n1, n2, p, q, ad), I3, J3)
            show vp_in x0 16384 ∧ _
            refine ⟨(((((h3.2 c0).1 c1).2 c2).2.1 c3).2 c4).1, ?_⟩
            show mm_b _ _ _ _ _ [some (.ref 46), some (.int x0), some (.int x1), some (.long ((Int32.toInt64 r2) * r3)), none, none, none, none] [.long (J3 64 x0.toNatClampNeg)] ((fl, n1, n2, p, q, ad), I3, J3)
            show ((lg_cmp (J3 64 x0.toNatClampNeg) (lN 0)) < (nI 0) → _) ∧ (¬ (lg_cmp (J3 64 x0.toNatClampNeg) (lN 0)) < (nI 0) → _)
            refine ⟨fun c5 => ?_, fun c5 => ?_⟩
            · exact ((((((h3.2 c0).1 c1).2 c2).2.1 c3).2 c4).2.1 c5)
            · show mm_b _ _ _ _ _ [some (.ref 46), some (.int x0), some (.int x1), some (.long ((Int32.toInt64 r2) * r3)), none, none, none, none] [] ((fl, n1, n2, p, q, ad), I3, J3)
              show vp_in x0 16384 ∧ _
              refine ⟨((((((h3.2 c0).1 c1).2 c2).2.1 c3).2 c4).2.2 c5).1, ?_⟩
              exact ((((((h3.2 c0).1 c1).2 c2).2.1 c3).2 c4).2.2 c5).2
        · show mm_b _ _ _ _ _ [some (.ref 46), some (.int x0), some (.int x1), some (.long ((Int32.toInt64 r2) * r3)), none, none, none, none] [] ((fl, n1, n2, p, q, ad), I3, J3)
          show vp_in x0 16384 ∧ _
          refine ⟨((((h3.2 c0).1 c1).2 c2).2.2 c3).1, ?_⟩
          exact ((((h3.2 c0).1 c1).2 c2).2.2 c3).2
    · exact ((h3.2 c0).2 c1)
theorem fx_264_76 {d : Nat} {a1 : Int32} {a2 : Int32} {a3 : Int64} {a5 : Int32} {fl : Nat → Bool} {n1 n2 : Nat} {p q : Bool} {ad : Nat → Nat} {I : mmI} {J : mmJ} {Q : mmQ} (h : mm_wc d 206 [.ref 46] ((fl, 0, 0, p, q, ad), I, J) (fun v τ => ∃ r1 I1 J1, v = some (.int r1) ∧ τ = ((fl, 0, 0, p, q, ad), I1, J1) ∧ ((r1 ≤ a5 → ((¬ a2 = (nI 1) → ((¬ a2 = (nI 2) → Q (some (.long a3)) ((fl, n1, n2, p, q, ad), I1, J1)) ∧ (a2 = (nI 2) → (vp_in a1 16384 ∧ Q (some (.long a3)) ((fl, n1, n2, p, q, ad), I1, (mm_upJ J1 64 a1.toNatClampNeg a3)))))) ∧ (a2 = (nI 1) → (vp_in a1 16384 ∧ ((¬ a2 = (nI 2) → Q (some (.long a3)) ((fl, n1, n2, p, q, ad), I1, (mm_upJ J1 63 a1.toNatClampNeg a3))) ∧ (a2 = (nI 2) → (vp_in a1 16384 ∧ Q (some (.long a3)) ((fl, n1, n2, p, q, ad), I1, (mm_upJ (mm_upJ J1 63 a1.toNatClampNeg a3) 64 a1.toNatClampNeg a3))))))))) ∧ (¬ r1 ≤ a5 → mm_wc d 263 [.ref 46, .int a1, .int a5, .int a2] ((fl, 0, 0, p, q, ad), I1, J1) (fun v τ => ∃ r2 I2 J2, v = some (.long r2) ∧ τ = ((fl, 0, 0, p, q, ad), I2, J2) ∧ (((nI 0) ≤ (lg_cmp r2 a3) → mm_w Q (mm_wc d) bk_264 76 [some (.ref 46), some (.int a1), some (.int a2), some (.long a3), none, some (.int (a5 + (nI 1))), none, none] [] ((fl, n1, n2, p, q, ad), I2, J2)) ∧ (¬ (nI 0) ≤ (lg_cmp r2 a3) → mm_w Q (mm_wc d) bk_264 76 [some (.ref 46), some (.int a1), some (.int a2), some (.long r2), none, some (.int (a5 + (nI 1))), none, none] [] ((fl, n1, n2, p, q, ad), I2, J2)))))))) : mm_w Q (mm_wc (d)) bk_264 76 [some (.ref 46), some (.int a1), some (.int a2), some (.long a3), none, some (.int a5), none, none] [] ((fl, n1, n2, p, q, ad), I, J) := by
  refine mm_go [76] 80 ?_
  show mm_wc d 206 [.ref 46] ((fl, 0, 0, p, q, ad), I, J) _
  refine mm_wcm h ?_
  rintro v τ ⟨r1, I1, J1, rfl, rfl, h1⟩
  refine mm_r1' ⟨rfl, ?_⟩
  show mm_b _ _ _ _ _ [some (.ref 46), some (.int a1), some (.int a2), some (.long a3), none, some (.int a5), none, none] [.int r1, .int a5] ((fl, n1, n2, p, q, ad), I1, J1)
  show (r1 ≤ a5 → _) ∧ (¬ r1 ≤ a5 → _)
  refine ⟨fun c0 => ?_, fun c0 => ?_⟩
  · show mm_u _ _ _ _ _ _ [some (.ref 46), some (.int a1), some (.int a2), some (.long a3), none, some (.int a5), none, none] [] ((fl, n1, n2, p, q, ad), I1, J1)
    show (¬ a2 = (nI 1) → _) ∧ (a2 = (nI 1) → _)
    refine ⟨fun c1 => ?_, fun c1 => ?_⟩
    · show mm_u _ _ _ _ _ _ [some (.ref 46), some (.int a1), some (.int a2), some (.long a3), none, none, none, none] [] ((fl, n1, n2, p, q, ad), I1, J1)
      show (¬ a2 = (nI 2) → _) ∧ (a2 = (nI 2) → _)
      refine ⟨fun c2 => ?_, fun c2 => ?_⟩
      · exact (((h1.1 c0).1 c1).1 c2)
      · show mm_b _ _ _ _ _ [some (.ref 46), some (.int a1), some (.int a2), some (.long a3), none, none, none, none] [] ((fl, n1, n2, p, q, ad), I1, J1)
        show vp_in a1 16384 ∧ _
        refine ⟨(((h1.1 c0).1 c1).2 c2).1, ?_⟩
        exact (((h1.1 c0).1 c1).2 c2).2
    · show mm_b _ _ _ _ _ [some (.ref 46), some (.int a1), some (.int a2), some (.long a3), none, none, none, none] [] ((fl, n1, n2, p, q, ad), I1, J1)
      show vp_in a1 16384 ∧ _
      refine ⟨((h1.1 c0).2 c1).1, ?_⟩
      show mm_b _ _ _ _ _ [some (.ref 46), some (.int a1), some (.int a2), some (.long a3), none, none, none, none] [] ((fl, n1, n2, p, q, ad), I1, (mm_upJ J1 63 a1.toNatClampNeg a3))
      show (¬ a2 = (nI 2) → _) ∧ (a2 = (nI 2) → _)
      refine ⟨fun c2 => ?_, fun c2 => ?_⟩
      · exact (((h1.1 c0).2 c1).2.1 c2)
      · show mm_b _ _ _ _ _ [some (.ref 46), some (.int a1), some (.int a2), some (.long a3), none, none, none, none] [] ((fl, n1, n2, p, q, ad), I1, (mm_upJ J1 63 a1.toNatClampNeg a3))
        show vp_in a1 16384 ∧ _
        refine ⟨(((h1.1 c0).2 c1).2.2 c2).1, ?_⟩
        exact (((h1.1 c0).2 c1).2.2 c2).2
  · show mm_b _ _ _ _ _ [some (.ref 46), some (.int a1), some (.int a2), some (.long a3), none, some (.int a5), none, none] [] ((fl, n1, n2, p, q, ad), I1, J1)
    show mm_wc d 263 [.ref 46, .int a1, .int a5, .int a2] ((fl, 0, 0, p, q, ad), I1, J1) _
    refine mm_wcm (h1.2 c0) ?_
    rintro v τ ⟨r2, I2, J2, rfl, rfl, h2⟩
    refine mm_r2' ⟨rfl, ?_⟩
    show mm_b _ _ _ _ _ [some (.ref 46), some (.int a1), some (.int a2), some (.long a3), none, some (.int a5), none, none] [.long r2] ((fl, n1, n2, p, q, ad), I2, J2)
    show ((nI 0) ≤ (lg_cmp r2 a3) → _) ∧ (¬ (nI 0) ≤ (lg_cmp r2 a3) → _)
    refine ⟨fun c1 => ?_, fun c1 => ?_⟩
    · exact (h2.1 c1)
    · exact (h2.2 c1)
/- 265 ThreeBreathsModel content -/
theorem fx_265 {d : Nat} {x0 : Int32} {x1 : Int32} {fl : Nat → Bool} {n1 n2 : Nat} {p q : Bool} {ad : Nat → Nat} {I : mmI} {J : mmJ} {Q : mmQ} (h : mm_wc d 166 [.ref 46] ((fl, 0, 0, p, q, ad), I, J) (fun v τ => ∃ I1 J1, v = none ∧ τ = ((fl, 0, 0, p, q, ad), I1, J1) ∧ mm_wc d 261 [.ref 46, .int x0, .int (nI 3)] ((fl, 0, 0, p, q, ad), I1, J1) (fun v τ => ∃ r2 I2 J2, v = some (.int r2) ∧ τ = ((fl, 0, 0, p, q, ad), I2, J2) ∧ ((r2 = (nI 0) → mm_wc d 259 [.ref 46] ((fl, 0, 0, p, q, ad), I2, J2) (fun v τ => ∃ I3 J3, v = none ∧ τ = ((fl, 0, 0, p, q, ad), I3, J3) ∧ mm_wc d 235 [.ref 46, .int (I3 46 17), .int (I3 46 18)] ((fl, 0, 0, p, q, ad), I3, J3) (fun v τ => ∃ r4 I4 J4, v = some (.int r4) ∧ τ = ((fl, 0, 0, p, q, ad), I4, J4) ∧ mm_wc d 264 [.ref 46, .int r4, .int x0] ((fl, 0, 0, p, q, ad), I4, J4) (fun v τ => ∃ r5 I5 J5, v = some (.long r5) ∧ τ = ((fl, 0, 0, p, q, ad), I5, J5) ∧ mm_wc d 256 [.ref 46, .int x0] ((fl, 0, 0, p, q, ad), I5, J5) (fun v τ => ∃ r6 I6 J6, v = some (.long r6) ∧ τ = ((fl, 0, 0, p, q, ad), I6, J6) ∧ mm_wc d 260 [.long r5, .long r6] ((fl, 0, 0, p, q, ad), I6, J6) (fun v τ => ∃ r7 I7 J7, v = some (.long r7) ∧ τ = ((fl, 0, 0, p, q, ad), I7, J7) ∧ ((x1 = (nI 0) → (¬ r7 = 0 ∧ Q (some (.long (r5 / r7))) ((fl, n1, n2, p, q, ad), I7, J7))) ∧ (¬ x1 = (nI 0) → mm_wc d 256 [.ref 46, .int x0] ((fl, 0, 0, p, q, ad), I7, J7) (fun v τ => ∃ r8 I8 J8, v = some (.long r8) ∧ τ = ((fl, 0, 0, p, q, ad), I8, J8) ∧ (¬ r7 = 0 ∧ Q (some (.long (r8 / r7))) ((fl, n1, n2, p, q, ad), I8, J8))))))))))) ∧ (¬ r2 = (nI 0) → mm_wc d 167 [.ref 46, .int r2] ((fl, 0, 0, p, q, ad), I2, J2) (fun v τ => ∃ r9 I9 J9, v = some (.int r9) ∧ τ = ((fl, 0, 0, p, q, ad), I9, J9) ∧ Q (some (.long (Int32.toInt64 r9))) ((fl, n1, n2, p, q, ad), I9, J9))))))) : mm_wc (d + 1) 265 [.ref 46, .int x0, .int x1] ((fl, n1, n2, p, q, ad), I, J) Q := by
  refine mm_call (c := 265) rfl rfl ?_
  refine mm_go [] 80 ?_
  show mm_wc d 166 [.ref 46] ((fl, 0, 0, p, q, ad), I, J) _
  refine mm_wcm h ?_
  rintro v τ ⟨I1, J1, rfl, rfl, h1⟩
  refine mm_r0' ⟨rfl, ?_⟩
  show mm_b _ _ _ _ _ [some (.ref 46), some (.int x0), some (.int x1), none, none, none, none, none] [] ((fl, n1, n2, p, q, ad), I1, J1)
  show mm_wc d 261 [.ref 46, .int x0, .int (nI 3)] ((fl, 0, 0, p, q, ad), I1, J1) _
  refine mm_wcm h1 ?_
  rintro v τ ⟨r2, I2, J2, rfl, rfl, h2⟩
  refine mm_r1' ⟨rfl, ?_⟩
  show mm_b _ _ _ _ _ [some (.ref 46), some (.int x0), some (.int x1), none, none, none, none, none] [.int r2] ((fl, n1, n2, p, q, ad), I2, J2)
  show (r2 = (nI 0) → _) ∧ (¬ r2 = (nI 0) → _)
  refine ⟨fun c0 => ?_, fun c0 => ?_⟩
  · show mm_u _ _ _ _ _ _ [some (.ref 46), some (.int x0), some (.int x1), some (.int r2), none, none, none, none] [] ((fl, n1, n2, p, q, ad), I2, J2)
    show mm_wc d 259 [.ref 46] ((fl, 0, 0, p, q, ad), I2, J2) _
    refine mm_wcm (h2.1 c0) ?_
    rintro v τ ⟨I3, J3, rfl, rfl, h3⟩
    refine mm_r0' ⟨rfl, ?_⟩
    show mm_b _ _ _ _ _ [some (.ref 46), some (.int x0), some (.int x1), none, none, none, none, none] [] ((fl, n1, n2, p, q, ad), I3, J3)
    show mm_wc d 235 [.ref 46, .int (I3 46 17), .int (I3 46 18)] ((fl, 0, 0, p, q, ad), I3, J3) _
    refine mm_wcm h3 ?_
    rintro v τ ⟨r4, I4, J4, rfl, rfl, h4⟩
    refine mm_r1' ⟨rfl, ?_⟩
    show mm_b _ _ _ _ _ [some (.ref 46), some (.int x0), some (.int x1), none, none, none, none, none] [.int r4, .ref 46] ((fl, n1, n2, p, q, ad), I4, J4)
    show mm_wc d 264 [.ref 46, .int r4, .int x0] ((fl, 0, 0, p, q, ad), I4, J4) _
    refine mm_wcm h4 ?_
    rintro v τ ⟨r5, I5, J5, rfl, rfl, h5⟩
    refine mm_r2' ⟨rfl, ?_⟩
    show mm_b _ _ _ _ _ [some (.ref 46), some (.int x0), some (.int x1), none, none, none, none, none] [.long r5] ((fl, n1, n2, p, q, ad), I5, J5)
    show mm_wc d 256 [.ref 46, .int x0] ((fl, 0, 0, p, q, ad), I5, J5) _
    refine mm_wcm h5 ?_
    rintro v τ ⟨r6, I6, J6, rfl, rfl, h6⟩
    refine mm_r2' ⟨rfl, ?_⟩
    show mm_b _ _ _ _ _ [some (.ref 46), some (.int x0), some (.int x1), none, some (.long r5), none, none, none] [.long r6, .long r5] ((fl, n1, n2, p, q, ad), I6, J6)
    show mm_wc d 260 [.long r5, .long r6] ((fl, 0, 0, p, q, ad), I6, J6) _
    refine mm_wcm h6 ?_
    rintro v τ ⟨r7, I7, J7, rfl, rfl, h7⟩
    refine mm_r2' ⟨rfl, ?_⟩
    show mm_b _ _ _ _ _ [some (.ref 46), some (.int x0), some (.int x1), none, some (.long r5), none, none, none] [.long r7] ((fl, n1, n2, p, q, ad), I7, J7)
    show (x1 = (nI 0) → _) ∧ (¬ x1 = (nI 0) → _)
    refine ⟨fun c1 => ?_, fun c1 => ?_⟩
    · show mm_u _ _ _ _ _ _ [some (.ref 46), some (.int x0), some (.int x1), none, some (.long r5), none, some (.long r7), none] [] ((fl, n1, n2, p, q, ad), I7, J7)
      show ¬ r7 = 0 ∧ _
      refine ⟨(h7.1 c1).1, ?_⟩
      exact (h7.1 c1).2
    · show mm_b _ _ _ _ _ [some (.ref 46), some (.int x0), some (.int x1), none, some (.long r5), none, some (.long r7), none] [] ((fl, n1, n2, p, q, ad), I7, J7)
      show mm_wc d 256 [.ref 46, .int x0] ((fl, 0, 0, p, q, ad), I7, J7) _
      refine mm_wcm (h7.2 c1) ?_
      rintro v τ ⟨r8, I8, J8, rfl, rfl, h8⟩
      refine mm_r2' ⟨rfl, ?_⟩
      show mm_b _ _ _ _ _ [some (.ref 46), some (.int x0), some (.int x1), none, some (.long r5), none, some (.long r7), none] [.long r8] ((fl, n1, n2, p, q, ad), I8, J8)
      show ¬ r7 = 0 ∧ _
      refine ⟨h8.1, ?_⟩
      exact h8.2
  · show mm_b _ _ _ _ _ [some (.ref 46), some (.int x0), some (.int x1), some (.int r2), none, none, none, none] [] ((fl, n1, n2, p, q, ad), I2, J2)
    show mm_wc d 167 [.ref 46, .int r2] ((fl, 0, 0, p, q, ad), I2, J2) _
    refine mm_wcm (h2.2 c0) ?_
    rintro v τ ⟨r9, I9, J9, rfl, rfl, h9⟩
    refine mm_r1' ⟨rfl, ?_⟩
    exact h9
/- 266 ThreeBreathsModel best -/
theorem fx_266 {d : Nat} {x0 : Int32} {fl : Nat → Bool} {n1 n2 : Nat} {p q : Bool} {ad : Nat → Nat} {I : mmI} {J : mmJ} {Q : mmQ} (h : mm_wc d 166 [.ref 46] ((fl, 0, 0, p, q, ad), I, J) (fun v τ => ∃ I1 J1, v = none ∧ τ = ((fl, 0, 0, p, q, ad), I1, J1) ∧ mm_wc d 261 [.ref 46, .int x0, .int (nI 3)] ((fl, 0, 0, p, q, ad), I1, J1) (fun v τ => ∃ r2 I2 J2, v = some (.int r2) ∧ τ = ((fl, 0, 0, p, q, ad), I2, J2) ∧ ((r2 = (nI 0) → ((¬ (I2 46 17) = (nI 0) → mm_wc d 259 [.ref 46] ((fl, 0, 0, p, q, ad), I2, J2) (fun v τ => ∃ I3 J3, v = none ∧ τ = ((fl, 0, 0, p, q, ad), I3, J3) ∧ mm_wc d 235 [.ref 46, .int (I3 46 17), .int (I3 46 18)] ((fl, 0, 0, p, q, ad), I3, J3) (fun v τ => ∃ r4 I4 J4, v = some (.int r4) ∧ τ = ((fl, 0, 0, p, q, ad), I4, J4) ∧ mm_wc d 257 [.ref 46, .int r4, .int (nI 0), .int x0] ((fl, 0, 0, p, q, ad), I4, J4) (fun v τ => ∃ r5 I5 J5, v = some (.long r5) ∧ τ = ((fl, 0, 0, p, q, ad), I5, J5) ∧ mm_w Q (mm_wc d) bk_266 63 [some (.ref 46), some (.int x0), none, some (.int r4), some (.int (nI 0)), some (.long r5), none, some (.int (nI 1)), none, none] [] ((fl, n1, n2, p, q, ad), I5, J5))))) ∧ ((I2 46 17) = (nI 0) → Q (some (.int (-2))) ((fl, n1, n2, p, q, ad), I2, J2)))) ∧ (¬ r2 = (nI 0) → mm_wc d 167 [.ref 46, .int r2] ((fl, 0, 0, p, q, ad), I2, J2) (fun v τ => ∃ r6 I6 J6, v = some (.int r6) ∧ τ = ((fl, 0, 0, p, q, ad), I6, J6) ∧ Q (some (.int r6)) ((fl, n1, n2, p, q, ad), I6, J6))))))) : mm_wc (d + 1) 266 [.ref 46, .int x0] ((fl, n1, n2, p, q, ad), I, J) Q := by
  refine mm_call (c := 266) rfl rfl ?_
  refine mm_go [63] 80 ?_
  show mm_wc d 166 [.ref 46] ((fl, 0, 0, p, q, ad), I, J) _
  refine mm_wcm h ?_
  rintro v τ ⟨I1, J1, rfl, rfl, h1⟩
  refine mm_r0' ⟨rfl, ?_⟩
  show mm_b _ _ _ _ _ [some (.ref 46), some (.int x0), none, none, none, none, none, none, none, none] [] ((fl, n1, n2, p, q, ad), I1, J1)
  show mm_wc d 261 [.ref 46, .int x0, .int (nI 3)] ((fl, 0, 0, p, q, ad), I1, J1) _
  refine mm_wcm h1 ?_
  rintro v τ ⟨r2, I2, J2, rfl, rfl, h2⟩
  refine mm_r1' ⟨rfl, ?_⟩
  show mm_b _ _ _ _ _ [some (.ref 46), some (.int x0), none, none, none, none, none, none, none, none] [.int r2] ((fl, n1, n2, p, q, ad), I2, J2)
  show (r2 = (nI 0) → _) ∧ (¬ r2 = (nI 0) → _)
  refine ⟨fun c0 => ?_, fun c0 => ?_⟩
  · show mm_u _ _ _ _ _ _ [some (.ref 46), some (.int x0), some (.int r2), none, none, none, none, none, none, none] [] ((fl, n1, n2, p, q, ad), I2, J2)
    show (¬ (I2 46 17) = (nI 0) → _) ∧ ((I2 46 17) = (nI 0) → _)
    refine ⟨fun c1 => ?_, fun c1 => ?_⟩
    · show mm_u _ _ _ _ _ _ [some (.ref 46), some (.int x0), none, none, none, none, none, none, none, none] [] ((fl, n1, n2, p, q, ad), I2, J2)
      show mm_wc d 259 [.ref 46] ((fl, 0, 0, p, q, ad), I2, J2) _
      refine mm_wcm ((h2.1 c0).1 c1) ?_
      rintro v τ ⟨I3, J3, rfl, rfl, h3⟩
      refine mm_r0' ⟨rfl, ?_⟩
      show mm_b _ _ _ _ _ [some (.ref 46), some (.int x0), none, none, none, none, none, none, none, none] [] ((fl, n1, n2, p, q, ad), I3, J3)
      show mm_wc d 235 [.ref 46, .int (I3 46 17), .int (I3 46 18)] ((fl, 0, 0, p, q, ad), I3, J3) _
      refine mm_wcm h3 ?_
      rintro v τ ⟨r4, I4, J4, rfl, rfl, h4⟩
      refine mm_r1' ⟨rfl, ?_⟩
      show mm_b _ _ _ _ _ [some (.ref 46), some (.int x0), none, none, none, none, none, none, none, none] [.int r4] ((fl, n1, n2, p, q, ad), I4, J4)
      show mm_wc d 257 [.ref 46, .int r4, .int (nI 0), .int x0] ((fl, 0, 0, p, q, ad), I4, J4) _
      refine mm_wcm h4 ?_
      rintro v τ ⟨r5, I5, J5, rfl, rfl, h5⟩
      refine mm_r2' ⟨rfl, ?_⟩
      exact h5
    · exact ((h2.1 c0).2 c1)
  · show mm_b _ _ _ _ _ [some (.ref 46), some (.int x0), some (.int r2), none, none, none, none, none, none, none] [] ((fl, n1, n2, p, q, ad), I2, J2)
    show mm_wc d 167 [.ref 46, .int r2] ((fl, 0, 0, p, q, ad), I2, J2) _
    refine mm_wcm (h2.2 c0) ?_
    rintro v τ ⟨r6, I6, J6, rfl, rfl, h6⟩
    refine mm_r1' ⟨rfl, ?_⟩
    exact h6
theorem fx_266_63 {d : Nat} {a1 : Int32} {a3 : Int32} {a4 : Int32} {a5 : Int64} {a7 : Int32} {fl : Nat → Bool} {n1 n2 : Nat} {p q : Bool} {ad : Nat → Nat} {I : mmI} {J : mmJ} {Q : mmQ} (h : mm_wc d 206 [.ref 46] ((fl, 0, 0, p, q, ad), I, J) (fun v τ => ∃ r1 I1 J1, v = some (.int r1) ∧ τ = ((fl, 0, 0, p, q, ad), I1, J1) ∧ ((r1 ≤ a7 → Q (some (.int a4)) ((fl, n1, n2, p, q, ad), I1, J1)) ∧ (¬ r1 ≤ a7 → mm_wc d 257 [.ref 46, .int a3, .int a7, .int a1] ((fl, 0, 0, p, q, ad), I1, J1) (fun v τ => ∃ r2 I2 J2, v = some (.long r2) ∧ τ = ((fl, 0, 0, p, q, ad), I2, J2) ∧ (((nI 0) < (lg_cmp r2 a5) → mm_w Q (mm_wc d) bk_266 63 [some (.ref 46), some (.int a1), none, some (.int a3), some (.int a7), some (.long r2), none, some (.int (a7 + (nI 1))), none, none] [] ((fl, n1, n2, p, q, ad), I2, J2)) ∧ (¬ (nI 0) < (lg_cmp r2 a5) → mm_w Q (mm_wc d) bk_266 63 [some (.ref 46), some (.int a1), none, some (.int a3), some (.int a4), some (.long a5), none, some (.int (a7 + (nI 1))), none, none] [] ((fl, n1, n2, p, q, ad), I2, J2)))))))) : mm_w Q (mm_wc (d)) bk_266 63 [some (.ref 46), some (.int a1), none, some (.int a3), some (.int a4), some (.long a5), none, some (.int a7), none, none] [] ((fl, n1, n2, p, q, ad), I, J) := by
  refine mm_go [63] 80 ?_
  show mm_wc d 206 [.ref 46] ((fl, 0, 0, p, q, ad), I, J) _
  refine mm_wcm h ?_
  rintro v τ ⟨r1, I1, J1, rfl, rfl, h1⟩
  refine mm_r1' ⟨rfl, ?_⟩
  show mm_b _ _ _ _ _ [some (.ref 46), some (.int a1), none, some (.int a3), some (.int a4), some (.long a5), none, some (.int a7), none, none] [.int r1, .int a7] ((fl, n1, n2, p, q, ad), I1, J1)
  show (r1 ≤ a7 → _) ∧ (¬ r1 ≤ a7 → _)
  refine ⟨fun c0 => ?_, fun c0 => ?_⟩
  · exact (h1.1 c0)
  · show mm_b _ _ _ _ _ [some (.ref 46), some (.int a1), none, some (.int a3), some (.int a4), some (.long a5), none, some (.int a7), none, none] [] ((fl, n1, n2, p, q, ad), I1, J1)
    show mm_wc d 257 [.ref 46, .int a3, .int a7, .int a1] ((fl, 0, 0, p, q, ad), I1, J1) _
    refine mm_wcm (h1.2 c0) ?_
    rintro v τ ⟨r2, I2, J2, rfl, rfl, h2⟩
    refine mm_r2' ⟨rfl, ?_⟩
    show mm_b _ _ _ _ _ [some (.ref 46), some (.int a1), none, some (.int a3), some (.int a4), some (.long a5), none, some (.int a7), none, none] [.long r2] ((fl, n1, n2, p, q, ad), I2, J2)
    show ((nI 0) < (lg_cmp r2 a5) → _) ∧ (¬ (nI 0) < (lg_cmp r2 a5) → _)
    refine ⟨fun c1 => ?_, fun c1 => ?_⟩
    · exact (h2.1 c1)
    · exact (h2.2 c1)
/- 267 ThreeBreathsModel fitWhy -/
theorem fx_267 {d : Nat} {x0 : Int32} {fl : Nat → Bool} {n1 n2 : Nat} {p q : Bool} {ad : Nat → Nat} {I : mmI} {J : mmJ} {Q : mmQ} (h : mm_wc d 261 [.ref 46, .int x0, .int (nI 2)] ((fl, 0, 0, p, q, ad), I, J) (fun v τ => ∃ r1 I1 J1, v = some (.int r1) ∧ τ = ((fl, 0, 0, p, q, ad), I1, J1) ∧ ((¬ r1 = (nI 0) → Q (some (.int r1)) ((fl, n1, n2, p, q, ad), I1, J1)) ∧ (r1 = (nI 0) → ((¬ (I1 49 8) = (nI 0) → Q (some (.int r1)) ((fl, n1, n2, p, q, ad), I1, J1)) ∧ ((I1 49 8) = (nI 0) → Q (some (.int (nI 6))) ((fl, n1, n2, p, q, ad), I1, J1))))))) : mm_wc (d + 1) 267 [.ref 46, .int x0] ((fl, n1, n2, p, q, ad), I, J) Q := by
  refine mm_call (c := 267) rfl rfl ?_
  refine mm_go [] 80 ?_
  show mm_wc d 261 [.ref 46, .int x0, .int (nI 2)] ((fl, 0, 0, p, q, ad), I, J) _
  refine mm_wcm h ?_
  rintro v τ ⟨r1, I1, J1, rfl, rfl, h1⟩
  refine mm_r1' ⟨rfl, ?_⟩
  show mm_b _ _ _ _ _ [some (.ref 46), some (.int x0), none] [.int r1] ((fl, n1, n2, p, q, ad), I1, J1)
  show (¬ r1 = (nI 0) → _) ∧ (r1 = (nI 0) → _)
  refine ⟨fun c0 => ?_, fun c0 => ?_⟩
  · exact (h1.1 c0)
  · show mm_b _ _ _ _ _ [some (.ref 46), some (.int x0), some (.int r1)] [] ((fl, n1, n2, p, q, ad), I1, J1)
    show (vp_in (nI 8) 279) ∧ _
    refine ⟨(mm_inl (by decide)), ?_⟩
    show mm_b _ _ _ _ _ [some (.ref 46), some (.int x0), some (.int r1)] [.int (I1 49 8)] ((fl, n1, n2, p, q, ad), I1, J1)
    show (¬ (I1 49 8) = (nI 0) → _) ∧ ((I1 49 8) = (nI 0) → _)
    refine ⟨fun c1 => ?_, fun c1 => ?_⟩
    · exact ((h1.2 c0).1 c1)
    · exact ((h1.2 c0).2 c1)
/- 268 ThreeBreathsModel fitOf -/
theorem fx_268 {d : Nat} {x0 : Int32} {x1 : Int32} {fl : Nat → Bool} {n1 n2 : Nat} {p q : Bool} {ad : Nat → Nat} {I : mmI} {J : mmJ} {Q : mmQ} (h : mm_wc d 224 [.ref 46] ((fl, 0, 0, p, q, ad), I, J) (fun v τ => ∃ I1 J1, v = none ∧ τ = ((fl, 0, 0, p, q, ad), I1, J1) ∧ mm_wc d 205 [.ref 46] ((fl, 0, 0, p, q, ad), I1, J1) (fun v τ => ∃ r2 I2 J2, v = some (.int r2) ∧ τ = ((fl, 0, 0, p, q, ad), I2, J2) ∧ mm_wc d 235 [.ref 46, .int r2, .int (nI 0)] ((fl, 0, 0, p, q, ad), I2, J2) (fun v τ => ∃ r3 I3 J3, v = some (.int r3) ∧ τ = ((fl, 0, 0, p, q, ad), I3, J3) ∧ mm_w Q (mm_wc d) bk_268 20 [some (.ref 46), some (.int x0), some (.int x1), some (.int r3), some (.int (nI 0)), some (.int (nI 0)), none, none] [] ((fl, n1, n2, p, q, ad), I3, J3))))) : mm_wc (d + 1) 268 [.ref 46, .int x0, .int x1] ((fl, n1, n2, p, q, ad), I, J) Q := by
  refine mm_call (c := 268) rfl rfl ?_
  refine mm_go [20, 41] 80 ?_
  show mm_wc d 224 [.ref 46] ((fl, 0, 0, p, q, ad), I, J) _
  refine mm_wcm h ?_
  rintro v τ ⟨I1, J1, rfl, rfl, h1⟩
  refine mm_r0' ⟨rfl, ?_⟩
  show mm_b _ _ _ _ _ [some (.ref 46), some (.int x0), some (.int x1), none, none, none, none, none] [] ((fl, n1, n2, p, q, ad), I1, J1)
  show mm_wc d 205 [.ref 46] ((fl, 0, 0, p, q, ad), I1, J1) _
  refine mm_wcm h1 ?_
  rintro v τ ⟨r2, I2, J2, rfl, rfl, h2⟩
  refine mm_r1' ⟨rfl, ?_⟩
  show mm_b _ _ _ _ _ [some (.ref 46), some (.int x0), some (.int x1), none, none, none, none, none] [.int r2, .ref 46] ((fl, n1, n2, p, q, ad), I2, J2)
  show mm_wc d 235 [.ref 46, .int r2, .int (nI 0)] ((fl, 0, 0, p, q, ad), I2, J2) _
  refine mm_wcm h2 ?_
  rintro v τ ⟨r3, I3, J3, rfl, rfl, h3⟩
  refine mm_r1' ⟨rfl, ?_⟩
  exact h3
theorem fx_268_20 {d : Nat} {a1 : Int32} {a2 : Int32} {a3 : Int32} {a4 : Int32} {a5 : Int32} {fl : Nat → Bool} {n1 n2 : Nat} {p q : Bool} {ad : Nat → Nat} {I : mmI} {J : mmJ} {Q : mmQ} (h : mm_wc d 206 [.ref 46] ((fl, 0, 0, p, q, ad), I, J) (fun v τ => ∃ r1 I1 J1, v = some (.int r1) ∧ τ = ((fl, 0, 0, p, q, ad), I1, J1) ∧ ((r1 ≤ a5 → Q (some (.int (a4 - (nI 1000000)))) ((fl, n1, n2, p, q, ad), I1, J1)) ∧ (¬ r1 ≤ a5 → mm_wc d 238 [.ref 46, .int a3, .int a5] ((fl, 0, 0, p, q, ad), I1, J1) (fun v τ => ∃ r2 I2 J2, v = some (.int r2) ∧ τ = ((fl, 0, 0, p, q, ad), I2, J2) ∧ mm_w Q (mm_wc d) bk_268 41 [some (.ref 46), some (.int a1), some (.int a2), some (.int a3), some (.int a4), some (.int a5), some (.int r2), some (.int (nI 0))] [] ((fl, n1, n2, p, q, ad), I2, J2)))))) : mm_w Q (mm_wc (d)) bk_268 20 [some (.ref 46), some (.int a1), some (.int a2), some (.int a3), some (.int a4), some (.int a5), none, none] [] ((fl, n1, n2, p, q, ad), I, J) := by
  refine mm_go [20, 41] 80 ?_
  show mm_wc d 206 [.ref 46] ((fl, 0, 0, p, q, ad), I, J) _
  refine mm_wcm h ?_
  rintro v τ ⟨r1, I1, J1, rfl, rfl, h1⟩
  refine mm_r1' ⟨rfl, ?_⟩
  show mm_b _ _ _ _ _ [some (.ref 46), some (.int a1), some (.int a2), some (.int a3), some (.int a4), some (.int a5), none, none] [.int r1, .int a5] ((fl, n1, n2, p, q, ad), I1, J1)
  show (r1 ≤ a5 → _) ∧ (¬ r1 ≤ a5 → _)
  refine ⟨fun c0 => ?_, fun c0 => ?_⟩
  · exact (h1.1 c0)
  · show mm_b _ _ _ _ _ [some (.ref 46), some (.int a1), some (.int a2), some (.int a3), some (.int a4), some (.int a5), none, none] [] ((fl, n1, n2, p, q, ad), I1, J1)
    show mm_wc d 238 [.ref 46, .int a3, .int a5] ((fl, 0, 0, p, q, ad), I1, J1) _
    refine mm_wcm (h1.2 c0) ?_
    rintro v τ ⟨r2, I2, J2, rfl, rfl, h2⟩
    refine mm_r1' ⟨rfl, ?_⟩
    exact h2
theorem fx_268_41 {d : Nat} {a1 : Int32} {a2 : Int32} {a3 : Int32} {a4 : Int32} {a5 : Int32} {a6 : Int32} {a7 : Int32} {fl : Nat → Bool} {n1 n2 : Nat} {p q : Bool} {ad : Nat → Nat} {I : mmI} {J : mmJ} {Q : mmQ} (h : ((¬ a1 = (nI 1) → mm_wc d 206 [.ref 46] ((fl, 0, 0, p, q, ad), I, J) (fun v τ => ∃ r1 I1 J1, v = some (.int r1) ∧ τ = ((fl, 0, 0, p, q, ad), I1, J1) ∧ ((r1 ≤ a7 → mm_w Q (mm_wc d) bk_268 20 [some (.ref 46), some (.int a1), some (.int a2), some (.int a3), some (.int a4), some (.int (a5 + (nI 1))), none, none] [] ((fl, n1, n2, p, q, ad), I1, J1)) ∧ (¬ r1 ≤ a7 → ((¬ a1 = (nI 1) → mm_wc d 238 [.ref 46, .int a6, .int a7] ((fl, 0, 0, p, q, ad), I1, J1) (fun v τ => ∃ r2 I2 J2, v = some (.int r2) ∧ τ = ((fl, 0, 0, p, q, ad), I2, J2) ∧ mm_wc d 237 [.int r2] ((fl, 0, 0, p, q, ad), I2, J2) (fun v τ => ∃ r3 I3 J3, v = some (.int r3) ∧ τ = ((fl, 0, 0, p, q, ad), I3, J3) ∧ ((r3 = (I3 49 9) → ((¬ a4 = a2 → mm_w Q (mm_wc d) bk_268 41 [some (.ref 46), some (.int a1), some (.int a2), some (.int a3), some (.int (a4 + (nI 1))), some (.int a5), some (.int a6), some (.int (a7 + (nI 1)))] [] ((fl, n1, n2, p, q, ad), I3, J3)) ∧ (a4 = a2 → Q (some (.int a5)) ((fl, n1, n2, p, q, ad), I3, J3)))) ∧ (¬ r3 = (I3 49 9) → mm_w Q (mm_wc d) bk_268 41 [some (.ref 46), some (.int a1), some (.int a2), some (.int a3), some (.int a4), some (.int a5), some (.int a6), some (.int (a7 + (nI 1)))] [] ((fl, n1, n2, p, q, ad), I3, J3)))))) ∧ (a1 = (nI 1) → mm_wc d 237 [.int a6] ((fl, 0, 0, p, q, ad), I1, J1) (fun v τ => ∃ r4 I4 J4, v = some (.int r4) ∧ τ = ((fl, 0, 0, p, q, ad), I4, J4) ∧ ((r4 = (I4 49 9) → ((¬ a4 = a2 → mm_w Q (mm_wc d) bk_268 41 [some (.ref 46), some (.int a1), some (.int a2), some (.int a3), some (.int (a4 + (nI 1))), some (.int a5), some (.int a6), some (.int (a7 + (nI 1)))] [] ((fl, n1, n2, p, q, ad), I4, J4)) ∧ (a4 = a2 → Q (some (.int a5)) ((fl, n1, n2, p, q, ad), I4, J4)))) ∧ (¬ r4 = (I4 49 9) → mm_w Q (mm_wc d) bk_268 41 [some (.ref 46), some (.int a1), some (.int a2), some (.int a3), some (.int a4), some (.int a5), some (.int a6), some (.int (a7 + (nI 1)))] [] ((fl, n1, n2, p, q, ad), I4, J4)))))))))) ∧ (a1 = (nI 1) → (((nI 1) ≤ a7 → mm_w Q (mm_wc d) bk_268 20 [some (.ref 46), some (.int a1), some (.int a2), some (.int a3), some (.int a4), some (.int (a5 + (nI 1))), none, none] [] ((fl, n1, n2, p, q, ad), I, J)) ∧ (¬ (nI 1) ≤ a7 → ((¬ a1 = (nI 1) → mm_wc d 238 [.ref 46, .int a6, .int a7] ((fl, 0, 0, p, q, ad), I, J) (fun v τ => ∃ r5 I5 J5, v = some (.int r5) ∧ τ = ((fl, 0, 0, p, q, ad), I5, J5) ∧ mm_wc d 237 [.int r5] ((fl, 0, 0, p, q, ad), I5, J5) (fun v τ => ∃ r6 I6 J6, v = some (.int r6) ∧ τ = ((fl, 0, 0, p, q, ad), I6, J6) ∧ ((r6 = (I6 49 9) → ((¬ a4 = a2 → mm_w Q (mm_wc d) bk_268 41 [some (.ref 46), some (.int a1), some (.int a2), some (.int a3), some (.int (a4 + (nI 1))), some (.int a5), some (.int a6), some (.int (a7 + (nI 1)))] [] ((fl, n1, n2, p, q, ad), I6, J6)) ∧ (a4 = a2 → Q (some (.int a5)) ((fl, n1, n2, p, q, ad), I6, J6)))) ∧ (¬ r6 = (I6 49 9) → mm_w Q (mm_wc d) bk_268 41 [some (.ref 46), some (.int a1), some (.int a2), some (.int a3), some (.int a4), some (.int a5), some (.int a6), some (.int (a7 + (nI 1)))] [] ((fl, n1, n2, p, q, ad), I6, J6)))))) ∧ (a1 = (nI 1) → mm_wc d 237 [.int a6] ((fl, 0, 0, p, q, ad), I, J) (fun v τ => ∃ r7 I7 J7, v = some (.int r7) ∧ τ = ((fl, 0, 0, p, q, ad), I7, J7) ∧ ((r7 = (I7 49 9) → ((¬ a4 = a2 → mm_w Q (mm_wc d) bk_268 41 [some (.ref 46), some (.int a1), some (.int a2), some (.int a3), some (.int (a4 + (nI 1))), some (.int a5), some (.int a6), some (.int (a7 + (nI 1)))] [] ((fl, n1, n2, p, q, ad), I7, J7)) ∧ (a4 = a2 → Q (some (.int a5)) ((fl, n1, n2, p, q, ad), I7, J7)))) ∧ (¬ r7 = (I7 49 9) → mm_w Q (mm_wc d) bk_268 41 [some (.ref 46), some (.int a1), some (.int a2), some (.int a3), some (.int a4), some (.int a5), some (.int a6), some (.int (a7 + (nI 1)))] [] ((fl, n1, n2, p, q, ad), I7, J7))))))))))) : mm_w Q (mm_wc (d)) bk_268 41 [some (.ref 46), some (.int a1), some (.int a2), some (.int a3), some (.int a4), some (.int a5), some (.int a6), some (.int a7)] [] ((fl, n1, n2, p, q, ad), I, J) := by
  refine mm_go [20, 41] 80 ?_
  show (¬ a1 = (nI 1) → _) ∧ (a1 = (nI 1) → _)
  refine ⟨fun c0 => ?_, fun c0 => ?_⟩
  · show mm_u _ _ _ _ _ _ [some (.ref 46), some (.int a1), some (.int a2), some (.int a3), some (.int a4), some (.int a5), some (.int a6), some (.int a7)] [.int a7] ((fl, n1, n2, p, q, ad), I, J)
    show mm_wc d 206 [.ref 46] ((fl, 0, 0, p, q, ad), I, J) _
    refine mm_wcm (h.1 c0) ?_
    rintro v τ ⟨r1, I1, J1, rfl, rfl, h1⟩
    refine mm_r1' ⟨rfl, ?_⟩
    show mm_b _ _ _ _ _ [some (.ref 46), some (.int a1), some (.int a2), some (.int a3), some (.int a4), some (.int a5), some (.int a6), some (.int a7)] [.int r1, .int a7] ((fl, n1, n2, p, q, ad), I1, J1)
    show (r1 ≤ a7 → _) ∧ (¬ r1 ≤ a7 → _)
    refine ⟨fun c1 => ?_, fun c1 => ?_⟩
    · exact (h1.1 c1)
    · show mm_b _ _ _ _ _ [some (.ref 46), some (.int a1), some (.int a2), some (.int a3), some (.int a4), some (.int a5), some (.int a6), some (.int a7)] [] ((fl, n1, n2, p, q, ad), I1, J1)
      show (¬ a1 = (nI 1) → _) ∧ (a1 = (nI 1) → _)
      refine ⟨fun c2 => ?_, fun c2 => ?_⟩
      · show mm_u _ _ _ _ _ _ [some (.ref 46), some (.int a1), some (.int a2), some (.int a3), some (.int a4), some (.int a5), some (.int a6), some (.int a7)] [] ((fl, n1, n2, p, q, ad), I1, J1)
        show mm_wc d 238 [.ref 46, .int a6, .int a7] ((fl, 0, 0, p, q, ad), I1, J1) _
        refine mm_wcm ((h1.2 c1).1 c2) ?_
        rintro v τ ⟨r2, I2, J2, rfl, rfl, h2⟩
        refine mm_r1' ⟨rfl, ?_⟩
        show mm_b _ _ _ _ _ [some (.ref 46), some (.int a1), some (.int a2), some (.int a3), some (.int a4), some (.int a5), some (.int a6), some (.int a7)] [.int r2] ((fl, n1, n2, p, q, ad), I2, J2)
        show mm_wc d 237 [.int r2] ((fl, 0, 0, p, q, ad), I2, J2) _
        refine mm_wcm h2 ?_
        rintro v τ ⟨r3, I3, J3, rfl, rfl, h3⟩
        refine mm_r1' ⟨rfl, ?_⟩
        show mm_b _ _ _ _ _ [some (.ref 46), some (.int a1), some (.int a2), some (.int a3), some (.int a4), some (.int a5), some (.int a6), some (.int a7)] [.int r3] ((fl, n1, n2, p, q, ad), I3, J3)
        show (vp_in (nI 9) 279) ∧ _
        refine ⟨(mm_inl (by decide)), ?_⟩
        show mm_b _ _ _ _ _ [some (.ref 46), some (.int a1), some (.int a2), some (.int a3), some (.int a4), some (.int a5), some (.int a6), some (.int a7)] [.int (I3 49 9), .int r3] ((fl, n1, n2, p, q, ad), I3, J3)
        show (r3 = (I3 49 9) → _) ∧ (¬ r3 = (I3 49 9) → _)
        refine ⟨fun c3 => ?_, fun c3 => ?_⟩
        · show mm_u _ _ _ _ _ _ [some (.ref 46), some (.int a1), some (.int a2), some (.int a3), some (.int a4), some (.int a5), some (.int a6), some (.int a7)] [] ((fl, n1, n2, p, q, ad), I3, J3)
          show (¬ a4 = a2 → _) ∧ (a4 = a2 → _)
          refine ⟨fun c4 => ?_, fun c4 => ?_⟩
          · exact ((h3.1 c3).1 c4)
          · exact ((h3.1 c3).2 c4)
        · exact (h3.2 c3)
      · show mm_b _ _ _ _ _ [some (.ref 46), some (.int a1), some (.int a2), some (.int a3), some (.int a4), some (.int a5), some (.int a6), some (.int a7)] [] ((fl, n1, n2, p, q, ad), I1, J1)
        show mm_wc d 237 [.int a6] ((fl, 0, 0, p, q, ad), I1, J1) _
        refine mm_wcm ((h1.2 c1).2 c2) ?_
        rintro v τ ⟨r4, I4, J4, rfl, rfl, h4⟩
        refine mm_r1' ⟨rfl, ?_⟩
        show mm_b _ _ _ _ _ [some (.ref 46), some (.int a1), some (.int a2), some (.int a3), some (.int a4), some (.int a5), some (.int a6), some (.int a7)] [.int r4] ((fl, n1, n2, p, q, ad), I4, J4)
        show (vp_in (nI 9) 279) ∧ _
        refine ⟨(mm_inl (by decide)), ?_⟩
        show mm_b _ _ _ _ _ [some (.ref 46), some (.int a1), some (.int a2), some (.int a3), some (.int a4), some (.int a5), some (.int a6), some (.int a7)] [.int (I4 49 9), .int r4] ((fl, n1, n2, p, q, ad), I4, J4)
        show (r4 = (I4 49 9) → _) ∧ (¬ r4 = (I4 49 9) → _)
        refine ⟨fun c3 => ?_, fun c3 => ?_⟩
        · show mm_u _ _ _ _ _ _ [some (.ref 46), some (.int a1), some (.int a2), some (.int a3), some (.int a4), some (.int a5), some (.int a6), some (.int a7)] [] ((fl, n1, n2, p, q, ad), I4, J4)
          show (¬ a4 = a2 → _) ∧ (a4 = a2 → _)
          refine ⟨fun c4 => ?_, fun c4 => ?_⟩
          · exact ((h4.1 c3).1 c4)
          · exact ((h4.1 c3).2 c4)
        · exact (h4.2 c3)
  · show mm_b _ _ _ _ _ [some (.ref 46), some (.int a1), some (.int a2), some (.int a3), some (.int a4), some (.int a5), some (.int a6), some (.int a7)] [.int a7] ((fl, n1, n2, p, q, ad), I, J)
    show ((nI 1) ≤ a7 → _) ∧ (¬ (nI 1) ≤ a7 → _)
    refine ⟨fun c1 => ?_, fun c1 => ?_⟩
    · exact ((h.2 c0).1 c1)
    · show mm_b _ _ _ _ _ [some (.ref 46), some (.int a1), some (.int a2), some (.int a3), some (.int a4), some (.int a5), some (.int a6), some (.int a7)] [] ((fl, n1, n2, p, q, ad), I, J)
      show (¬ a1 = (nI 1) → _) ∧ (a1 = (nI 1) → _)
      refine ⟨fun c2 => ?_, fun c2 => ?_⟩
      · show mm_u _ _ _ _ _ _ [some (.ref 46), some (.int a1), some (.int a2), some (.int a3), some (.int a4), some (.int a5), some (.int a6), some (.int a7)] [] ((fl, n1, n2, p, q, ad), I, J)
        show mm_wc d 238 [.ref 46, .int a6, .int a7] ((fl, 0, 0, p, q, ad), I, J) _
        refine mm_wcm (((h.2 c0).2 c1).1 c2) ?_
        rintro v τ ⟨r5, I5, J5, rfl, rfl, h5⟩
        refine mm_r1' ⟨rfl, ?_⟩
        show mm_b _ _ _ _ _ [some (.ref 46), some (.int a1), some (.int a2), some (.int a3), some (.int a4), some (.int a5), some (.int a6), some (.int a7)] [.int r5] ((fl, n1, n2, p, q, ad), I5, J5)
        show mm_wc d 237 [.int r5] ((fl, 0, 0, p, q, ad), I5, J5) _
        refine mm_wcm h5 ?_
        rintro v τ ⟨r6, I6, J6, rfl, rfl, h6⟩
        refine mm_r1' ⟨rfl, ?_⟩
        show mm_b _ _ _ _ _ [some (.ref 46), some (.int a1), some (.int a2), some (.int a3), some (.int a4), some (.int a5), some (.int a6), some (.int a7)] [.int r6] ((fl, n1, n2, p, q, ad), I6, J6)
        show (vp_in (nI 9) 279) ∧ _
        refine ⟨(mm_inl (by decide)), ?_⟩
        show mm_b _ _ _ _ _ [some (.ref 46), some (.int a1), some (.int a2), some (.int a3), some (.int a4), some (.int a5), some (.int a6), some (.int a7)] [.int (I6 49 9), .int r6] ((fl, n1, n2, p, q, ad), I6, J6)
        show (r6 = (I6 49 9) → _) ∧ (¬ r6 = (I6 49 9) → _)
        refine ⟨fun c3 => ?_, fun c3 => ?_⟩
        · show mm_u _ _ _ _ _ _ [some (.ref 46), some (.int a1), some (.int a2), some (.int a3), some (.int a4), some (.int a5), some (.int a6), some (.int a7)] [] ((fl, n1, n2, p, q, ad), I6, J6)
          show (¬ a4 = a2 → _) ∧ (a4 = a2 → _)
          refine ⟨fun c4 => ?_, fun c4 => ?_⟩
          · exact ((h6.1 c3).1 c4)
          · exact ((h6.1 c3).2 c4)
        · exact (h6.2 c3)
      · show mm_b _ _ _ _ _ [some (.ref 46), some (.int a1), some (.int a2), some (.int a3), some (.int a4), some (.int a5), some (.int a6), some (.int a7)] [] ((fl, n1, n2, p, q, ad), I, J)
        show mm_wc d 237 [.int a6] ((fl, 0, 0, p, q, ad), I, J) _
        refine mm_wcm (((h.2 c0).2 c1).2 c2) ?_
        rintro v τ ⟨r7, I7, J7, rfl, rfl, h7⟩
        refine mm_r1' ⟨rfl, ?_⟩
        show mm_b _ _ _ _ _ [some (.ref 46), some (.int a1), some (.int a2), some (.int a3), some (.int a4), some (.int a5), some (.int a6), some (.int a7)] [.int r7] ((fl, n1, n2, p, q, ad), I7, J7)
        show (vp_in (nI 9) 279) ∧ _
        refine ⟨(mm_inl (by decide)), ?_⟩
        show mm_b _ _ _ _ _ [some (.ref 46), some (.int a1), some (.int a2), some (.int a3), some (.int a4), some (.int a5), some (.int a6), some (.int a7)] [.int (I7 49 9), .int r7] ((fl, n1, n2, p, q, ad), I7, J7)
        show (r7 = (I7 49 9) → _) ∧ (¬ r7 = (I7 49 9) → _)
        refine ⟨fun c3 => ?_, fun c3 => ?_⟩
        · show mm_u _ _ _ _ _ _ [some (.ref 46), some (.int a1), some (.int a2), some (.int a3), some (.int a4), some (.int a5), some (.int a6), some (.int a7)] [] ((fl, n1, n2, p, q, ad), I7, J7)
          show (¬ a4 = a2 → _) ∧ (a4 = a2 → _)
          refine ⟨fun c4 => ?_, fun c4 => ?_⟩
          · exact ((h7.1 c3).1 c4)
          · exact ((h7.1 c3).2 c4)
        · exact (h7.2 c3)
/- 269 ThreeBreathsModel fits -/
theorem fx_269 {d : Nat} {x0 : Int32} {fl : Nat → Bool} {n1 n2 : Nat} {p q : Bool} {ad : Nat → Nat} {I : mmI} {J : mmJ} {Q : mmQ} (h : mm_wc d 166 [.ref 46] ((fl, 0, 0, p, q, ad), I, J) (fun v τ => ∃ I1 J1, v = none ∧ τ = ((fl, 0, 0, p, q, ad), I1, J1) ∧ mm_wc d 267 [.ref 46, .int x0] ((fl, 0, 0, p, q, ad), I1, J1) (fun v τ => ∃ r2 I2 J2, v = some (.int r2) ∧ τ = ((fl, 0, 0, p, q, ad), I2, J2) ∧ ((r2 = (nI 0) → mm_wc d 268 [.ref 46, .int x0, .int (-1)] ((fl, 0, 0, p, q, ad), I2, J2) (fun v τ => ∃ r3 I3 J3, v = some (.int r3) ∧ τ = ((fl, 0, 0, p, q, ad), I3, J3) ∧ Q (some (.int (r3 + (nI 1000000)))) ((fl, n1, n2, p, q, ad), I3, J3))) ∧ (¬ r2 = (nI 0) → mm_wc d 167 [.ref 46, .int r2] ((fl, 0, 0, p, q, ad), I2, J2) (fun v τ => ∃ r4 I4 J4, v = some (.int r4) ∧ τ = ((fl, 0, 0, p, q, ad), I4, J4) ∧ Q (some (.int r4)) ((fl, n1, n2, p, q, ad), I4, J4))))))) : mm_wc (d + 1) 269 [.ref 46, .int x0] ((fl, n1, n2, p, q, ad), I, J) Q := by
  refine mm_call (c := 269) rfl rfl ?_
  refine mm_go [] 80 ?_
  show mm_wc d 166 [.ref 46] ((fl, 0, 0, p, q, ad), I, J) _
  refine mm_wcm h ?_
  rintro v τ ⟨I1, J1, rfl, rfl, h1⟩
  refine mm_r0' ⟨rfl, ?_⟩
  show mm_b _ _ _ _ _ [some (.ref 46), some (.int x0), none] [] ((fl, n1, n2, p, q, ad), I1, J1)
  show mm_wc d 267 [.ref 46, .int x0] ((fl, 0, 0, p, q, ad), I1, J1) _
  refine mm_wcm h1 ?_
  rintro v τ ⟨r2, I2, J2, rfl, rfl, h2⟩
  refine mm_r1' ⟨rfl, ?_⟩
  show mm_b _ _ _ _ _ [some (.ref 46), some (.int x0), none] [.int r2] ((fl, n1, n2, p, q, ad), I2, J2)
  show (r2 = (nI 0) → _) ∧ (¬ r2 = (nI 0) → _)
  refine ⟨fun c0 => ?_, fun c0 => ?_⟩
  · show mm_u _ _ _ _ _ _ [some (.ref 46), some (.int x0), some (.int r2)] [] ((fl, n1, n2, p, q, ad), I2, J2)
    show mm_wc d 268 [.ref 46, .int x0, .int (-1)] ((fl, 0, 0, p, q, ad), I2, J2) _
    refine mm_wcm (h2.1 c0) ?_
    rintro v τ ⟨r3, I3, J3, rfl, rfl, h3⟩
    refine mm_r1' ⟨rfl, ?_⟩
    exact h3
  · show mm_b _ _ _ _ _ [some (.ref 46), some (.int x0), some (.int r2)] [] ((fl, n1, n2, p, q, ad), I2, J2)
    show mm_wc d 167 [.ref 46, .int r2] ((fl, 0, 0, p, q, ad), I2, J2) _
    refine mm_wcm (h2.2 c0) ?_
    rintro v τ ⟨r4, I4, J4, rfl, rfl, h4⟩
    refine mm_r1' ⟨rfl, ?_⟩
    exact h4
/- 270 ThreeBreathsModel fitAt -/
theorem fx_270 {d : Nat} {x0 : Int32} {x1 : Int32} {fl : Nat → Bool} {n1 n2 : Nat} {p q : Bool} {ad : Nat → Nat} {I : mmI} {J : mmJ} {Q : mmQ} (h : mm_wc d 166 [.ref 46] ((fl, 0, 0, p, q, ad), I, J) (fun v τ => ∃ I1 J1, v = none ∧ τ = ((fl, 0, 0, p, q, ad), I1, J1) ∧ mm_wc d 267 [.ref 46, .int x0] ((fl, 0, 0, p, q, ad), I1, J1) (fun v τ => ∃ r2 I2 J2, v = some (.int r2) ∧ τ = ((fl, 0, 0, p, q, ad), I2, J2) ∧ ((r2 = (nI 0) → (((nI 0) ≤ x1 → mm_wc d 268 [.ref 46, .int x0, .int x1] ((fl, 0, 0, p, q, ad), I2, J2) (fun v τ => ∃ r3 I3 J3, v = some (.int r3) ∧ τ = ((fl, 0, 0, p, q, ad), I3, J3) ∧ (((nI 0) ≤ r3 → Q (some (.int r3)) ((fl, n1, n2, p, q, ad), I3, J3)) ∧ (¬ (nI 0) ≤ r3 → mm_wc d 167 [.ref 46, .int (nI 1)] ((fl, 0, 0, p, q, ad), I3, J3) (fun v τ => ∃ r4 I4 J4, v = some (.int r4) ∧ τ = ((fl, 0, 0, p, q, ad), I4, J4) ∧ Q (some (.int r4)) ((fl, n1, n2, p, q, ad), I4, J4)))))) ∧ (¬ (nI 0) ≤ x1 → mm_wc d 167 [.ref 46, .int (nI 1)] ((fl, 0, 0, p, q, ad), I2, J2) (fun v τ => ∃ r5 I5 J5, v = some (.int r5) ∧ τ = ((fl, 0, 0, p, q, ad), I5, J5) ∧ Q (some (.int r5)) ((fl, n1, n2, p, q, ad), I5, J5))))) ∧ (¬ r2 = (nI 0) → mm_wc d 167 [.ref 46, .int r2] ((fl, 0, 0, p, q, ad), I2, J2) (fun v τ => ∃ r6 I6 J6, v = some (.int r6) ∧ τ = ((fl, 0, 0, p, q, ad), I6, J6) ∧ Q (some (.int r6)) ((fl, n1, n2, p, q, ad), I6, J6))))))) : mm_wc (d + 1) 270 [.ref 46, .int x0, .int x1] ((fl, n1, n2, p, q, ad), I, J) Q := by
  refine mm_call (c := 270) rfl rfl ?_
  refine mm_go [] 80 ?_
  show mm_wc d 166 [.ref 46] ((fl, 0, 0, p, q, ad), I, J) _
  refine mm_wcm h ?_
  rintro v τ ⟨I1, J1, rfl, rfl, h1⟩
  refine mm_r0' ⟨rfl, ?_⟩
  show mm_b _ _ _ _ _ [some (.ref 46), some (.int x0), some (.int x1), none, none] [] ((fl, n1, n2, p, q, ad), I1, J1)
  show mm_wc d 267 [.ref 46, .int x0] ((fl, 0, 0, p, q, ad), I1, J1) _
  refine mm_wcm h1 ?_
  rintro v τ ⟨r2, I2, J2, rfl, rfl, h2⟩
  refine mm_r1' ⟨rfl, ?_⟩
  show mm_b _ _ _ _ _ [some (.ref 46), some (.int x0), some (.int x1), none, none] [.int r2] ((fl, n1, n2, p, q, ad), I2, J2)
  show (r2 = (nI 0) → _) ∧ (¬ r2 = (nI 0) → _)
  refine ⟨fun c0 => ?_, fun c0 => ?_⟩
  · show mm_u _ _ _ _ _ _ [some (.ref 46), some (.int x0), some (.int x1), some (.int r2), none] [] ((fl, n1, n2, p, q, ad), I2, J2)
    show ((nI 0) ≤ x1 → _) ∧ (¬ (nI 0) ≤ x1 → _)
    refine ⟨fun c1 => ?_, fun c1 => ?_⟩
    · show mm_u _ _ _ _ _ _ [some (.ref 46), some (.int x0), some (.int x1), none, none] [] ((fl, n1, n2, p, q, ad), I2, J2)
      show mm_wc d 268 [.ref 46, .int x0, .int x1] ((fl, 0, 0, p, q, ad), I2, J2) _
      refine mm_wcm ((h2.1 c0).1 c1) ?_
      rintro v τ ⟨r3, I3, J3, rfl, rfl, h3⟩
      refine mm_r1' ⟨rfl, ?_⟩
      show mm_b _ _ _ _ _ [some (.ref 46), some (.int x0), some (.int x1), none, none] [.int r3] ((fl, n1, n2, p, q, ad), I3, J3)
      show ((nI 0) ≤ r3 → _) ∧ (¬ (nI 0) ≤ r3 → _)
      refine ⟨fun c2 => ?_, fun c2 => ?_⟩
      · exact (h3.1 c2)
      · show mm_b _ _ _ _ _ [some (.ref 46), none, none, none, some (.int r3)] [] ((fl, n1, n2, p, q, ad), I3, J3)
        show mm_wc d 167 [.ref 46, .int (nI 1)] ((fl, 0, 0, p, q, ad), I3, J3) _
        refine mm_wcm (h3.2 c2) ?_
        rintro v τ ⟨r4, I4, J4, rfl, rfl, h4⟩
        refine mm_r1' ⟨rfl, ?_⟩
        exact h4
    · show mm_b _ _ _ _ _ [some (.ref 46), some (.int x0), some (.int x1), none, none] [] ((fl, n1, n2, p, q, ad), I2, J2)
      show (((nI 0) : Int32) ≤ (-1) → _) ∧ (¬ ((nI 0) : Int32) ≤ (-1) → _)
      refine ⟨fun q => absurd q (by decide), fun _ => ?_⟩
      show mm_b _ _ _ _ _ [some (.ref 46), none, none, none, some (.int (-1))] [] ((fl, n1, n2, p, q, ad), I2, J2)
      show mm_wc d 167 [.ref 46, .int (nI 1)] ((fl, 0, 0, p, q, ad), I2, J2) _
      refine mm_wcm ((h2.1 c0).2 c1) ?_
      rintro v τ ⟨r5, I5, J5, rfl, rfl, h5⟩
      refine mm_r1' ⟨rfl, ?_⟩
      exact h5
  · show mm_b _ _ _ _ _ [some (.ref 46), some (.int x0), some (.int x1), some (.int r2), none] [] ((fl, n1, n2, p, q, ad), I2, J2)
    show mm_wc d 167 [.ref 46, .int r2] ((fl, 0, 0, p, q, ad), I2, J2) _
    refine mm_wcm (h2.2 c0) ?_
    rintro v τ ⟨r6, I6, J6, rfl, rfl, h6⟩
    refine mm_r1' ⟨rfl, ?_⟩
    exact h6
/- 271 ThreeBreathsModel more -/
theorem fx_271 {d : Nat} {x0 : Int32} {fl : Nat → Bool} {n1 n2 : Nat} {p q : Bool} {ad : Nat → Nat} {I : mmI} {J : mmJ} {Q : mmQ} (h : mm_wc d 166 [.ref 46] ((fl, 0, 0, p, q, ad), I, J) (fun v τ => ∃ I1 J1, v = none ∧ τ = ((fl, 0, 0, p, q, ad), I1, J1) ∧ (((I1 46 14) = (nI 0) → mm_wc d 167 [.ref 46, .int (nI 1)] ((fl, 0, 0, p, q, ad), I1, J1) (fun v τ => ∃ r2 I2 J2, v = some (.int r2) ∧ τ = ((fl, 0, 0, p, q, ad), I2, J2) ∧ Q (some (.int r2)) ((fl, n1, n2, p, q, ad), I2, J2))) ∧ (¬ (I1 46 14) = (nI 0) → mm_wc d 169 [.int x0, .int (nI 0), .int ((I1 49 5) - (nI 1))] ((fl, 0, 0, p, q, ad), I1, J1) (fun v τ => ∃ r3 I3 J3, v = some (.int r3) ∧ τ = ((fl, 0, 0, p, q, ad), I3, J3) ∧ ((¬ r3 = (nI 0) → (vp_in ((nI 56) + x0) 279 ∧ (vp_in ((nI 60) + x0) 279 ∧ mm_wc d 210 [.ref 46] ((fl, 0, 0, p, q, ad), (mm_up (mm_up I3 49 23 (I3 49 (((nI 56) + x0)).toNatClampNeg)) 49 34 ((mm_up I3 49 23 (I3 49 (((nI 56) + x0)).toNatClampNeg)) 49 (((nI 60) + x0)).toNatClampNeg)), J3) (fun v τ => ∃ I4 J4, v = none ∧ τ = ((fl, 0, 0, p, q, ad), I4, J4) ∧ mm_wc d 234 [.ref 46, .int (-1), .int (-1), .int (-1), .int (-1), .int (nI 0)] ((fl, 0, 0, p, q, ad), I4, J4) (fun v τ => ∃ I5 J5, v = none ∧ τ = ((fl, 0, 0, p, q, ad), I5, J5) ∧ mm_wc d 224 [.ref 46] ((fl, 0, 0, p, q, ad), I5, J5) (fun v τ => ∃ I6 J6, v = none ∧ τ = ((fl, 0, 0, p, q, ad), I6, J6) ∧ mm_wc d 239 [.ref 46, .int ((I6 46 17) ||| (nI 1024)), .int (I6 46 18)] ((fl, 0, 0, p, q, ad), I6, J6) (fun v τ => ∃ r7 I7 J7, v = some (.int r7) ∧ τ = ((fl, 0, 0, p, q, ad), I7, J7) ∧ Q (some (.int r7)) ((fl, n1, n2, p, q, ad), I7, J7)))))))) ∧ (r3 = (nI 0) → mm_wc d 167 [.ref 46, .int (nI 1)] ((fl, 0, 0, p, q, ad), I3, J3) (fun v τ => ∃ r8 I8 J8, v = some (.int r8) ∧ τ = ((fl, 0, 0, p, q, ad), I8, J8) ∧ Q (some (.int r8)) ((fl, n1, n2, p, q, ad), I8, J8))))))))) : mm_wc (d + 1) 271 [.ref 46, .int x0] ((fl, n1, n2, p, q, ad), I, J) Q := by
  refine mm_call (c := 271) rfl rfl ?_
  refine mm_go [] 80 ?_
  show mm_wc d 166 [.ref 46] ((fl, 0, 0, p, q, ad), I, J) _
  refine mm_wcm h ?_
  rintro v τ ⟨I1, J1, rfl, rfl, h1⟩
  refine mm_r0' ⟨rfl, ?_⟩
  show mm_b _ _ _ _ _ [some (.ref 46), some (.int x0)] [] ((fl, n1, n2, p, q, ad), I1, J1)
  show ((I1 46 14) = (nI 0) → _) ∧ (¬ (I1 46 14) = (nI 0) → _)
  refine ⟨fun c0 => ?_, fun c0 => ?_⟩
  · show mm_u _ _ _ _ _ _ [some (.ref 46), some (.int x0)] [] ((fl, n1, n2, p, q, ad), I1, J1)
    show mm_wc d 167 [.ref 46, .int (nI 1)] ((fl, 0, 0, p, q, ad), I1, J1) _
    refine mm_wcm (h1.1 c0) ?_
    rintro v τ ⟨r2, I2, J2, rfl, rfl, h2⟩
    refine mm_r1' ⟨rfl, ?_⟩
    exact h2
  · show mm_b _ _ _ _ _ [some (.ref 46), some (.int x0)] [] ((fl, n1, n2, p, q, ad), I1, J1)
    show (vp_in (nI 5) 279) ∧ _
    refine ⟨(mm_inl (by decide)), ?_⟩
    show mm_b _ _ _ _ _ [some (.ref 46), some (.int x0)] [.int (I1 49 5), .int (nI 0), .int x0] ((fl, n1, n2, p, q, ad), I1, J1)
    show mm_wc d 169 [.int x0, .int (nI 0), .int ((I1 49 5) - (nI 1))] ((fl, 0, 0, p, q, ad), I1, J1) _
    refine mm_wcm (h1.2 c0) ?_
    rintro v τ ⟨r3, I3, J3, rfl, rfl, h3⟩
    refine mm_r1' ⟨rfl, ?_⟩
    show mm_b _ _ _ _ _ [some (.ref 46), some (.int x0)] [.int r3] ((fl, n1, n2, p, q, ad), I3, J3)
    show (¬ r3 = (nI 0) → _) ∧ (r3 = (nI 0) → _)
    refine ⟨fun c1 => ?_, fun c1 => ?_⟩
    · show mm_u _ _ _ _ _ _ [some (.ref 46), some (.int x0)] [] ((fl, n1, n2, p, q, ad), I3, J3)
      show vp_in ((nI 56) + x0) 279 ∧ _
      refine ⟨(h3.1 c1).1, ?_⟩
      show mm_b _ _ _ _ _ [some (.ref 46), some (.int x0)] [.int (I3 49 (((nI 56) + x0)).toNatClampNeg), .int (nI 23), .ref 49] ((fl, n1, n2, p, q, ad), I3, J3)
      show (vp_in (nI 23) 279) ∧ _
      refine ⟨(mm_inl (by decide)), ?_⟩
      show mm_b _ _ _ _ _ [some (.ref 46), some (.int x0)] [] ((fl, n1, n2, p, q, ad), (mm_up I3 49 23 (I3 49 (((nI 56) + x0)).toNatClampNeg)), J3)
      show vp_in ((nI 60) + x0) 279 ∧ _
      refine ⟨(h3.1 c1).2.1, ?_⟩
      show mm_b _ _ _ _ _ [some (.ref 46), some (.int x0)] [.int ((mm_up I3 49 23 (I3 49 (((nI 56) + x0)).toNatClampNeg)) 49 (((nI 60) + x0)).toNatClampNeg), .int (nI 34), .ref 49] ((fl, n1, n2, p, q, ad), (mm_up I3 49 23 (I3 49 (((nI 56) + x0)).toNatClampNeg)), J3)
      show (vp_in (nI 34) 279) ∧ _
      refine ⟨(mm_inl (by decide)), ?_⟩
      show mm_b _ _ _ _ _ [some (.ref 46), some (.int x0)] [] ((fl, n1, n2, p, q, ad), (mm_up (mm_up I3 49 23 (I3 49 (((nI 56) + x0)).toNatClampNeg)) 49 34 ((mm_up I3 49 23 (I3 49 (((nI 56) + x0)).toNatClampNeg)) 49 (((nI 60) + x0)).toNatClampNeg)), J3)
      show mm_wc d 210 [.ref 46] ((fl, 0, 0, p, q, ad), (mm_up (mm_up I3 49 23 (I3 49 (((nI 56) + x0)).toNatClampNeg)) 49 34 ((mm_up I3 49 23 (I3 49 (((nI 56) + x0)).toNatClampNeg)) 49 (((nI 60) + x0)).toNatClampNeg)), J3) _
      refine mm_wcm ((h3.1 c1).2.2) ?_
      rintro v τ ⟨I4, J4, rfl, rfl, h4⟩
      refine mm_r0' ⟨rfl, ?_⟩
      show mm_b _ _ _ _ _ [some (.ref 46), some (.int x0)] [] ((fl, n1, n2, p, q, ad), I4, J4)
      show mm_wc d 234 [.ref 46, .int (-1), .int (-1), .int (-1), .int (-1), .int (nI 0)] ((fl, 0, 0, p, q, ad), I4, J4) _
      refine mm_wcm h4 ?_
      rintro v τ ⟨I5, J5, rfl, rfl, h5⟩
      refine mm_r0' ⟨rfl, ?_⟩
      show mm_b _ _ _ _ _ [some (.ref 46), some (.int x0)] [] ((fl, n1, n2, p, q, ad), I5, J5)
      show mm_wc d 224 [.ref 46] ((fl, 0, 0, p, q, ad), I5, J5) _
      refine mm_wcm h5 ?_
      rintro v τ ⟨I6, J6, rfl, rfl, h6⟩
      refine mm_r0' ⟨rfl, ?_⟩
      show mm_b _ _ _ _ _ [some (.ref 46), some (.int x0)] [] ((fl, n1, n2, p, q, ad), I6, J6)
      show mm_wc d 239 [.ref 46, .int ((I6 46 17) ||| (nI 1024)), .int (I6 46 18)] ((fl, 0, 0, p, q, ad), I6, J6) _
      refine mm_wcm h6 ?_
      rintro v τ ⟨r7, I7, J7, rfl, rfl, h7⟩
      refine mm_r1' ⟨rfl, ?_⟩
      exact h7
    · show mm_b _ _ _ _ _ [some (.ref 46), some (.int x0)] [] ((fl, n1, n2, p, q, ad), I3, J3)
      show mm_wc d 167 [.ref 46, .int (nI 1)] ((fl, 0, 0, p, q, ad), I3, J3) _
      refine mm_wcm (h3.2 c1) ?_
      rintro v τ ⟨r8, I8, J8, rfl, rfl, h8⟩
      refine mm_r1' ⟨rfl, ?_⟩
      exact h8
/- 272 ThreeBreathsModel less -/
theorem fx_272 {d : Nat} {x0 : Int32} {x1 : Int32} {fl : Nat → Bool} {n1 n2 : Nat} {p q : Bool} {ad : Nat → Nat} {I : mmI} {J : mmJ} {Q : mmQ} (h : mm_wc d 166 [.ref 46] ((fl, 0, 0, p, q, ad), I, J) (fun v τ => ∃ I1 J1, v = none ∧ τ = ((fl, 0, 0, p, q, ad), I1, J1) ∧ (((I1 46 14) = (nI 0) → mm_wc d 167 [.ref 46, .int (nI 1)] ((fl, 0, 0, p, q, ad), I1, J1) (fun v τ => ∃ r2 I2 J2, v = some (.int r2) ∧ τ = ((fl, 0, 0, p, q, ad), I2, J2) ∧ Q (some (.int r2)) ((fl, n1, n2, p, q, ad), I2, J2))) ∧ (¬ (I1 46 14) = (nI 0) → mm_wc d 169 [.int x0, .int (nI 0), .int (nI 2)] ((fl, 0, 0, p, q, ad), I1, J1) (fun v τ => ∃ r3 I3 J3, v = some (.int r3) ∧ τ = ((fl, 0, 0, p, q, ad), I3, J3) ∧ ((r3 = (nI 0) → mm_wc d 167 [.ref 46, .int (nI 1)] ((fl, 0, 0, p, q, ad), I3, J3) (fun v τ => ∃ r4 I4 J4, v = some (.int r4) ∧ τ = ((fl, 0, 0, p, q, ad), I4, J4) ∧ Q (some (.int r4)) ((fl, n1, n2, p, q, ad), I4, J4))) ∧ (¬ r3 = (nI 0) → ((¬ x0 = (nI 0) → ((¬ x0 = (nI 1) → mm_wc d 169 [.int x1, .int (nI 0), .int ((I3 49 6) - (nI 1))] ((fl, 0, 0, p, q, ad), I3, J3) (fun v τ => ∃ r5 I5 J5, v = some (.int r5) ∧ τ = ((fl, 0, 0, p, q, ad), I5, J5) ∧ ((¬ r5 = (nI 0) → ((¬ x0 = (nI 2) → ((¬ x0 = (nI 1) → mm_wc d 234 [.ref 46, .int (-1), .int (-1), .int (-1), .int (-1), .int (nI 0)] ((fl, 0, 0, p, q, ad), I5, J5) (fun v τ => ∃ I6 J6, v = none ∧ τ = ((fl, 0, 0, p, q, ad), I6, J6) ∧ mm_wc d 224 [.ref 46] ((fl, 0, 0, p, q, ad), I6, J6) (fun v τ => ∃ I7 J7, v = none ∧ τ = ((fl, 0, 0, p, q, ad), I7, J7) ∧ ((¬ x0 = (nI 0) → mm_wc d 239 [.ref 46, .int ((I7 46 17) &&& (I7 46 27)), .int ((I7 46 18) &&& (I7 46 27))] ((fl, 0, 0, p, q, ad), I7, J7) (fun v τ => ∃ r8 I8 J8, v = some (.int r8) ∧ τ = ((fl, 0, 0, p, q, ad), I8, J8) ∧ Q (some (.int r8)) ((fl, n1, n2, p, q, ad), I8, J8))) ∧ (x0 = (nI 0) → mm_wc d 239 [.ref 46, .int ((I7 46 17) &&& ((I7 46 27) &&& (((nI 1) <<< (x1 &&& 31)) ^^^ (-1)))), .int ((I7 46 18) &&& ((I7 46 27) &&& (((nI 1) <<< (x1 &&& 31)) ^^^ (-1))))] ((fl, 0, 0, p, q, ad), (mm_up I7 46 27 ((I7 46 27) &&& (((nI 1) <<< (x1 &&& 31)) ^^^ (-1)))), J7) (fun v τ => ∃ r9 I9 J9, v = some (.int r9) ∧ τ = ((fl, 0, 0, p, q, ad), I9, J9) ∧ Q (some (.int r9)) ((fl, n1, n2, p, q, ad), I9, J9))))))) ∧ (x0 = (nI 1) → mm_wc d 234 [.ref 46, .int (-1), .int (-1), .int (-1), .int x1, .int (nI 0)] ((fl, 0, 0, p, q, ad), I5, J5) (fun v τ => ∃ I10 J10, v = none ∧ τ = ((fl, 0, 0, p, q, ad), I10, J10) ∧ mm_wc d 224 [.ref 46] ((fl, 0, 0, p, q, ad), I10, J10) (fun v τ => ∃ I11 J11, v = none ∧ τ = ((fl, 0, 0, p, q, ad), I11, J11) ∧ ((¬ x0 = (nI 0) → mm_wc d 239 [.ref 46, .int ((I11 46 17) &&& (I11 46 27)), .int ((I11 46 18) &&& (I11 46 27))] ((fl, 0, 0, p, q, ad), I11, J11) (fun v τ => ∃ r12 I12 J12, v = some (.int r12) ∧ τ = ((fl, 0, 0, p, q, ad), I12, J12) ∧ Q (some (.int r12)) ((fl, n1, n2, p, q, ad), I12, J12))) ∧ (x0 = (nI 0) → mm_wc d 239 [.ref 46, .int ((I11 46 17) &&& ((I11 46 27) &&& (((nI 1) <<< (x1 &&& 31)) ^^^ (-1)))), .int ((I11 46 18) &&& ((I11 46 27) &&& (((nI 1) <<< (x1 &&& 31)) ^^^ (-1))))] ((fl, 0, 0, p, q, ad), (mm_up I11 46 27 ((I11 46 27) &&& (((nI 1) <<< (x1 &&& 31)) ^^^ (-1)))), J11) (fun v τ => ∃ r13 I13 J13, v = some (.int r13) ∧ τ = ((fl, 0, 0, p, q, ad), I13, J13) ∧ Q (some (.int r13)) ((fl, n1, n2, p, q, ad), I13, J13))))))))) ∧ (x0 = (nI 2) → ((¬ x0 = (nI 1) → mm_wc d 234 [.ref 46, .int (-1), .int (-1), .int x1, .int (-1), .int (nI 0)] ((fl, 0, 0, p, q, ad), I5, J5) (fun v τ => ∃ I14 J14, v = none ∧ τ = ((fl, 0, 0, p, q, ad), I14, J14) ∧ mm_wc d 224 [.ref 46] ((fl, 0, 0, p, q, ad), I14, J14) (fun v τ => ∃ I15 J15, v = none ∧ τ = ((fl, 0, 0, p, q, ad), I15, J15) ∧ ((¬ x0 = (nI 0) → mm_wc d 239 [.ref 46, .int ((I15 46 17) &&& (I15 46 27)), .int ((I15 46 18) &&& (I15 46 27))] ((fl, 0, 0, p, q, ad), I15, J15) (fun v τ => ∃ r16 I16 J16, v = some (.int r16) ∧ τ = ((fl, 0, 0, p, q, ad), I16, J16) ∧ Q (some (.int r16)) ((fl, n1, n2, p, q, ad), I16, J16))) ∧ (x0 = (nI 0) → mm_wc d 239 [.ref 46, .int ((I15 46 17) &&& ((I15 46 27) &&& (((nI 1) <<< (x1 &&& 31)) ^^^ (-1)))), .int ((I15 46 18) &&& ((I15 46 27) &&& (((nI 1) <<< (x1 &&& 31)) ^^^ (-1))))] ((fl, 0, 0, p, q, ad), (mm_up I15 46 27 ((I15 46 27) &&& (((nI 1) <<< (x1 &&& 31)) ^^^ (-1)))), J15) (fun v τ => ∃ r17 I17 J17, v = some (.int r17) ∧ τ = ((fl, 0, 0, p, q, ad), I17, J17) ∧ Q (some (.int r17)) ((fl, n1, n2, p, q, ad), I17, J17))))))) ∧ (x0 = (nI 1) → mm_wc d 234 [.ref 46, .int (-1), .int (-1), .int x1, .int x1, .int (nI 0)] ((fl, 0, 0, p, q, ad), I5, J5) (fun v τ => ∃ I18 J18, v = none ∧ τ = ((fl, 0, 0, p, q, ad), I18, J18) ∧ mm_wc d 224 [.ref 46] ((fl, 0, 0, p, q, ad), I18, J18) (fun v τ => ∃ I19 J19, v = none ∧ τ = ((fl, 0, 0, p, q, ad), I19, J19) ∧ ((¬ x0 = (nI 0) → mm_wc d 239 [.ref 46, .int ((I19 46 17) &&& (I19 46 27)), .int ((I19 46 18) &&& (I19 46 27))] ((fl, 0, 0, p, q, ad), I19, J19) (fun v τ => ∃ r20 I20 J20, v = some (.int r20) ∧ τ = ((fl, 0, 0, p, q, ad), I20, J20) ∧ Q (some (.int r20)) ((fl, n1, n2, p, q, ad), I20, J20))) ∧ (x0 = (nI 0) → mm_wc d 239 [.ref 46, .int ((I19 46 17) &&& ((I19 46 27) &&& (((nI 1) <<< (x1 &&& 31)) ^^^ (-1)))), .int ((I19 46 18) &&& ((I19 46 27) &&& (((nI 1) <<< (x1 &&& 31)) ^^^ (-1))))] ((fl, 0, 0, p, q, ad), (mm_up I19 46 27 ((I19 46 27) &&& (((nI 1) <<< (x1 &&& 31)) ^^^ (-1)))), J19) (fun v τ => ∃ r21 I21 J21, v = some (.int r21) ∧ τ = ((fl, 0, 0, p, q, ad), I21, J21) ∧ Q (some (.int r21)) ((fl, n1, n2, p, q, ad), I21, J21))))))))))) ∧ (r5 = (nI 0) → mm_wc d 167 [.ref 46, .int (nI 1)] ((fl, 0, 0, p, q, ad), I5, J5) (fun v τ => ∃ r22 I22 J22, v = some (.int r22) ∧ τ = ((fl, 0, 0, p, q, ad), I22, J22) ∧ Q (some (.int r22)) ((fl, n1, n2, p, q, ad), I22, J22)))))) ∧ (x0 = (nI 1) → mm_wc d 169 [.int x1, .int (nI 0), .int ((I3 49 4) - (nI 1))] ((fl, 0, 0, p, q, ad), I3, J3) (fun v τ => ∃ r23 I23 J23, v = some (.int r23) ∧ τ = ((fl, 0, 0, p, q, ad), I23, J23) ∧ ((¬ r23 = (nI 0) → ((¬ x0 = (nI 2) → ((¬ x0 = (nI 1) → mm_wc d 234 [.ref 46, .int (-1), .int (-1), .int (-1), .int (-1), .int (nI 0)] ((fl, 0, 0, p, q, ad), I23, J23) (fun v τ => ∃ I24 J24, v = none ∧ τ = ((fl, 0, 0, p, q, ad), I24, J24) ∧ mm_wc d 224 [.ref 46] ((fl, 0, 0, p, q, ad), I24, J24) (fun v τ => ∃ I25 J25, v = none ∧ τ = ((fl, 0, 0, p, q, ad), I25, J25) ∧ ((¬ x0 = (nI 0) → mm_wc d 239 [.ref 46, .int ((I25 46 17) &&& (I25 46 27)), .int ((I25 46 18) &&& (I25 46 27))] ((fl, 0, 0, p, q, ad), I25, J25) (fun v τ => ∃ r26 I26 J26, v = some (.int r26) ∧ τ = ((fl, 0, 0, p, q, ad), I26, J26) ∧ Q (some (.int r26)) ((fl, n1, n2, p, q, ad), I26, J26))) ∧ (x0 = (nI 0) → mm_wc d 239 [.ref 46, .int ((I25 46 17) &&& ((I25 46 27) &&& (((nI 1) <<< (x1 &&& 31)) ^^^ (-1)))), .int ((I25 46 18) &&& ((I25 46 27) &&& (((nI 1) <<< (x1 &&& 31)) ^^^ (-1))))] ((fl, 0, 0, p, q, ad), (mm_up I25 46 27 ((I25 46 27) &&& (((nI 1) <<< (x1 &&& 31)) ^^^ (-1)))), J25) (fun v τ => ∃ r27 I27 J27, v = some (.int r27) ∧ τ = ((fl, 0, 0, p, q, ad), I27, J27) ∧ Q (some (.int r27)) ((fl, n1, n2, p, q, ad), I27, J27))))))) ∧ (x0 = (nI 1) → mm_wc d 234 [.ref 46, .int (-1), .int (-1), .int (-1), .int x1, .int (nI 0)] ((fl, 0, 0, p, q, ad), I23, J23) (fun v τ => ∃ I28 J28, v = none ∧ τ = ((fl, 0, 0, p, q, ad), I28, J28) ∧ mm_wc d 224 [.ref 46] ((fl, 0, 0, p, q, ad), I28, J28) (fun v τ => ∃ I29 J29, v = none ∧ τ = ((fl, 0, 0, p, q, ad), I29, J29) ∧ ((¬ x0 = (nI 0) → mm_wc d 239 [.ref 46, .int ((I29 46 17) &&& (I29 46 27)), .int ((I29 46 18) &&& (I29 46 27))] ((fl, 0, 0, p, q, ad), I29, J29) (fun v τ => ∃ r30 I30 J30, v = some (.int r30) ∧ τ = ((fl, 0, 0, p, q, ad), I30, J30) ∧ Q (some (.int r30)) ((fl, n1, n2, p, q, ad), I30, J30))) ∧ (x0 = (nI 0) → mm_wc d 239 [.ref 46, .int ((I29 46 17) &&& ((I29 46 27) &&& (((nI 1) <<< (x1 &&& 31)) ^^^ (-1)))), .int ((I29 46 18) &&& ((I29 46 27) &&& (((nI 1) <<< (x1 &&& 31)) ^^^ (-1))))] ((fl, 0, 0, p, q, ad), (mm_up I29 46 27 ((I29 46 27) &&& (((nI 1) <<< (x1 &&& 31)) ^^^ (-1)))), J29) (fun v τ => ∃ r31 I31 J31, v = some (.int r31) ∧ τ = ((fl, 0, 0, p, q, ad), I31, J31) ∧ Q (some (.int r31)) ((fl, n1, n2, p, q, ad), I31, J31))))))))) ∧ (x0 = (nI 2) → ((¬ x0 = (nI 1) → mm_wc d 234 [.ref 46, .int (-1), .int (-1), .int x1, .int (-1), .int (nI 0)] ((fl, 0, 0, p, q, ad), I23, J23) (fun v τ => ∃ I32 J32, v = none ∧ τ = ((fl, 0, 0, p, q, ad), I32, J32) ∧ mm_wc d 224 [.ref 46] ((fl, 0, 0, p, q, ad), I32, J32) (fun v τ => ∃ I33 J33, v = none ∧ τ = ((fl, 0, 0, p, q, ad), I33, J33) ∧ ((¬ x0 = (nI 0) → mm_wc d 239 [.ref 46, .int ((I33 46 17) &&& (I33 46 27)), .int ((I33 46 18) &&& (I33 46 27))] ((fl, 0, 0, p, q, ad), I33, J33) (fun v τ => ∃ r34 I34 J34, v = some (.int r34) ∧ τ = ((fl, 0, 0, p, q, ad), I34, J34) ∧ Q (some (.int r34)) ((fl, n1, n2, p, q, ad), I34, J34))) ∧ (x0 = (nI 0) → mm_wc d 239 [.ref 46, .int ((I33 46 17) &&& ((I33 46 27) &&& (((nI 1) <<< (x1 &&& 31)) ^^^ (-1)))), .int ((I33 46 18) &&& ((I33 46 27) &&& (((nI 1) <<< (x1 &&& 31)) ^^^ (-1))))] ((fl, 0, 0, p, q, ad), (mm_up I33 46 27 ((I33 46 27) &&& (((nI 1) <<< (x1 &&& 31)) ^^^ (-1)))), J33) (fun v τ => ∃ r35 I35 J35, v = some (.int r35) ∧ τ = ((fl, 0, 0, p, q, ad), I35, J35) ∧ Q (some (.int r35)) ((fl, n1, n2, p, q, ad), I35, J35))))))) ∧ (x0 = (nI 1) → mm_wc d 234 [.ref 46, .int (-1), .int (-1), .int x1, .int x1, .int (nI 0)] ((fl, 0, 0, p, q, ad), I23, J23) (fun v τ => ∃ I36 J36, v = none ∧ τ = ((fl, 0, 0, p, q, ad), I36, J36) ∧ mm_wc d 224 [.ref 46] ((fl, 0, 0, p, q, ad), I36, J36) (fun v τ => ∃ I37 J37, v = none ∧ τ = ((fl, 0, 0, p, q, ad), I37, J37) ∧ ((¬ x0 = (nI 0) → mm_wc d 239 [.ref 46, .int ((I37 46 17) &&& (I37 46 27)), .int ((I37 46 18) &&& (I37 46 27))] ((fl, 0, 0, p, q, ad), I37, J37) (fun v τ => ∃ r38 I38 J38, v = some (.int r38) ∧ τ = ((fl, 0, 0, p, q, ad), I38, J38) ∧ Q (some (.int r38)) ((fl, n1, n2, p, q, ad), I38, J38))) ∧ (x0 = (nI 0) → mm_wc d 239 [.ref 46, .int ((I37 46 17) &&& ((I37 46 27) &&& (((nI 1) <<< (x1 &&& 31)) ^^^ (-1)))), .int ((I37 46 18) &&& ((I37 46 27) &&& (((nI 1) <<< (x1 &&& 31)) ^^^ (-1))))] ((fl, 0, 0, p, q, ad), (mm_up I37 46 27 ((I37 46 27) &&& (((nI 1) <<< (x1 &&& 31)) ^^^ (-1)))), J37) (fun v τ => ∃ r39 I39 J39, v = some (.int r39) ∧ τ = ((fl, 0, 0, p, q, ad), I39, J39) ∧ Q (some (.int r39)) ((fl, n1, n2, p, q, ad), I39, J39))))))))))) ∧ (r23 = (nI 0) → mm_wc d 167 [.ref 46, .int (nI 1)] ((fl, 0, 0, p, q, ad), I23, J23) (fun v τ => ∃ r40 I40 J40, v = some (.int r40) ∧ τ = ((fl, 0, 0, p, q, ad), I40, J40) ∧ Q (some (.int r40)) ((fl, n1, n2, p, q, ad), I40, J40)))))))) ∧ (x0 = (nI 0) → mm_wc d 169 [.int x1, .int (nI 0), .int ((I3 49 3) - (nI 1))] ((fl, 0, 0, p, q, ad), I3, J3) (fun v τ => ∃ r41 I41 J41, v = some (.int r41) ∧ τ = ((fl, 0, 0, p, q, ad), I41, J41) ∧ ((¬ r41 = (nI 0) → ((¬ x0 = (nI 2) → ((¬ x0 = (nI 1) → mm_wc d 234 [.ref 46, .int (-1), .int (-1), .int (-1), .int (-1), .int (nI 0)] ((fl, 0, 0, p, q, ad), I41, J41) (fun v τ => ∃ I42 J42, v = none ∧ τ = ((fl, 0, 0, p, q, ad), I42, J42) ∧ mm_wc d 224 [.ref 46] ((fl, 0, 0, p, q, ad), I42, J42) (fun v τ => ∃ I43 J43, v = none ∧ τ = ((fl, 0, 0, p, q, ad), I43, J43) ∧ ((¬ x0 = (nI 0) → mm_wc d 239 [.ref 46, .int ((I43 46 17) &&& (I43 46 27)), .int ((I43 46 18) &&& (I43 46 27))] ((fl, 0, 0, p, q, ad), I43, J43) (fun v τ => ∃ r44 I44 J44, v = some (.int r44) ∧ τ = ((fl, 0, 0, p, q, ad), I44, J44) ∧ Q (some (.int r44)) ((fl, n1, n2, p, q, ad), I44, J44))) ∧ (x0 = (nI 0) → mm_wc d 239 [.ref 46, .int ((I43 46 17) &&& ((I43 46 27) &&& (((nI 1) <<< (x1 &&& 31)) ^^^ (-1)))), .int ((I43 46 18) &&& ((I43 46 27) &&& (((nI 1) <<< (x1 &&& 31)) ^^^ (-1))))] ((fl, 0, 0, p, q, ad), (mm_up I43 46 27 ((I43 46 27) &&& (((nI 1) <<< (x1 &&& 31)) ^^^ (-1)))), J43) (fun v τ => ∃ r45 I45 J45, v = some (.int r45) ∧ τ = ((fl, 0, 0, p, q, ad), I45, J45) ∧ Q (some (.int r45)) ((fl, n1, n2, p, q, ad), I45, J45))))))) ∧ (x0 = (nI 1) → mm_wc d 234 [.ref 46, .int (-1), .int (-1), .int (-1), .int x1, .int (nI 0)] ((fl, 0, 0, p, q, ad), I41, J41) (fun v τ => ∃ I46 J46, v = none ∧ τ = ((fl, 0, 0, p, q, ad), I46, J46) ∧ mm_wc d 224 [.ref 46] ((fl, 0, 0, p, q, ad), I46, J46) (fun v τ => ∃ I47 J47, v = none ∧ τ = ((fl, 0, 0, p, q, ad), I47, J47) ∧ ((¬ x0 = (nI 0) → mm_wc d 239 [.ref 46, .int ((I47 46 17) &&& (I47 46 27)), .int ((I47 46 18) &&& (I47 46 27))] ((fl, 0, 0, p, q, ad), I47, J47) (fun v τ => ∃ r48 I48 J48, v = some (.int r48) ∧ τ = ((fl, 0, 0, p, q, ad), I48, J48) ∧ Q (some (.int r48)) ((fl, n1, n2, p, q, ad), I48, J48))) ∧ (x0 = (nI 0) → mm_wc d 239 [.ref 46, .int ((I47 46 17) &&& ((I47 46 27) &&& (((nI 1) <<< (x1 &&& 31)) ^^^ (-1)))), .int ((I47 46 18) &&& ((I47 46 27) &&& (((nI 1) <<< (x1 &&& 31)) ^^^ (-1))))] ((fl, 0, 0, p, q, ad), (mm_up I47 46 27 ((I47 46 27) &&& (((nI 1) <<< (x1 &&& 31)) ^^^ (-1)))), J47) (fun v τ => ∃ r49 I49 J49, v = some (.int r49) ∧ τ = ((fl, 0, 0, p, q, ad), I49, J49) ∧ Q (some (.int r49)) ((fl, n1, n2, p, q, ad), I49, J49))))))))) ∧ (x0 = (nI 2) → ((¬ x0 = (nI 1) → mm_wc d 234 [.ref 46, .int (-1), .int (-1), .int x1, .int (-1), .int (nI 0)] ((fl, 0, 0, p, q, ad), I41, J41) (fun v τ => ∃ I50 J50, v = none ∧ τ = ((fl, 0, 0, p, q, ad), I50, J50) ∧ mm_wc d 224 [.ref 46] ((fl, 0, 0, p, q, ad), I50, J50) (fun v τ => ∃ I51 J51, v = none ∧ τ = ((fl, 0, 0, p, q, ad), I51, J51) ∧ ((¬ x0 = (nI 0) → mm_wc d 239 [.ref 46, .int ((I51 46 17) &&& (I51 46 27)), .int ((I51 46 18) &&& (I51 46 27))] ((fl, 0, 0, p, q, ad), I51, J51) (fun v τ => ∃ r52 I52 J52, v = some (.int r52) ∧ τ = ((fl, 0, 0, p, q, ad), I52, J52) ∧ Q (some (.int r52)) ((fl, n1, n2, p, q, ad), I52, J52))) ∧ (x0 = (nI 0) → mm_wc d 239 [.ref 46, .int ((I51 46 17) &&& ((I51 46 27) &&& (((nI 1) <<< (x1 &&& 31)) ^^^ (-1)))), .int ((I51 46 18) &&& ((I51 46 27) &&& (((nI 1) <<< (x1 &&& 31)) ^^^ (-1))))] ((fl, 0, 0, p, q, ad), (mm_up I51 46 27 ((I51 46 27) &&& (((nI 1) <<< (x1 &&& 31)) ^^^ (-1)))), J51) (fun v τ => ∃ r53 I53 J53, v = some (.int r53) ∧ τ = ((fl, 0, 0, p, q, ad), I53, J53) ∧ Q (some (.int r53)) ((fl, n1, n2, p, q, ad), I53, J53))))))) ∧ (x0 = (nI 1) → mm_wc d 234 [.ref 46, .int (-1), .int (-1), .int x1, .int x1, .int (nI 0)] ((fl, 0, 0, p, q, ad), I41, J41) (fun v τ => ∃ I54 J54, v = none ∧ τ = ((fl, 0, 0, p, q, ad), I54, J54) ∧ mm_wc d 224 [.ref 46] ((fl, 0, 0, p, q, ad), I54, J54) (fun v τ => ∃ I55 J55, v = none ∧ τ = ((fl, 0, 0, p, q, ad), I55, J55) ∧ ((¬ x0 = (nI 0) → mm_wc d 239 [.ref 46, .int ((I55 46 17) &&& (I55 46 27)), .int ((I55 46 18) &&& (I55 46 27))] ((fl, 0, 0, p, q, ad), I55, J55) (fun v τ => ∃ r56 I56 J56, v = some (.int r56) ∧ τ = ((fl, 0, 0, p, q, ad), I56, J56) ∧ Q (some (.int r56)) ((fl, n1, n2, p, q, ad), I56, J56))) ∧ (x0 = (nI 0) → mm_wc d 239 [.ref 46, .int ((I55 46 17) &&& ((I55 46 27) &&& (((nI 1) <<< (x1 &&& 31)) ^^^ (-1)))), .int ((I55 46 18) &&& ((I55 46 27) &&& (((nI 1) <<< (x1 &&& 31)) ^^^ (-1))))] ((fl, 0, 0, p, q, ad), (mm_up I55 46 27 ((I55 46 27) &&& (((nI 1) <<< (x1 &&& 31)) ^^^ (-1)))), J55) (fun v τ => ∃ r57 I57 J57, v = some (.int r57) ∧ τ = ((fl, 0, 0, p, q, ad), I57, J57) ∧ Q (some (.int r57)) ((fl, n1, n2, p, q, ad), I57, J57))))))))))) ∧ (r41 = (nI 0) → mm_wc d 167 [.ref 46, .int (nI 1)] ((fl, 0, 0, p, q, ad), I41, J41) (fun v τ => ∃ r58 I58 J58, v = some (.int r58) ∧ τ = ((fl, 0, 0, p, q, ad), I58, J58) ∧ Q (some (.int r58)) ((fl, n1, n2, p, q, ad), I58, J58)))))))))))))) : mm_wc (d + 1) 272 [.ref 46, .int x0, .int x1] ((fl, n1, n2, p, q, ad), I, J) Q := by
  refine mm_call (c := 272) rfl rfl ?_
  refine mm_go [] 80 ?_
  show mm_wc d 166 [.ref 46] ((fl, 0, 0, p, q, ad), I, J) _
  refine mm_wcm h ?_
  rintro v τ ⟨I1, J1, rfl, rfl, h1⟩
  refine mm_r0' ⟨rfl, ?_⟩
  show mm_b _ _ _ _ _ [some (.ref 46), some (.int x0), some (.int x1)] [] ((fl, n1, n2, p, q, ad), I1, J1)
  show ((I1 46 14) = (nI 0) → _) ∧ (¬ (I1 46 14) = (nI 0) → _)
  refine ⟨fun c0 => ?_, fun c0 => ?_⟩
  · show mm_u _ _ _ _ _ _ [some (.ref 46), some (.int x0), some (.int x1)] [] ((fl, n1, n2, p, q, ad), I1, J1)
    show mm_wc d 167 [.ref 46, .int (nI 1)] ((fl, 0, 0, p, q, ad), I1, J1) _
    refine mm_wcm (h1.1 c0) ?_
    rintro v τ ⟨r2, I2, J2, rfl, rfl, h2⟩
    refine mm_r1' ⟨rfl, ?_⟩
    exact h2
  · show mm_b _ _ _ _ _ [some (.ref 46), some (.int x0), some (.int x1)] [] ((fl, n1, n2, p, q, ad), I1, J1)
    show mm_wc d 169 [.int x0, .int (nI 0), .int (nI 2)] ((fl, 0, 0, p, q, ad), I1, J1) _
    refine mm_wcm (h1.2 c0) ?_
    rintro v τ ⟨r3, I3, J3, rfl, rfl, h3⟩
    refine mm_r1' ⟨rfl, ?_⟩
    show mm_b _ _ _ _ _ [some (.ref 46), some (.int x0), some (.int x1)] [.int r3] ((fl, n1, n2, p, q, ad), I3, J3)
    show (r3 = (nI 0) → _) ∧ (¬ r3 = (nI 0) → _)
    refine ⟨fun c1 => ?_, fun c1 => ?_⟩
    · show mm_u _ _ _ _ _ _ [some (.ref 46), some (.int x0), some (.int x1)] [] ((fl, n1, n2, p, q, ad), I3, J3)
      show mm_wc d 167 [.ref 46, .int (nI 1)] ((fl, 0, 0, p, q, ad), I3, J3) _
      refine mm_wcm (h3.1 c1) ?_
      rintro v τ ⟨r4, I4, J4, rfl, rfl, h4⟩
      refine mm_r1' ⟨rfl, ?_⟩
      exact h4
    · show mm_b _ _ _ _ _ [some (.ref 46), some (.int x0), some (.int x1)] [] ((fl, n1, n2, p, q, ad), I3, J3)
      show (¬ x0 = (nI 0) → _) ∧ (x0 = (nI 0) → _)
      refine ⟨fun c2 => ?_, fun c2 => ?_⟩
      · show mm_u _ _ _ _ _ _ [some (.ref 46), some (.int x0), some (.int x1)] [.int (nI 0), .int x1] ((fl, n1, n2, p, q, ad), I3, J3)
        show (¬ x0 = (nI 1) → _) ∧ (x0 = (nI 1) → _)
        refine ⟨fun c3 => ?_, fun c3 => ?_⟩
        · show mm_u _ _ _ _ _ _ [some (.ref 46), some (.int x0), some (.int x1)] [.int (nI 0), .int x1] ((fl, n1, n2, p, q, ad), I3, J3)
          show (vp_in (nI 6) 279) ∧ _
          refine ⟨(mm_inl (by decide)), ?_⟩
          show mm_b _ _ _ _ _ [some (.ref 46), some (.int x0), some (.int x1)] [.int (I3 49 6), .int (nI 0), .int x1] ((fl, n1, n2, p, q, ad), I3, J3)
          show mm_wc d 169 [.int x1, .int (nI 0), .int ((I3 49 6) - (nI 1))] ((fl, 0, 0, p, q, ad), I3, J3) _
          refine mm_wcm (((h3.2 c1).1 c2).1 c3) ?_
          rintro v τ ⟨r5, I5, J5, rfl, rfl, h5⟩
          refine mm_r1' ⟨rfl, ?_⟩
          show mm_b _ _ _ _ _ [some (.ref 46), some (.int x0), some (.int x1)] [.int r5] ((fl, n1, n2, p, q, ad), I5, J5)
          show (¬ r5 = (nI 0) → _) ∧ (r5 = (nI 0) → _)
          refine ⟨fun c4 => ?_, fun c4 => ?_⟩
          · show mm_u _ _ _ _ _ _ [some (.ref 46), some (.int x0), some (.int x1)] [] ((fl, n1, n2, p, q, ad), I5, J5)
            show (¬ x0 = (nI 2) → _) ∧ (x0 = (nI 2) → _)
            refine ⟨fun c5 => ?_, fun c5 => ?_⟩
            · show mm_u _ _ _ _ _ _ [some (.ref 46), some (.int x0), some (.int x1)] [.int (-1), .int (-1), .ref 46] ((fl, n1, n2, p, q, ad), I5, J5)
              show (¬ x0 = (nI 1) → _) ∧ (x0 = (nI 1) → _)
              refine ⟨fun c6 => ?_, fun c6 => ?_⟩
              · show mm_u _ _ _ _ _ _ [some (.ref 46), some (.int x0), some (.int x1)] [.int (-1), .int (-1), .int (-1), .ref 46] ((fl, n1, n2, p, q, ad), I5, J5)
                show mm_wc d 234 [.ref 46, .int (-1), .int (-1), .int (-1), .int (-1), .int (nI 0)] ((fl, 0, 0, p, q, ad), I5, J5) _
                refine mm_wcm (((h5.1 c4).1 c5).1 c6) ?_
                rintro v τ ⟨I6, J6, rfl, rfl, h6⟩
                refine mm_r0' ⟨rfl, ?_⟩
                show mm_b _ _ _ _ _ [some (.ref 46), some (.int x0), some (.int x1)] [] ((fl, n1, n2, p, q, ad), I6, J6)
                show mm_wc d 224 [.ref 46] ((fl, 0, 0, p, q, ad), I6, J6) _
                refine mm_wcm h6 ?_
                rintro v τ ⟨I7, J7, rfl, rfl, h7⟩
                refine mm_r0' ⟨rfl, ?_⟩
                show mm_b _ _ _ _ _ [some (.ref 46), some (.int x0), some (.int x1)] [] ((fl, n1, n2, p, q, ad), I7, J7)
                show (¬ x0 = (nI 0) → _) ∧ (x0 = (nI 0) → _)
                refine ⟨fun c7 => ?_, fun c7 => ?_⟩
                · show mm_u _ _ _ _ _ _ [some (.ref 46), some (.int x0), some (.int x1)] [] ((fl, n1, n2, p, q, ad), I7, J7)
                  show mm_wc d 239 [.ref 46, .int ((I7 46 17) &&& (I7 46 27)), .int ((I7 46 18) &&& (I7 46 27))] ((fl, 0, 0, p, q, ad), I7, J7) _
                  refine mm_wcm (h7.1 c7) ?_
                  rintro v τ ⟨r8, I8, J8, rfl, rfl, h8⟩
                  refine mm_r1' ⟨rfl, ?_⟩
                  exact h8
                · show mm_b _ _ _ _ _ [some (.ref 46), some (.int x0), some (.int x1)] [] ((fl, n1, n2, p, q, ad), I7, J7)
                  show mm_wc d 239 [.ref 46, .int ((I7 46 17) &&& ((I7 46 27) &&& (((nI 1) <<< (x1 &&& 31)) ^^^ (-1)))), .int ((I7 46 18) &&& ((I7 46 27) &&& (((nI 1) <<< (x1 &&& 31)) ^^^ (-1))))] ((fl, 0, 0, p, q, ad), (mm_up I7 46 27 ((I7 46 27) &&& (((nI 1) <<< (x1 &&& 31)) ^^^ (-1)))), J7) _
                  refine mm_wcm (h7.2 c7) ?_
                  rintro v τ ⟨r9, I9, J9, rfl, rfl, h9⟩
                  refine mm_r1' ⟨rfl, ?_⟩
                  exact h9
              · show mm_b _ _ _ _ _ [some (.ref 46), some (.int x0), some (.int x1)] [.int (-1), .int (-1), .int (-1), .ref 46] ((fl, n1, n2, p, q, ad), I5, J5)
                show mm_wc d 234 [.ref 46, .int (-1), .int (-1), .int (-1), .int x1, .int (nI 0)] ((fl, 0, 0, p, q, ad), I5, J5) _
                refine mm_wcm (((h5.1 c4).1 c5).2 c6) ?_
                rintro v τ ⟨I10, J10, rfl, rfl, h10⟩
                refine mm_r0' ⟨rfl, ?_⟩
                show mm_b _ _ _ _ _ [some (.ref 46), some (.int x0), some (.int x1)] [] ((fl, n1, n2, p, q, ad), I10, J10)
                show mm_wc d 224 [.ref 46] ((fl, 0, 0, p, q, ad), I10, J10) _
                refine mm_wcm h10 ?_
                rintro v τ ⟨I11, J11, rfl, rfl, h11⟩
                refine mm_r0' ⟨rfl, ?_⟩
                show mm_b _ _ _ _ _ [some (.ref 46), some (.int x0), some (.int x1)] [] ((fl, n1, n2, p, q, ad), I11, J11)
                show (¬ x0 = (nI 0) → _) ∧ (x0 = (nI 0) → _)
                refine ⟨fun c7 => ?_, fun c7 => ?_⟩
                · show mm_u _ _ _ _ _ _ [some (.ref 46), some (.int x0), some (.int x1)] [] ((fl, n1, n2, p, q, ad), I11, J11)
                  show mm_wc d 239 [.ref 46, .int ((I11 46 17) &&& (I11 46 27)), .int ((I11 46 18) &&& (I11 46 27))] ((fl, 0, 0, p, q, ad), I11, J11) _
                  refine mm_wcm (h11.1 c7) ?_
                  rintro v τ ⟨r12, I12, J12, rfl, rfl, h12⟩
                  refine mm_r1' ⟨rfl, ?_⟩
                  exact h12
                · show mm_b _ _ _ _ _ [some (.ref 46), some (.int x0), some (.int x1)] [] ((fl, n1, n2, p, q, ad), I11, J11)
                  show mm_wc d 239 [.ref 46, .int ((I11 46 17) &&& ((I11 46 27) &&& (((nI 1) <<< (x1 &&& 31)) ^^^ (-1)))), .int ((I11 46 18) &&& ((I11 46 27) &&& (((nI 1) <<< (x1 &&& 31)) ^^^ (-1))))] ((fl, 0, 0, p, q, ad), (mm_up I11 46 27 ((I11 46 27) &&& (((nI 1) <<< (x1 &&& 31)) ^^^ (-1)))), J11) _
                  refine mm_wcm (h11.2 c7) ?_
                  rintro v τ ⟨r13, I13, J13, rfl, rfl, h13⟩
                  refine mm_r1' ⟨rfl, ?_⟩
                  exact h13
            · show mm_b _ _ _ _ _ [some (.ref 46), some (.int x0), some (.int x1)] [.int (-1), .int (-1), .ref 46] ((fl, n1, n2, p, q, ad), I5, J5)
              show (¬ x0 = (nI 1) → _) ∧ (x0 = (nI 1) → _)
              refine ⟨fun c6 => ?_, fun c6 => ?_⟩
              · show mm_u _ _ _ _ _ _ [some (.ref 46), some (.int x0), some (.int x1)] [.int x1, .int (-1), .int (-1), .ref 46] ((fl, n1, n2, p, q, ad), I5, J5)
                show mm_wc d 234 [.ref 46, .int (-1), .int (-1), .int x1, .int (-1), .int (nI 0)] ((fl, 0, 0, p, q, ad), I5, J5) _
                refine mm_wcm (((h5.1 c4).2 c5).1 c6) ?_
                rintro v τ ⟨I14, J14, rfl, rfl, h14⟩
                refine mm_r0' ⟨rfl, ?_⟩
                show mm_b _ _ _ _ _ [some (.ref 46), some (.int x0), some (.int x1)] [] ((fl, n1, n2, p, q, ad), I14, J14)
                show mm_wc d 224 [.ref 46] ((fl, 0, 0, p, q, ad), I14, J14) _
                refine mm_wcm h14 ?_
                rintro v τ ⟨I15, J15, rfl, rfl, h15⟩
                refine mm_r0' ⟨rfl, ?_⟩
                show mm_b _ _ _ _ _ [some (.ref 46), some (.int x0), some (.int x1)] [] ((fl, n1, n2, p, q, ad), I15, J15)
                show (¬ x0 = (nI 0) → _) ∧ (x0 = (nI 0) → _)
                refine ⟨fun c7 => ?_, fun c7 => ?_⟩
                · show mm_u _ _ _ _ _ _ [some (.ref 46), some (.int x0), some (.int x1)] [] ((fl, n1, n2, p, q, ad), I15, J15)
                  show mm_wc d 239 [.ref 46, .int ((I15 46 17) &&& (I15 46 27)), .int ((I15 46 18) &&& (I15 46 27))] ((fl, 0, 0, p, q, ad), I15, J15) _
                  refine mm_wcm (h15.1 c7) ?_
                  rintro v τ ⟨r16, I16, J16, rfl, rfl, h16⟩
                  refine mm_r1' ⟨rfl, ?_⟩
                  exact h16
                · show mm_b _ _ _ _ _ [some (.ref 46), some (.int x0), some (.int x1)] [] ((fl, n1, n2, p, q, ad), I15, J15)
                  show mm_wc d 239 [.ref 46, .int ((I15 46 17) &&& ((I15 46 27) &&& (((nI 1) <<< (x1 &&& 31)) ^^^ (-1)))), .int ((I15 46 18) &&& ((I15 46 27) &&& (((nI 1) <<< (x1 &&& 31)) ^^^ (-1))))] ((fl, 0, 0, p, q, ad), (mm_up I15 46 27 ((I15 46 27) &&& (((nI 1) <<< (x1 &&& 31)) ^^^ (-1)))), J15) _
                  refine mm_wcm (h15.2 c7) ?_
                  rintro v τ ⟨r17, I17, J17, rfl, rfl, h17⟩
                  refine mm_r1' ⟨rfl, ?_⟩
                  exact h17
              · show mm_b _ _ _ _ _ [some (.ref 46), some (.int x0), some (.int x1)] [.int x1, .int (-1), .int (-1), .ref 46] ((fl, n1, n2, p, q, ad), I5, J5)
                show mm_wc d 234 [.ref 46, .int (-1), .int (-1), .int x1, .int x1, .int (nI 0)] ((fl, 0, 0, p, q, ad), I5, J5) _
                refine mm_wcm (((h5.1 c4).2 c5).2 c6) ?_
                rintro v τ ⟨I18, J18, rfl, rfl, h18⟩
                refine mm_r0' ⟨rfl, ?_⟩
                show mm_b _ _ _ _ _ [some (.ref 46), some (.int x0), some (.int x1)] [] ((fl, n1, n2, p, q, ad), I18, J18)
                show mm_wc d 224 [.ref 46] ((fl, 0, 0, p, q, ad), I18, J18) _
                refine mm_wcm h18 ?_
                rintro v τ ⟨I19, J19, rfl, rfl, h19⟩
                refine mm_r0' ⟨rfl, ?_⟩
                show mm_b _ _ _ _ _ [some (.ref 46), some (.int x0), some (.int x1)] [] ((fl, n1, n2, p, q, ad), I19, J19)
                show (¬ x0 = (nI 0) → _) ∧ (x0 = (nI 0) → _)
                refine ⟨fun c7 => ?_, fun c7 => ?_⟩
                · show mm_u _ _ _ _ _ _ [some (.ref 46), some (.int x0), some (.int x1)] [] ((fl, n1, n2, p, q, ad), I19, J19)
                  show mm_wc d 239 [.ref 46, .int ((I19 46 17) &&& (I19 46 27)), .int ((I19 46 18) &&& (I19 46 27))] ((fl, 0, 0, p, q, ad), I19, J19) _
                  refine mm_wcm (h19.1 c7) ?_
                  rintro v τ ⟨r20, I20, J20, rfl, rfl, h20⟩
                  refine mm_r1' ⟨rfl, ?_⟩
                  exact h20
                · show mm_b _ _ _ _ _ [some (.ref 46), some (.int x0), some (.int x1)] [] ((fl, n1, n2, p, q, ad), I19, J19)
                  show mm_wc d 239 [.ref 46, .int ((I19 46 17) &&& ((I19 46 27) &&& (((nI 1) <<< (x1 &&& 31)) ^^^ (-1)))), .int ((I19 46 18) &&& ((I19 46 27) &&& (((nI 1) <<< (x1 &&& 31)) ^^^ (-1))))] ((fl, 0, 0, p, q, ad), (mm_up I19 46 27 ((I19 46 27) &&& (((nI 1) <<< (x1 &&& 31)) ^^^ (-1)))), J19) _
                  refine mm_wcm (h19.2 c7) ?_
                  rintro v τ ⟨r21, I21, J21, rfl, rfl, h21⟩
                  refine mm_r1' ⟨rfl, ?_⟩
                  exact h21
          · show mm_b _ _ _ _ _ [some (.ref 46), some (.int x0), some (.int x1)] [] ((fl, n1, n2, p, q, ad), I5, J5)
            show mm_wc d 167 [.ref 46, .int (nI 1)] ((fl, 0, 0, p, q, ad), I5, J5) _
            refine mm_wcm (h5.2 c4) ?_
            rintro v τ ⟨r22, I22, J22, rfl, rfl, h22⟩
            refine mm_r1' ⟨rfl, ?_⟩
            exact h22
        · show mm_b _ _ _ _ _ [some (.ref 46), some (.int x0), some (.int x1)] [.int (nI 0), .int x1] ((fl, n1, n2, p, q, ad), I3, J3)
          show (vp_in (nI 4) 279) ∧ _
          refine ⟨(mm_inl (by decide)), ?_⟩
          show mm_b _ _ _ _ _ [some (.ref 46), some (.int x0), some (.int x1)] [.int (I3 49 4), .int (nI 0), .int x1] ((fl, n1, n2, p, q, ad), I3, J3)
          show mm_wc d 169 [.int x1, .int (nI 0), .int ((I3 49 4) - (nI 1))] ((fl, 0, 0, p, q, ad), I3, J3) _
          refine mm_wcm (((h3.2 c1).1 c2).2 c3) ?_
          rintro v τ ⟨r23, I23, J23, rfl, rfl, h23⟩
          refine mm_r1' ⟨rfl, ?_⟩
          show mm_b _ _ _ _ _ [some (.ref 46), some (.int x0), some (.int x1)] [.int r23] ((fl, n1, n2, p, q, ad), I23, J23)
          show (¬ r23 = (nI 0) → _) ∧ (r23 = (nI 0) → _)
          refine ⟨fun c4 => ?_, fun c4 => ?_⟩
          · show mm_u _ _ _ _ _ _ [some (.ref 46), some (.int x0), some (.int x1)] [] ((fl, n1, n2, p, q, ad), I23, J23)
            show (¬ x0 = (nI 2) → _) ∧ (x0 = (nI 2) → _)
            refine ⟨fun c5 => ?_, fun c5 => ?_⟩
            · show mm_u _ _ _ _ _ _ [some (.ref 46), some (.int x0), some (.int x1)] [.int (-1), .int (-1), .ref 46] ((fl, n1, n2, p, q, ad), I23, J23)
              show (¬ x0 = (nI 1) → _) ∧ (x0 = (nI 1) → _)
              refine ⟨fun c6 => ?_, fun c6 => ?_⟩
              · show mm_u _ _ _ _ _ _ [some (.ref 46), some (.int x0), some (.int x1)] [.int (-1), .int (-1), .int (-1), .ref 46] ((fl, n1, n2, p, q, ad), I23, J23)
                show mm_wc d 234 [.ref 46, .int (-1), .int (-1), .int (-1), .int (-1), .int (nI 0)] ((fl, 0, 0, p, q, ad), I23, J23) _
                refine mm_wcm (((h23.1 c4).1 c5).1 c6) ?_
                rintro v τ ⟨I24, J24, rfl, rfl, h24⟩
                refine mm_r0' ⟨rfl, ?_⟩
                show mm_b _ _ _ _ _ [some (.ref 46), some (.int x0), some (.int x1)] [] ((fl, n1, n2, p, q, ad), I24, J24)
                show mm_wc d 224 [.ref 46] ((fl, 0, 0, p, q, ad), I24, J24) _
                refine mm_wcm h24 ?_
                rintro v τ ⟨I25, J25, rfl, rfl, h25⟩
                refine mm_r0' ⟨rfl, ?_⟩
                show mm_b _ _ _ _ _ [some (.ref 46), some (.int x0), some (.int x1)] [] ((fl, n1, n2, p, q, ad), I25, J25)
                show (¬ x0 = (nI 0) → _) ∧ (x0 = (nI 0) → _)
                refine ⟨fun c7 => ?_, fun c7 => ?_⟩
                · show mm_u _ _ _ _ _ _ [some (.ref 46), some (.int x0), some (.int x1)] [] ((fl, n1, n2, p, q, ad), I25, J25)
                  show mm_wc d 239 [.ref 46, .int ((I25 46 17) &&& (I25 46 27)), .int ((I25 46 18) &&& (I25 46 27))] ((fl, 0, 0, p, q, ad), I25, J25) _
                  refine mm_wcm (h25.1 c7) ?_
                  rintro v τ ⟨r26, I26, J26, rfl, rfl, h26⟩
                  refine mm_r1' ⟨rfl, ?_⟩
                  exact h26
                · show mm_b _ _ _ _ _ [some (.ref 46), some (.int x0), some (.int x1)] [] ((fl, n1, n2, p, q, ad), I25, J25)
                  show mm_wc d 239 [.ref 46, .int ((I25 46 17) &&& ((I25 46 27) &&& (((nI 1) <<< (x1 &&& 31)) ^^^ (-1)))), .int ((I25 46 18) &&& ((I25 46 27) &&& (((nI 1) <<< (x1 &&& 31)) ^^^ (-1))))] ((fl, 0, 0, p, q, ad), (mm_up I25 46 27 ((I25 46 27) &&& (((nI 1) <<< (x1 &&& 31)) ^^^ (-1)))), J25) _
                  refine mm_wcm (h25.2 c7) ?_
                  rintro v τ ⟨r27, I27, J27, rfl, rfl, h27⟩
                  refine mm_r1' ⟨rfl, ?_⟩
                  exact h27
              · show mm_b _ _ _ _ _ [some (.ref 46), some (.int x0), some (.int x1)] [.int (-1), .int (-1), .int (-1), .ref 46] ((fl, n1, n2, p, q, ad), I23, J23)
                show mm_wc d 234 [.ref 46, .int (-1), .int (-1), .int (-1), .int x1, .int (nI 0)] ((fl, 0, 0, p, q, ad), I23, J23) _
                refine mm_wcm (((h23.1 c4).1 c5).2 c6) ?_
                rintro v τ ⟨I28, J28, rfl, rfl, h28⟩
                refine mm_r0' ⟨rfl, ?_⟩
                show mm_b _ _ _ _ _ [some (.ref 46), some (.int x0), some (.int x1)] [] ((fl, n1, n2, p, q, ad), I28, J28)
                show mm_wc d 224 [.ref 46] ((fl, 0, 0, p, q, ad), I28, J28) _
                refine mm_wcm h28 ?_
                rintro v τ ⟨I29, J29, rfl, rfl, h29⟩
                refine mm_r0' ⟨rfl, ?_⟩
                show mm_b _ _ _ _ _ [some (.ref 46), some (.int x0), some (.int x1)] [] ((fl, n1, n2, p, q, ad), I29, J29)
                show (¬ x0 = (nI 0) → _) ∧ (x0 = (nI 0) → _)
                refine ⟨fun c7 => ?_, fun c7 => ?_⟩
                · show mm_u _ _ _ _ _ _ [some (.ref 46), some (.int x0), some (.int x1)] [] ((fl, n1, n2, p, q, ad), I29, J29)
                  show mm_wc d 239 [.ref 46, .int ((I29 46 17) &&& (I29 46 27)), .int ((I29 46 18) &&& (I29 46 27))] ((fl, 0, 0, p, q, ad), I29, J29) _
                  refine mm_wcm (h29.1 c7) ?_
                  rintro v τ ⟨r30, I30, J30, rfl, rfl, h30⟩
                  refine mm_r1' ⟨rfl, ?_⟩
                  exact h30
                · show mm_b _ _ _ _ _ [some (.ref 46), some (.int x0), some (.int x1)] [] ((fl, n1, n2, p, q, ad), I29, J29)
                  show mm_wc d 239 [.ref 46, .int ((I29 46 17) &&& ((I29 46 27) &&& (((nI 1) <<< (x1 &&& 31)) ^^^ (-1)))), .int ((I29 46 18) &&& ((I29 46 27) &&& (((nI 1) <<< (x1 &&& 31)) ^^^ (-1))))] ((fl, 0, 0, p, q, ad), (mm_up I29 46 27 ((I29 46 27) &&& (((nI 1) <<< (x1 &&& 31)) ^^^ (-1)))), J29) _
                  refine mm_wcm (h29.2 c7) ?_
                  rintro v τ ⟨r31, I31, J31, rfl, rfl, h31⟩
                  refine mm_r1' ⟨rfl, ?_⟩
                  exact h31
            · show mm_b _ _ _ _ _ [some (.ref 46), some (.int x0), some (.int x1)] [.int (-1), .int (-1), .ref 46] ((fl, n1, n2, p, q, ad), I23, J23)
              show (¬ x0 = (nI 1) → _) ∧ (x0 = (nI 1) → _)
              refine ⟨fun c6 => ?_, fun c6 => ?_⟩
              · show mm_u _ _ _ _ _ _ [some (.ref 46), some (.int x0), some (.int x1)] [.int x1, .int (-1), .int (-1), .ref 46] ((fl, n1, n2, p, q, ad), I23, J23)
                show mm_wc d 234 [.ref 46, .int (-1), .int (-1), .int x1, .int (-1), .int (nI 0)] ((fl, 0, 0, p, q, ad), I23, J23) _
                refine mm_wcm (((h23.1 c4).2 c5).1 c6) ?_
                rintro v τ ⟨I32, J32, rfl, rfl, h32⟩
                refine mm_r0' ⟨rfl, ?_⟩
                show mm_b _ _ _ _ _ [some (.ref 46), some (.int x0), some (.int x1)] [] ((fl, n1, n2, p, q, ad), I32, J32)
                show mm_wc d 224 [.ref 46] ((fl, 0, 0, p, q, ad), I32, J32) _
                refine mm_wcm h32 ?_
                rintro v τ ⟨I33, J33, rfl, rfl, h33⟩
                refine mm_r0' ⟨rfl, ?_⟩
                show mm_b _ _ _ _ _ [some (.ref 46), some (.int x0), some (.int x1)] [] ((fl, n1, n2, p, q, ad), I33, J33)
                show (¬ x0 = (nI 0) → _) ∧ (x0 = (nI 0) → _)
                refine ⟨fun c7 => ?_, fun c7 => ?_⟩
                · show mm_u _ _ _ _ _ _ [some (.ref 46), some (.int x0), some (.int x1)] [] ((fl, n1, n2, p, q, ad), I33, J33)
                  show mm_wc d 239 [.ref 46, .int ((I33 46 17) &&& (I33 46 27)), .int ((I33 46 18) &&& (I33 46 27))] ((fl, 0, 0, p, q, ad), I33, J33) _
                  refine mm_wcm (h33.1 c7) ?_
                  rintro v τ ⟨r34, I34, J34, rfl, rfl, h34⟩
                  refine mm_r1' ⟨rfl, ?_⟩
                  exact h34
                · show mm_b _ _ _ _ _ [some (.ref 46), some (.int x0), some (.int x1)] [] ((fl, n1, n2, p, q, ad), I33, J33)
                  show mm_wc d 239 [.ref 46, .int ((I33 46 17) &&& ((I33 46 27) &&& (((nI 1) <<< (x1 &&& 31)) ^^^ (-1)))), .int ((I33 46 18) &&& ((I33 46 27) &&& (((nI 1) <<< (x1 &&& 31)) ^^^ (-1))))] ((fl, 0, 0, p, q, ad), (mm_up I33 46 27 ((I33 46 27) &&& (((nI 1) <<< (x1 &&& 31)) ^^^ (-1)))), J33) _
                  refine mm_wcm (h33.2 c7) ?_
                  rintro v τ ⟨r35, I35, J35, rfl, rfl, h35⟩
                  refine mm_r1' ⟨rfl, ?_⟩
                  exact h35
              · show mm_b _ _ _ _ _ [some (.ref 46), some (.int x0), some (.int x1)] [.int x1, .int (-1), .int (-1), .ref 46] ((fl, n1, n2, p, q, ad), I23, J23)
                show mm_wc d 234 [.ref 46, .int (-1), .int (-1), .int x1, .int x1, .int (nI 0)] ((fl, 0, 0, p, q, ad), I23, J23) _
                refine mm_wcm (((h23.1 c4).2 c5).2 c6) ?_
                rintro v τ ⟨I36, J36, rfl, rfl, h36⟩
                refine mm_r0' ⟨rfl, ?_⟩
                show mm_b _ _ _ _ _ [some (.ref 46), some (.int x0), some (.int x1)] [] ((fl, n1, n2, p, q, ad), I36, J36)
                show mm_wc d 224 [.ref 46] ((fl, 0, 0, p, q, ad), I36, J36) _
                refine mm_wcm h36 ?_
                rintro v τ ⟨I37, J37, rfl, rfl, h37⟩
                refine mm_r0' ⟨rfl, ?_⟩
                show mm_b _ _ _ _ _ [some (.ref 46), some (.int x0), some (.int x1)] [] ((fl, n1, n2, p, q, ad), I37, J37)
                show (¬ x0 = (nI 0) → _) ∧ (x0 = (nI 0) → _)
                refine ⟨fun c7 => ?_, fun c7 => ?_⟩
                · show mm_u _ _ _ _ _ _ [some (.ref 46), some (.int x0), some (.int x1)] [] ((fl, n1, n2, p, q, ad), I37, J37)
                  show mm_wc d 239 [.ref 46, .int ((I37 46 17) &&& (I37 46 27)), .int ((I37 46 18) &&& (I37 46 27))] ((fl, 0, 0, p, q, ad), I37, J37) _
                  refine mm_wcm (h37.1 c7) ?_
                  rintro v τ ⟨r38, I38, J38, rfl, rfl, h38⟩
                  refine mm_r1' ⟨rfl, ?_⟩
                  exact h38
                · show mm_b _ _ _ _ _ [some (.ref 46), some (.int x0), some (.int x1)] [] ((fl, n1, n2, p, q, ad), I37, J37)
                  show mm_wc d 239 [.ref 46, .int ((I37 46 17) &&& ((I37 46 27) &&& (((nI 1) <<< (x1 &&& 31)) ^^^ (-1)))), .int ((I37 46 18) &&& ((I37 46 27) &&& (((nI 1) <<< (x1 &&& 31)) ^^^ (-1))))] ((fl, 0, 0, p, q, ad), (mm_up I37 46 27 ((I37 46 27) &&& (((nI 1) <<< (x1 &&& 31)) ^^^ (-1)))), J37) _
                  refine mm_wcm (h37.2 c7) ?_
                  rintro v τ ⟨r39, I39, J39, rfl, rfl, h39⟩
                  refine mm_r1' ⟨rfl, ?_⟩
                  exact h39
          · show mm_b _ _ _ _ _ [some (.ref 46), some (.int x0), some (.int x1)] [] ((fl, n1, n2, p, q, ad), I23, J23)
            show mm_wc d 167 [.ref 46, .int (nI 1)] ((fl, 0, 0, p, q, ad), I23, J23) _
            refine mm_wcm (h23.2 c4) ?_
            rintro v τ ⟨r40, I40, J40, rfl, rfl, h40⟩
            refine mm_r1' ⟨rfl, ?_⟩
            exact h40
      · show mm_b _ _ _ _ _ [some (.ref 46), some (.int x0), some (.int x1)] [.int (nI 0), .int x1] ((fl, n1, n2, p, q, ad), I3, J3)
        show (vp_in (nI 3) 279) ∧ _
        refine ⟨(mm_inl (by decide)), ?_⟩
        show mm_b _ _ _ _ _ [some (.ref 46), some (.int x0), some (.int x1)] [.int (I3 49 3), .int (nI 0), .int x1] ((fl, n1, n2, p, q, ad), I3, J3)
        show mm_wc d 169 [.int x1, .int (nI 0), .int ((I3 49 3) - (nI 1))] ((fl, 0, 0, p, q, ad), I3, J3) _
        refine mm_wcm ((h3.2 c1).2 c2) ?_
        rintro v τ ⟨r41, I41, J41, rfl, rfl, h41⟩
        refine mm_r1' ⟨rfl, ?_⟩
        show mm_b _ _ _ _ _ [some (.ref 46), some (.int x0), some (.int x1)] [.int r41] ((fl, n1, n2, p, q, ad), I41, J41)
        show (¬ r41 = (nI 0) → _) ∧ (r41 = (nI 0) → _)
        refine ⟨fun c3 => ?_, fun c3 => ?_⟩
        · show mm_u _ _ _ _ _ _ [some (.ref 46), some (.int x0), some (.int x1)] [] ((fl, n1, n2, p, q, ad), I41, J41)
          show (¬ x0 = (nI 2) → _) ∧ (x0 = (nI 2) → _)
          refine ⟨fun c4 => ?_, fun c4 => ?_⟩
          · show mm_u _ _ _ _ _ _ [some (.ref 46), some (.int x0), some (.int x1)] [.int (-1), .int (-1), .ref 46] ((fl, n1, n2, p, q, ad), I41, J41)
            show (¬ x0 = (nI 1) → _) ∧ (x0 = (nI 1) → _)
            refine ⟨fun c5 => ?_, fun c5 => ?_⟩
            · show mm_u _ _ _ _ _ _ [some (.ref 46), some (.int x0), some (.int x1)] [.int (-1), .int (-1), .int (-1), .ref 46] ((fl, n1, n2, p, q, ad), I41, J41)
              show mm_wc d 234 [.ref 46, .int (-1), .int (-1), .int (-1), .int (-1), .int (nI 0)] ((fl, 0, 0, p, q, ad), I41, J41) _
              refine mm_wcm (((h41.1 c3).1 c4).1 c5) ?_
              rintro v τ ⟨I42, J42, rfl, rfl, h42⟩
              refine mm_r0' ⟨rfl, ?_⟩
              show mm_b _ _ _ _ _ [some (.ref 46), some (.int x0), some (.int x1)] [] ((fl, n1, n2, p, q, ad), I42, J42)
              show mm_wc d 224 [.ref 46] ((fl, 0, 0, p, q, ad), I42, J42) _
              refine mm_wcm h42 ?_
              rintro v τ ⟨I43, J43, rfl, rfl, h43⟩
              refine mm_r0' ⟨rfl, ?_⟩
              show mm_b _ _ _ _ _ [some (.ref 46), some (.int x0), some (.int x1)] [] ((fl, n1, n2, p, q, ad), I43, J43)
              show (¬ x0 = (nI 0) → _) ∧ (x0 = (nI 0) → _)
              refine ⟨fun c6 => ?_, fun c6 => ?_⟩
              · show mm_u _ _ _ _ _ _ [some (.ref 46), some (.int x0), some (.int x1)] [] ((fl, n1, n2, p, q, ad), I43, J43)
                show mm_wc d 239 [.ref 46, .int ((I43 46 17) &&& (I43 46 27)), .int ((I43 46 18) &&& (I43 46 27))] ((fl, 0, 0, p, q, ad), I43, J43) _
                refine mm_wcm (h43.1 c6) ?_
                rintro v τ ⟨r44, I44, J44, rfl, rfl, h44⟩
                refine mm_r1' ⟨rfl, ?_⟩
                exact h44
              · show mm_b _ _ _ _ _ [some (.ref 46), some (.int x0), some (.int x1)] [] ((fl, n1, n2, p, q, ad), I43, J43)
                show mm_wc d 239 [.ref 46, .int ((I43 46 17) &&& ((I43 46 27) &&& (((nI 1) <<< (x1 &&& 31)) ^^^ (-1)))), .int ((I43 46 18) &&& ((I43 46 27) &&& (((nI 1) <<< (x1 &&& 31)) ^^^ (-1))))] ((fl, 0, 0, p, q, ad), (mm_up I43 46 27 ((I43 46 27) &&& (((nI 1) <<< (x1 &&& 31)) ^^^ (-1)))), J43) _
                refine mm_wcm (h43.2 c6) ?_
                rintro v τ ⟨r45, I45, J45, rfl, rfl, h45⟩
                refine mm_r1' ⟨rfl, ?_⟩
                exact h45
            · show mm_b _ _ _ _ _ [some (.ref 46), some (.int x0), some (.int x1)] [.int (-1), .int (-1), .int (-1), .ref 46] ((fl, n1, n2, p, q, ad), I41, J41)
              show mm_wc d 234 [.ref 46, .int (-1), .int (-1), .int (-1), .int x1, .int (nI 0)] ((fl, 0, 0, p, q, ad), I41, J41) _
              refine mm_wcm (((h41.1 c3).1 c4).2 c5) ?_
              rintro v τ ⟨I46, J46, rfl, rfl, h46⟩
              refine mm_r0' ⟨rfl, ?_⟩
              show mm_b _ _ _ _ _ [some (.ref 46), some (.int x0), some (.int x1)] [] ((fl, n1, n2, p, q, ad), I46, J46)
              show mm_wc d 224 [.ref 46] ((fl, 0, 0, p, q, ad), I46, J46) _
              refine mm_wcm h46 ?_
              rintro v τ ⟨I47, J47, rfl, rfl, h47⟩
              refine mm_r0' ⟨rfl, ?_⟩
              show mm_b _ _ _ _ _ [some (.ref 46), some (.int x0), some (.int x1)] [] ((fl, n1, n2, p, q, ad), I47, J47)
              show (¬ x0 = (nI 0) → _) ∧ (x0 = (nI 0) → _)
              refine ⟨fun c6 => ?_, fun c6 => ?_⟩
              · show mm_u _ _ _ _ _ _ [some (.ref 46), some (.int x0), some (.int x1)] [] ((fl, n1, n2, p, q, ad), I47, J47)
                show mm_wc d 239 [.ref 46, .int ((I47 46 17) &&& (I47 46 27)), .int ((I47 46 18) &&& (I47 46 27))] ((fl, 0, 0, p, q, ad), I47, J47) _
                refine mm_wcm (h47.1 c6) ?_
                rintro v τ ⟨r48, I48, J48, rfl, rfl, h48⟩
                refine mm_r1' ⟨rfl, ?_⟩
                exact h48
              · show mm_b _ _ _ _ _ [some (.ref 46), some (.int x0), some (.int x1)] [] ((fl, n1, n2, p, q, ad), I47, J47)
                show mm_wc d 239 [.ref 46, .int ((I47 46 17) &&& ((I47 46 27) &&& (((nI 1) <<< (x1 &&& 31)) ^^^ (-1)))), .int ((I47 46 18) &&& ((I47 46 27) &&& (((nI 1) <<< (x1 &&& 31)) ^^^ (-1))))] ((fl, 0, 0, p, q, ad), (mm_up I47 46 27 ((I47 46 27) &&& (((nI 1) <<< (x1 &&& 31)) ^^^ (-1)))), J47) _
                refine mm_wcm (h47.2 c6) ?_
                rintro v τ ⟨r49, I49, J49, rfl, rfl, h49⟩
                refine mm_r1' ⟨rfl, ?_⟩
                exact h49
          · show mm_b _ _ _ _ _ [some (.ref 46), some (.int x0), some (.int x1)] [.int (-1), .int (-1), .ref 46] ((fl, n1, n2, p, q, ad), I41, J41)
            show (¬ x0 = (nI 1) → _) ∧ (x0 = (nI 1) → _)
            refine ⟨fun c5 => ?_, fun c5 => ?_⟩
            · show mm_u _ _ _ _ _ _ [some (.ref 46), some (.int x0), some (.int x1)] [.int x1, .int (-1), .int (-1), .ref 46] ((fl, n1, n2, p, q, ad), I41, J41)
              show mm_wc d 234 [.ref 46, .int (-1), .int (-1), .int x1, .int (-1), .int (nI 0)] ((fl, 0, 0, p, q, ad), I41, J41) _
              refine mm_wcm (((h41.1 c3).2 c4).1 c5) ?_
              rintro v τ ⟨I50, J50, rfl, rfl, h50⟩
              refine mm_r0' ⟨rfl, ?_⟩
              show mm_b _ _ _ _ _ [some (.ref 46), some (.int x0), some (.int x1)] [] ((fl, n1, n2, p, q, ad), I50, J50)
              show mm_wc d 224 [.ref 46] ((fl, 0, 0, p, q, ad), I50, J50) _
              refine mm_wcm h50 ?_
              rintro v τ ⟨I51, J51, rfl, rfl, h51⟩
              refine mm_r0' ⟨rfl, ?_⟩
              show mm_b _ _ _ _ _ [some (.ref 46), some (.int x0), some (.int x1)] [] ((fl, n1, n2, p, q, ad), I51, J51)
              show (¬ x0 = (nI 0) → _) ∧ (x0 = (nI 0) → _)
              refine ⟨fun c6 => ?_, fun c6 => ?_⟩
              · show mm_u _ _ _ _ _ _ [some (.ref 46), some (.int x0), some (.int x1)] [] ((fl, n1, n2, p, q, ad), I51, J51)
                show mm_wc d 239 [.ref 46, .int ((I51 46 17) &&& (I51 46 27)), .int ((I51 46 18) &&& (I51 46 27))] ((fl, 0, 0, p, q, ad), I51, J51) _
                refine mm_wcm (h51.1 c6) ?_
                rintro v τ ⟨r52, I52, J52, rfl, rfl, h52⟩
                refine mm_r1' ⟨rfl, ?_⟩
                exact h52
              · show mm_b _ _ _ _ _ [some (.ref 46), some (.int x0), some (.int x1)] [] ((fl, n1, n2, p, q, ad), I51, J51)
                show mm_wc d 239 [.ref 46, .int ((I51 46 17) &&& ((I51 46 27) &&& (((nI 1) <<< (x1 &&& 31)) ^^^ (-1)))), .int ((I51 46 18) &&& ((I51 46 27) &&& (((nI 1) <<< (x1 &&& 31)) ^^^ (-1))))] ((fl, 0, 0, p, q, ad), (mm_up I51 46 27 ((I51 46 27) &&& (((nI 1) <<< (x1 &&& 31)) ^^^ (-1)))), J51) _
                refine mm_wcm (h51.2 c6) ?_
                rintro v τ ⟨r53, I53, J53, rfl, rfl, h53⟩
                refine mm_r1' ⟨rfl, ?_⟩
                exact h53
            · show mm_b _ _ _ _ _ [some (.ref 46), some (.int x0), some (.int x1)] [.int x1, .int (-1), .int (-1), .ref 46] ((fl, n1, n2, p, q, ad), I41, J41)
              show mm_wc d 234 [.ref 46, .int (-1), .int (-1), .int x1, .int x1, .int (nI 0)] ((fl, 0, 0, p, q, ad), I41, J41) _
              refine mm_wcm (((h41.1 c3).2 c4).2 c5) ?_
              rintro v τ ⟨I54, J54, rfl, rfl, h54⟩
              refine mm_r0' ⟨rfl, ?_⟩
              show mm_b _ _ _ _ _ [some (.ref 46), some (.int x0), some (.int x1)] [] ((fl, n1, n2, p, q, ad), I54, J54)
              show mm_wc d 224 [.ref 46] ((fl, 0, 0, p, q, ad), I54, J54) _
              refine mm_wcm h54 ?_
              rintro v τ ⟨I55, J55, rfl, rfl, h55⟩
              refine mm_r0' ⟨rfl, ?_⟩
              show mm_b _ _ _ _ _ [some (.ref 46), some (.int x0), some (.int x1)] [] ((fl, n1, n2, p, q, ad), I55, J55)
              show (¬ x0 = (nI 0) → _) ∧ (x0 = (nI 0) → _)
              refine ⟨fun c6 => ?_, fun c6 => ?_⟩
              · show mm_u _ _ _ _ _ _ [some (.ref 46), some (.int x0), some (.int x1)] [] ((fl, n1, n2, p, q, ad), I55, J55)
                show mm_wc d 239 [.ref 46, .int ((I55 46 17) &&& (I55 46 27)), .int ((I55 46 18) &&& (I55 46 27))] ((fl, 0, 0, p, q, ad), I55, J55) _
                refine mm_wcm (h55.1 c6) ?_
                rintro v τ ⟨r56, I56, J56, rfl, rfl, h56⟩
                refine mm_r1' ⟨rfl, ?_⟩
                exact h56
              · show mm_b _ _ _ _ _ [some (.ref 46), some (.int x0), some (.int x1)] [] ((fl, n1, n2, p, q, ad), I55, J55)
                show mm_wc d 239 [.ref 46, .int ((I55 46 17) &&& ((I55 46 27) &&& (((nI 1) <<< (x1 &&& 31)) ^^^ (-1)))), .int ((I55 46 18) &&& ((I55 46 27) &&& (((nI 1) <<< (x1 &&& 31)) ^^^ (-1))))] ((fl, 0, 0, p, q, ad), (mm_up I55 46 27 ((I55 46 27) &&& (((nI 1) <<< (x1 &&& 31)) ^^^ (-1)))), J55) _
                refine mm_wcm (h55.2 c6) ?_
                rintro v τ ⟨r57, I57, J57, rfl, rfl, h57⟩
                refine mm_r1' ⟨rfl, ?_⟩
                exact h57
        · show mm_b _ _ _ _ _ [some (.ref 46), some (.int x0), some (.int x1)] [] ((fl, n1, n2, p, q, ad), I41, J41)
          show mm_wc d 167 [.ref 46, .int (nI 1)] ((fl, 0, 0, p, q, ad), I41, J41) _
          refine mm_wcm (h41.2 c3) ?_
          rintro v τ ⟨r58, I58, J58, rfl, rfl, h58⟩
          refine mm_r1' ⟨rfl, ?_⟩
          exact h58
/- 273 ThreeBreathsModel image -/
theorem fx_273 {d : Nat} {fl : Nat → Bool} {n1 n2 : Nat} {p q : Bool} {ad : Nat → Nat} {I : mmI} {J : mmJ} {Q : mmQ} (h : mm_wc d 166 [.ref 46] ((fl, 0, 0, p, q, ad), I, J) (fun v τ => ∃ I1 J1, v = none ∧ τ = ((fl, 0, 0, p, q, ad), I1, J1) ∧ ((¬ (I1 46 14) = (nI 0) → ((¬ (I1 46 20) = (nI 3) → (vp_in ((nI 2) * (I1 46 20)) 6 ∧ (vp_in (((nI 2) * (I1 46 20)) + (nI 1)) 6 ∧ Q (some (.int (((I1 46 20) + (nI 1)) - (nI 1)))) ((fl, n1, n2, p, q, ad), (mm_up (mm_up (mm_up I1 52 (((nI 2) * (I1 46 20))).toNatClampNeg (I1 46 17)) 52 ((((nI 2) * (I1 46 20)) + (nI 1))).toNatClampNeg (I1 46 18)) 46 20 ((I1 46 20) + (nI 1))), J1)))) ∧ ((I1 46 20) = (nI 3) → mm_wc d 167 [.ref 46, .int (nI 3)] ((fl, 0, 0, p, q, ad), I1, J1) (fun v τ => ∃ r2 I2 J2, v = some (.int r2) ∧ τ = ((fl, 0, 0, p, q, ad), I2, J2) ∧ Q (some (.int r2)) ((fl, n1, n2, p, q, ad), I2, J2))))) ∧ ((I1 46 14) = (nI 0) → mm_wc d 167 [.ref 46, .int (nI 1)] ((fl, 0, 0, p, q, ad), I1, J1) (fun v τ => ∃ r3 I3 J3, v = some (.int r3) ∧ τ = ((fl, 0, 0, p, q, ad), I3, J3) ∧ Q (some (.int r3)) ((fl, n1, n2, p, q, ad), I3, J3)))))) : mm_wc (d + 1) 273 [.ref 46] ((fl, n1, n2, p, q, ad), I, J) Q := by
  refine mm_call (c := 273) rfl rfl ?_
  refine mm_go [] 80 ?_
  show mm_wc d 166 [.ref 46] ((fl, 0, 0, p, q, ad), I, J) _
  refine mm_wcm h ?_
  rintro v τ ⟨I1, J1, rfl, rfl, h1⟩
  refine mm_r0' ⟨rfl, ?_⟩
  show mm_b _ _ _ _ _ [some (.ref 46)] [] ((fl, n1, n2, p, q, ad), I1, J1)
  show (¬ (I1 46 14) = (nI 0) → _) ∧ ((I1 46 14) = (nI 0) → _)
  refine ⟨fun c0 => ?_, fun c0 => ?_⟩
  · show mm_u _ _ _ _ _ _ [some (.ref 46)] [] ((fl, n1, n2, p, q, ad), I1, J1)
    show (¬ (I1 46 20) = (nI 3) → _) ∧ ((I1 46 20) = (nI 3) → _)
    refine ⟨fun c1 => ?_, fun c1 => ?_⟩
    · show mm_u _ _ _ _ _ _ [some (.ref 46)] [] ((fl, n1, n2, p, q, ad), I1, J1)
      show vp_in ((nI 2) * (I1 46 20)) 6 ∧ _
      refine ⟨((h1.1 c0).1 c1).1, ?_⟩
      show mm_b _ _ _ _ _ [some (.ref 46)] [] ((fl, n1, n2, p, q, ad), (mm_up I1 52 (((nI 2) * (I1 46 20))).toNatClampNeg (I1 46 17)), J1)
      show vp_in (((nI 2) * (I1 46 20)) + (nI 1)) 6 ∧ _
      refine ⟨((h1.1 c0).1 c1).2.1, ?_⟩
      exact ((h1.1 c0).1 c1).2.2
    · show mm_b _ _ _ _ _ [some (.ref 46)] [] ((fl, n1, n2, p, q, ad), I1, J1)
      show mm_wc d 167 [.ref 46, .int (nI 3)] ((fl, 0, 0, p, q, ad), I1, J1) _
      refine mm_wcm ((h1.1 c0).2 c1) ?_
      rintro v τ ⟨r2, I2, J2, rfl, rfl, h2⟩
      refine mm_r1' ⟨rfl, ?_⟩
      exact h2
  · show mm_b _ _ _ _ _ [some (.ref 46)] [] ((fl, n1, n2, p, q, ad), I1, J1)
    show mm_wc d 167 [.ref 46, .int (nI 1)] ((fl, 0, 0, p, q, ad), I1, J1) _
    refine mm_wcm (h1.2 c0) ?_
    rintro v τ ⟨r3, I3, J3, rfl, rfl, h3⟩
    refine mm_r1' ⟨rfl, ?_⟩
    exact h3
/- 274 ThreeBreathsModel back -/
theorem fx_274 {d : Nat} {x0 : Int32} {fl : Nat → Bool} {n1 n2 : Nat} {p q : Bool} {ad : Nat → Nat} {I : mmI} {J : mmJ} {Q : mmQ} (h : mm_wc d 166 [.ref 46] ((fl, 0, 0, p, q, ad), I, J) (fun v τ => ∃ I1 J1, v = none ∧ τ = ((fl, 0, 0, p, q, ad), I1, J1) ∧ mm_wc d 169 [.int x0, .int (nI 0), .int ((I1 46 20) - (nI 1))] ((fl, 0, 0, p, q, ad), I1, J1) (fun v τ => ∃ r2 I2 J2, v = some (.int r2) ∧ τ = ((fl, 0, 0, p, q, ad), I2, J2) ∧ ((¬ r2 = (nI 0) → (vp_in ((nI 2) * x0) 6 ∧ (vp_in (((nI 2) * x0) + (nI 1)) 6 ∧ Q (some (.int (nI 1))) ((fl, n1, n2, p, q, ad), (mm_up (mm_up (mm_up I2 46 17 (I2 52 (((nI 2) * x0)).toNatClampNeg)) 46 18 (I2 52 ((((nI 2) * x0) + (nI 1))).toNatClampNeg)) 46 19 (nI 0)), J2)))) ∧ (r2 = (nI 0) → mm_wc d 168 [.ref 46, .int (nI 1)] ((fl, 0, 0, p, q, ad), I2, J2) (fun v τ => ∃ r3 I3 J3, v = some (.int r3) ∧ τ = ((fl, 0, 0, p, q, ad), I3, J3) ∧ ((r3 = 0 ∨ r3 = 1) ∧ Q (some (.int r3)) ((fl, n1, n2, p, q, ad), I3, J3)))))))) : mm_wc (d + 1) 274 [.ref 46, .int x0] ((fl, n1, n2, p, q, ad), I, J) Q := by
  refine mm_call (c := 274) rfl rfl ?_
  refine mm_go [] 80 ?_
  show mm_wc d 166 [.ref 46] ((fl, 0, 0, p, q, ad), I, J) _
  refine mm_wcm h ?_
  rintro v τ ⟨I1, J1, rfl, rfl, h1⟩
  refine mm_r0' ⟨rfl, ?_⟩
  show mm_b _ _ _ _ _ [some (.ref 46), some (.int x0)] [] ((fl, n1, n2, p, q, ad), I1, J1)
  show mm_wc d 169 [.int x0, .int (nI 0), .int ((I1 46 20) - (nI 1))] ((fl, 0, 0, p, q, ad), I1, J1) _
  refine mm_wcm h1 ?_
  rintro v τ ⟨r2, I2, J2, rfl, rfl, h2⟩
  refine mm_r1' ⟨rfl, ?_⟩
  show mm_b _ _ _ _ _ [some (.ref 46), some (.int x0)] [.int r2] ((fl, n1, n2, p, q, ad), I2, J2)
  show (¬ r2 = (nI 0) → _) ∧ (r2 = (nI 0) → _)
  refine ⟨fun c0 => ?_, fun c0 => ?_⟩
  · show mm_u _ _ _ _ _ _ [some (.ref 46), some (.int x0)] [] ((fl, n1, n2, p, q, ad), I2, J2)
    show vp_in ((nI 2) * x0) 6 ∧ _
    refine ⟨(h2.1 c0).1, ?_⟩
    show mm_b _ _ _ _ _ [some (.ref 46), some (.int x0)] [.int (I2 52 (((nI 2) * x0)).toNatClampNeg), .ref 46] ((fl, n1, n2, p, q, ad), I2, J2)
    show vp_in (((nI 2) * x0) + (nI 1)) 6 ∧ _
    refine ⟨(h2.1 c0).2.1, ?_⟩
    show mm_b _ _ _ _ _ [some (.ref 46), some (.int x0)] [.int (I2 52 ((((nI 2) * x0) + (nI 1))).toNatClampNeg), .ref 46] ((fl, n1, n2, p, q, ad), (mm_up I2 46 17 (I2 52 (((nI 2) * x0)).toNatClampNeg)), J2)
    show (((nI 1) : Int32) = 0 ∨ ((nI 1) : Int32) = 1) ∧ _
    refine ⟨(by decide), ?_⟩
    exact (h2.1 c0).2.2
  · show mm_b _ _ _ _ _ [some (.ref 46), some (.int x0)] [] ((fl, n1, n2, p, q, ad), I2, J2)
    show mm_wc d 168 [.ref 46, .int (nI 1)] ((fl, 0, 0, p, q, ad), I2, J2) _
    refine mm_wcm (h2.2 c0) ?_
    rintro v τ ⟨r3, I3, J3, rfl, rfl, h3⟩
    refine mm_r1' ⟨rfl, ?_⟩
    show mm_b _ _ _ _ _ [some (.ref 46), some (.int x0)] [.int r3] ((fl, n1, n2, p, q, ad), I3, J3)
    show (r3 = 0 ∨ r3 = 1) ∧ _
    refine ⟨h3.1, ?_⟩
    exact h3.2
/- 275 ThreeBreathsModel led -/
theorem fx_275 {d : Nat} {x0 : Int32} {fl : Nat → Bool} {n1 n2 : Nat} {p q : Bool} {ad : Nat → Nat} {I : mmI} {J : mmJ} {Q : mmQ} (h : mm_w Q (mm_wc d) bk_275 4 [some (.ref 46), some (.int x0), some (.int (nI 0)), some (.int (nI 0))] [] ((fl, n1, n2, p, q, ad), I, J)) : mm_wc (d + 1) 275 [.ref 46, .int x0] ((fl, n1, n2, p, q, ad), I, J) Q := by
  refine mm_call (c := 275) rfl rfl ?_
  refine mm_go [4] 80 ?_
  exact h
theorem fx_275_4 {d : Nat} {a1 : Int32} {a2 : Int32} {a3 : Int32} {fl : Nat → Bool} {n1 n2 : Nat} {p q : Bool} {ad : Nat → Nat} {I : mmI} {J : mmJ} {Q : mmQ} (h : (((I 46 14) = (nI 0) → Q (some (.int (nI 0))) ((fl, n1, n2, p, q, ad), (mm_up I 46 0 (nI 1)), J)) ∧ (¬ (I 46 14) = (nI 0) → (((I 49 3) ≤ a3 → Q (some (.int (nI 0))) ((fl, n1, n2, p, q, ad), (mm_up I 46 0 (nI 1)), J)) ∧ (¬ (I 49 3) ≤ a3 → mm_wc d 170 [.int (I 46 17), .int a3] ((fl, 0, 0, p, q, ad), I, J) (fun v τ => ∃ r1 I1 J1, v = some (.int r1) ∧ τ = ((fl, 0, 0, p, q, ad), I1, J1) ∧ ((r1 = (nI 0) → ((¬ a2 = a1 → mm_w Q (mm_wc d) bk_275 4 [some (.ref 46), some (.int a1), some (.int (a2 + (nI 1))), some (.int (a3 + (nI 1)))] [] ((fl, n1, n2, p, q, ad), I1, J1)) ∧ (a2 = a1 → Q (some (.int a3)) ((fl, n1, n2, p, q, ad), (mm_up I1 46 0 (nI 0)), J1)))) ∧ (¬ r1 = (nI 0) → mm_w Q (mm_wc d) bk_275 4 [some (.ref 46), some (.int a1), some (.int a2), some (.int (a3 + (nI 1)))] [] ((fl, n1, n2, p, q, ad), I1, J1))))))))) : mm_w Q (mm_wc (d)) bk_275 4 [some (.ref 46), some (.int a1), some (.int a2), some (.int a3)] [] ((fl, n1, n2, p, q, ad), I, J) := by
  refine mm_go [4] 80 ?_
  show ((I 46 14) = (nI 0) → _) ∧ (¬ (I 46 14) = (nI 0) → _)
  refine ⟨fun c0 => ?_, fun c0 => ?_⟩
  · exact (h.1 c0)
  · show mm_b _ _ _ _ _ [some (.ref 46), some (.int a1), some (.int a2), some (.int a3)] [] ((fl, n1, n2, p, q, ad), I, J)
    show (vp_in (nI 3) 279) ∧ _
    refine ⟨(mm_inl (by decide)), ?_⟩
    show mm_b _ _ _ _ _ [some (.ref 46), some (.int a1), some (.int a2), some (.int a3)] [.int (I 49 3), .int a3] ((fl, n1, n2, p, q, ad), I, J)
    show ((I 49 3) ≤ a3 → _) ∧ (¬ (I 49 3) ≤ a3 → _)
    refine ⟨fun c1 => ?_, fun c1 => ?_⟩
    · exact ((h.2 c0).1 c1)
    · show mm_b _ _ _ _ _ [some (.ref 46), some (.int a1), some (.int a2), some (.int a3)] [] ((fl, n1, n2, p, q, ad), I, J)
      show mm_wc d 170 [.int (I 46 17), .int a3] ((fl, 0, 0, p, q, ad), I, J) _
      refine mm_wcm ((h.2 c0).2 c1) ?_
      rintro v τ ⟨r1, I1, J1, rfl, rfl, h1⟩
      refine mm_r1' ⟨rfl, ?_⟩
      show mm_b _ _ _ _ _ [some (.ref 46), some (.int a1), some (.int a2), some (.int a3)] [.int r1] ((fl, n1, n2, p, q, ad), I1, J1)
      show (r1 = (nI 0) → _) ∧ (¬ r1 = (nI 0) → _)
      refine ⟨fun c2 => ?_, fun c2 => ?_⟩
      · show mm_u _ _ _ _ _ _ [some (.ref 46), some (.int a1), some (.int a2), some (.int a3)] [] ((fl, n1, n2, p, q, ad), I1, J1)
        show (¬ a2 = a1 → _) ∧ (a2 = a1 → _)
        refine ⟨fun c3 => ?_, fun c3 => ?_⟩
        · exact ((h1.1 c2).1 c3)
        · exact ((h1.1 c2).2 c3)
      · exact (h1.2 c2)
/- 276 ThreeBreathsModel size -/
theorem fx_276 {d : Nat} {x0 : Int32} {fl : Nat → Bool} {n1 n2 : Nat} {p q : Bool} {ad : Nat → Nat} {I : mmI} {J : mmJ} {Q : mmQ} (h : ((¬ x0 = (nI 10) → ((¬ (I 46 14) = (nI 0) → ((x0.toInt < 0 ∨ 9 < x0.toInt → Q (some (.int (-1))) ((fl, n1, n2, p, q, ad), (mm_up I 46 0 (nI 0)), J)) ∧ (x0.toInt = 0 → Q (some (.int (I 49 3))) ((fl, n1, n2, p, q, ad), (mm_up I 46 0 (nI 0)), J)) ∧ (x0.toInt = 1 → Q (some (.int (I 49 4))) ((fl, n1, n2, p, q, ad), (mm_up I 46 0 (nI 0)), J)) ∧ (x0.toInt = 2 → Q (some (.int (I 49 5))) ((fl, n1, n2, p, q, ad), (mm_up I 46 0 (nI 0)), J)) ∧ (x0.toInt = 3 → Q (some (.int (I 49 6))) ((fl, n1, n2, p, q, ad), (mm_up I 46 0 (nI 0)), J)) ∧ (x0.toInt = 4 → Q (some (.int (I 49 1))) ((fl, n1, n2, p, q, ad), (mm_up I 46 0 (nI 0)), J)) ∧ (x0.toInt = 5 → Q (some (.int (I 49 2))) ((fl, n1, n2, p, q, ad), (mm_up I 46 0 (nI 0)), J)) ∧ (x0.toInt = 6 → Q (some (.int (I 49 7))) ((fl, n1, n2, p, q, ad), (mm_up I 46 0 (nI 0)), J)) ∧ (x0.toInt = 7 → ((¬ (I 49 8) = (nI 1) → Q (some (.int (-2))) ((fl, n1, n2, p, q, ad), (mm_up I 46 0 (nI 0)), J)) ∧ ((I 49 8) = (nI 1) → Q (some (.int (I 49 9))) ((fl, n1, n2, p, q, ad), (mm_up I 46 0 (nI 0)), J)))) ∧ (x0.toInt = 8 → Q (some (.int (I 46 19))) ((fl, n1, n2, p, q, ad), (mm_up I 46 0 (nI 0)), J)) ∧ (x0.toInt = 9 → Q (some (.int (I 46 20))) ((fl, n1, n2, p, q, ad), (mm_up I 46 0 (nI 0)), J)))) ∧ ((I 46 14) = (nI 0) → mm_wc d 169 [.int x0, .int (nI 0), .int (nI 9)] ((fl, 0, 0, p, q, ad), (mm_up I 46 0 (nI 0)), J) (fun v τ => ∃ r1 I1 J1, v = some (.int r1) ∧ τ = ((fl, 0, 0, p, q, ad), I1, J1) ∧ ((r1 = (nI 0) → Q (some (.int (-1))) ((fl, n1, n2, p, q, ad), I1, J1)) ∧ (¬ r1 = (nI 0) → Q (some (.int (nI 0))) ((fl, n1, n2, p, q, ad), I1, J1))))))) ∧ (x0 = (nI 10) → Q (some (.int (I 46 2))) ((fl, n1, n2, p, q, ad), (mm_up I 46 0 (nI 0)), J)))) : mm_wc (d + 1) 276 [.ref 46, .int x0] ((fl, n1, n2, p, q, ad), I, J) Q := by
  refine mm_call (c := 276) rfl rfl ?_
  refine mm_go [] 80 ?_
  show (¬ x0 = (nI 10) → _) ∧ (x0 = (nI 10) → _)
  refine ⟨fun c0 => ?_, fun c0 => ?_⟩
  · show mm_u _ _ _ _ _ _ [some (.ref 46), some (.int x0)] [] ((fl, n1, n2, p, q, ad), (mm_up I 46 0 (nI 0)), J)
    show (¬ (I 46 14) = (nI 0) → _) ∧ ((I 46 14) = (nI 0) → _)
    refine ⟨fun c1 => ?_, fun c1 => ?_⟩
    · show mm_u _ _ _ _ _ _ [some (.ref 46), some (.int x0)] [] ((fl, n1, n2, p, q, ad), (mm_up I 46 0 (nI 0)), J)
      refine ⟨fun c2 => ?_, fun off z1 z2 z3 => ?_⟩
      · exact (((h.1 c0).1 c1).1 c2)
      · have z4 : x0.toInt = 0 ∨ x0.toInt = 1 ∨ x0.toInt = 2 ∨ x0.toInt = 3 ∨ x0.toInt = 4 ∨ x0.toInt = 5 ∨ x0.toInt = 6 ∨ x0.toInt = 7 ∨ x0.toInt = 8 ∨ x0.toInt = 9 := by omega
        rcases z4 with c2 | c2 | c2 | c2 | c2 | c2 | c2 | c2 | c2 | c2
        · rw [c2] at z3; cases (show (some (56) : Option Int) = some off from z3)
          show mm_u _ _ _ _ _ _ [some (.ref 46), some (.int x0)] [] ((fl, n1, n2, p, q, ad), (mm_up I 46 0 (nI 0)), J)
          show (vp_in (nI 3) 279) ∧ _
          refine ⟨(mm_inl (by decide)), ?_⟩
          exact (((h.1 c0).1 c1).2.1 c2)
        · rw [c2] at z3; cases (show (some (63) : Option Int) = some off from z3)
          show mm_u _ _ _ _ _ _ [some (.ref 46), some (.int x0)] [] ((fl, n1, n2, p, q, ad), (mm_up I 46 0 (nI 0)), J)
          show (vp_in (nI 4) 279) ∧ _
          refine ⟨(mm_inl (by decide)), ?_⟩
          exact (((h.1 c0).1 c1).2.2.1 c2)
        · rw [c2] at z3; cases (show (some (70) : Option Int) = some off from z3)
          show mm_u _ _ _ _ _ _ [some (.ref 46), some (.int x0)] [] ((fl, n1, n2, p, q, ad), (mm_up I 46 0 (nI 0)), J)
          show (vp_in (nI 5) 279) ∧ _
          refine ⟨(mm_inl (by decide)), ?_⟩
          exact (((h.1 c0).1 c1).2.2.2.1 c2)
        · rw [c2] at z3; cases (show (some (77) : Option Int) = some off from z3)
          show mm_u _ _ _ _ _ _ [some (.ref 46), some (.int x0)] [] ((fl, n1, n2, p, q, ad), (mm_up I 46 0 (nI 0)), J)
          show (vp_in (nI 6) 279) ∧ _
          refine ⟨(mm_inl (by decide)), ?_⟩
          exact (((h.1 c0).1 c1).2.2.2.2.1 c2)
        · rw [c2] at z3; cases (show (some (85) : Option Int) = some off from z3)
          show mm_u _ _ _ _ _ _ [some (.ref 46), some (.int x0)] [] ((fl, n1, n2, p, q, ad), (mm_up I 46 0 (nI 0)), J)
          show (vp_in (nI 1) 279) ∧ _
          refine ⟨(mm_inl (by decide)), ?_⟩
          exact (((h.1 c0).1 c1).2.2.2.2.2.1 c2)
        · rw [c2] at z3; cases (show (some (92) : Option Int) = some off from z3)
          show mm_u _ _ _ _ _ _ [some (.ref 46), some (.int x0)] [] ((fl, n1, n2, p, q, ad), (mm_up I 46 0 (nI 0)), J)
          show (vp_in (nI 2) 279) ∧ _
          refine ⟨(mm_inl (by decide)), ?_⟩
          exact (((h.1 c0).1 c1).2.2.2.2.2.2.1 c2)
        · rw [c2] at z3; cases (show (some (99) : Option Int) = some off from z3)
          show mm_u _ _ _ _ _ _ [some (.ref 46), some (.int x0)] [] ((fl, n1, n2, p, q, ad), (mm_up I 46 0 (nI 0)), J)
          show (vp_in (nI 7) 279) ∧ _
          refine ⟨(mm_inl (by decide)), ?_⟩
          exact (((h.1 c0).1 c1).2.2.2.2.2.2.2.1 c2)
        · rw [c2] at z3; cases (show (some (107) : Option Int) = some off from z3)
          show mm_u _ _ _ _ _ _ [some (.ref 46), some (.int x0)] [] ((fl, n1, n2, p, q, ad), (mm_up I 46 0 (nI 0)), J)
          show (vp_in (nI 8) 279) ∧ _
          refine ⟨(mm_inl (by decide)), ?_⟩
          show mm_b _ _ _ _ _ [some (.ref 46), none] [.int (I 49 8)] ((fl, n1, n2, p, q, ad), (mm_up I 46 0 (nI 0)), J)
          show (¬ (I 49 8) = (nI 1) → _) ∧ ((I 49 8) = (nI 1) → _)
          refine ⟨fun c3 => ?_, fun c3 => ?_⟩
          · exact ((((h.1 c0).1 c1).2.2.2.2.2.2.2.2.1 c2).1 c3)
          · show mm_b _ _ _ _ _ [some (.ref 46), none] [] ((fl, n1, n2, p, q, ad), (mm_up I 46 0 (nI 0)), J)
            show (vp_in (nI 9) 279) ∧ _
            refine ⟨(mm_inl (by decide)), ?_⟩
            exact ((((h.1 c0).1 c1).2.2.2.2.2.2.2.2.1 c2).2 c3)
        · rw [c2] at z3; cases (show (some (131) : Option Int) = some off from z3)
          exact (((h.1 c0).1 c1).2.2.2.2.2.2.2.2.2.1 c2)
        · rw [c2] at z3; cases (show (some (136) : Option Int) = some off from z3)
          exact (((h.1 c0).1 c1).2.2.2.2.2.2.2.2.2.2 c2)
    · show mm_b _ _ _ _ _ [some (.ref 46), some (.int x0)] [] ((fl, n1, n2, p, q, ad), (mm_up I 46 0 (nI 0)), J)
      show mm_wc d 169 [.int x0, .int (nI 0), .int (nI 9)] ((fl, 0, 0, p, q, ad), (mm_up I 46 0 (nI 0)), J) _
      refine mm_wcm ((h.1 c0).2 c1) ?_
      rintro v τ ⟨r1, I1, J1, rfl, rfl, h1⟩
      refine mm_r1' ⟨rfl, ?_⟩
      show mm_b _ _ _ _ _ [some (.ref 46), some (.int x0)] [.int r1] ((fl, n1, n2, p, q, ad), I1, J1)
      show (r1 = (nI 0) → _) ∧ (¬ r1 = (nI 0) → _)
      refine ⟨fun c2 => ?_, fun c2 => ?_⟩
      · exact (h1.1 c2)
      · exact (h1.2 c2)
  · exact (h.2 c0)
/- 277 ThreeBreathsModel trouble -/
theorem fx_277 {d : Nat} {fl : Nat → Bool} {n1 n2 : Nat} {p q : Bool} {ad : Nat → Nat} {I : mmI} {J : mmJ} {Q : mmQ} (h : Q (some (.int (I 46 11))) ((fl, n1, n2, p, q, ad), (mm_up I 46 0 (nI 0)), J)) : mm_wc (d + 1) 277 [.ref 46] ((fl, n1, n2, p, q, ad), I, J) Q := by
  refine mm_call (c := 277) rfl rfl ?_
  refine mm_go [] 80 ?_
  exact h
