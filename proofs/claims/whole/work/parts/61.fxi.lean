/- 234 ThreeBreathsModel allow -/
theorem fx_234k {d : Nat} {x0 : Int32} {x1 : Int32} {x2 : Int32} {x3 : Int32} {x4 : Int32} {fl : Nat → Bool} {n1 n2 : Nat} {p q : Bool} {ad : Nat → Nat} {I : mmI} {J : mmJ} {Q : mmQ} (h : mm_w Q (mm_wc d) bk_234 8 [some (.ref 46), some (.int x0), some (.int x1), some (.int x2), some (.int x3), some (.int x4), some (.int (nI 0)), none, none] [] ((fl, n1, n2, p, q, ad), (mm_up I 46 32 (nI 0)), J)) : mm_wc (d + 1) 234 [.ref 46, .int x0, .int x1, .int x2, .int x3, .int x4] ((fl, n1, n2, p, q, ad), I, J) Q := by
  refine mm_call (c := 234) rfl rfl ?_
  refine mm_go [8, 31, 45, 70, 71, 76, 122, 130, 159] 80 ?_
  exact h
theorem fx_234k_8 {d : Nat} {a1 : Int32} {a2 : Int32} {a3 : Int32} {a4 : Int32} {a5 : Int32} {a6 : Int32} {fl : Nat → Bool} {n1 n2 : Nat} {p q : Bool} {ad : Nat → Nat} {I : mmI} {J : mmJ} {Q : mmQ} (h : mm_wc d 206 [.ref 46] ((fl, 0, 0, p, q, ad), I, J) (fun v τ => ∃ r1 I1 J1, v = some (.int r1) ∧ τ = ((fl, 0, 0, p, q, ad), I1, J1) ∧ ((r1 ≤ a6 → Q none ((fl, n1, n2, p, q, ad), I1, J1)) ∧ (¬ r1 ≤ a6 → ((a1 < (nI 0) → mm_w Q (mm_wc d) bk_234 31 [some (.ref 46), some (.int a1), some (.int a2), some (.int a3), some (.int a4), some (.int a5), some (.int a6), none, none] [] ((fl, n1, n2, p, q, ad), I1, J1)) ∧ (¬ a1 < (nI 0) → mm_wc d 207 [.ref 46, .int a6] ((fl, 0, 0, p, q, ad), I1, J1) (fun v τ => ∃ r2 I2 J2, v = some (.int r2) ∧ τ = ((fl, 0, 0, p, q, ad), I2, J2) ∧ ((¬ r2 = a1 → mm_w Q (mm_wc d) bk_234 70 [some (.ref 46), some (.int a1), some (.int a2), some (.int a3), some (.int a4), some (.int a5), some (.int a6), none, none] [] ((fl, n1, n2, p, q, ad), I2, J2)) ∧ (r2 = a1 → mm_w Q (mm_wc d) bk_234 31 [some (.ref 46), some (.int a1), some (.int a2), some (.int a3), some (.int a4), some (.int a5), some (.int a6), none, none] [] ((fl, n1, n2, p, q, ad), I2, J2)))))))))) : mm_w Q (mm_wc (d)) bk_234 8 [some (.ref 46), some (.int a1), some (.int a2), some (.int a3), some (.int a4), some (.int a5), some (.int a6), none, none] [] ((fl, n1, n2, p, q, ad), I, J) := by
  refine mm_go [8, 31, 45, 70, 71, 76, 122, 130, 159] 80 ?_
  show mm_wc d 206 [.ref 46] ((fl, 0, 0, p, q, ad), I, J) _
  refine mm_wcm h ?_
  rintro v τ ⟨r1, I1, J1, rfl, rfl, h1⟩
  refine mm_r1' ⟨rfl, ?_⟩
  show mm_b _ _ _ _ _ [some (.ref 46), some (.int a1), some (.int a2), some (.int a3), some (.int a4), some (.int a5), some (.int a6), none, none] [.int r1, .int a6] ((fl, n1, n2, p, q, ad), I1, J1)
  show (r1 ≤ a6 → _) ∧ (¬ r1 ≤ a6 → _)
  refine ⟨fun c0 => ?_, fun c0 => ?_⟩
  · exact (h1.1 c0)
  · show mm_b _ _ _ _ _ [some (.ref 46), some (.int a1), some (.int a2), some (.int a3), some (.int a4), some (.int a5), some (.int a6), none, none] [] ((fl, n1, n2, p, q, ad), I1, J1)
    show (a1 < (nI 0) → _) ∧ (¬ a1 < (nI 0) → _)
    refine ⟨fun c1 => ?_, fun c1 => ?_⟩
    · exact ((h1.2 c0).1 c1)
    · show mm_b _ _ _ _ _ [some (.ref 46), some (.int a1), some (.int a2), some (.int a3), some (.int a4), some (.int a5), some (.int a6), none, none] [] ((fl, n1, n2, p, q, ad), I1, J1)
      show mm_wc d 207 [.ref 46, .int a6] ((fl, 0, 0, p, q, ad), I1, J1) _
      refine mm_wcm ((h1.2 c0).2 c1) ?_
      rintro v τ ⟨r2, I2, J2, rfl, rfl, h2⟩
      refine mm_r1' ⟨rfl, ?_⟩
      show mm_b _ _ _ _ _ [some (.ref 46), some (.int a1), some (.int a2), some (.int a3), some (.int a4), some (.int a5), some (.int a6), none, none] [.int r2] ((fl, n1, n2, p, q, ad), I2, J2)
      show (¬ r2 = a1 → _) ∧ (r2 = a1 → _)
      refine ⟨fun c2 => ?_, fun c2 => ?_⟩
      · exact (h2.1 c2)
      · exact (h2.2 c2)
theorem fx_234k_31 {d : Nat} {a1 : Int32} {a2 : Int32} {a3 : Int32} {a4 : Int32} {a5 : Int32} {a6 : Int32} {fl : Nat → Bool} {n1 n2 : Nat} {p q : Bool} {ad : Nat → Nat} {I : mmI} {J : mmJ} {Q : mmQ} (h : ((a2 < (nI 0) → mm_w Q (mm_wc d) bk_234 45 [some (.ref 46), some (.int a1), some (.int a2), some (.int a3), some (.int a4), some (.int a5), some (.int a6), none, none] [] ((fl, n1, n2, p, q, ad), I, J)) ∧ (¬ a2 < (nI 0) → mm_wc d 208 [.ref 46, .int a6] ((fl, 0, 0, p, q, ad), I, J) (fun v τ => ∃ r1 I1 J1, v = some (.int r1) ∧ τ = ((fl, 0, 0, p, q, ad), I1, J1) ∧ ((¬ r1 = a2 → mm_w Q (mm_wc d) bk_234 70 [some (.ref 46), some (.int a1), some (.int a2), some (.int a3), some (.int a4), some (.int a5), some (.int a6), none, none] [] ((fl, n1, n2, p, q, ad), I1, J1)) ∧ (r1 = a2 → mm_w Q (mm_wc d) bk_234 45 [some (.ref 46), some (.int a1), some (.int a2), some (.int a3), some (.int a4), some (.int a5), some (.int a6), none, none] [] ((fl, n1, n2, p, q, ad), I1, J1))))))) : mm_w Q (mm_wc (d)) bk_234 31 [some (.ref 46), some (.int a1), some (.int a2), some (.int a3), some (.int a4), some (.int a5), some (.int a6), none, none] [] ((fl, n1, n2, p, q, ad), I, J) := by
  refine mm_go [8, 31, 45, 70, 71, 76, 122, 130, 159] 80 ?_
  show (a2 < (nI 0) → _) ∧ (¬ a2 < (nI 0) → _)
  refine ⟨fun c0 => ?_, fun c0 => ?_⟩
  · exact (h.1 c0)
  · show mm_b _ _ _ _ _ [some (.ref 46), some (.int a1), some (.int a2), some (.int a3), some (.int a4), some (.int a5), some (.int a6), none, none] [] ((fl, n1, n2, p, q, ad), I, J)
    show mm_wc d 208 [.ref 46, .int a6] ((fl, 0, 0, p, q, ad), I, J) _
    refine mm_wcm (h.2 c0) ?_
    rintro v τ ⟨r1, I1, J1, rfl, rfl, h1⟩
    refine mm_r1' ⟨rfl, ?_⟩
    show mm_b _ _ _ _ _ [some (.ref 46), some (.int a1), some (.int a2), some (.int a3), some (.int a4), some (.int a5), some (.int a6), none, none] [.int r1] ((fl, n1, n2, p, q, ad), I1, J1)
    show (¬ r1 = a2 → _) ∧ (r1 = a2 → _)
    refine ⟨fun c1 => ?_, fun c1 => ?_⟩
    · exact (h1.1 c1)
    · exact (h1.2 c1)
theorem fx_234k_70 {d : Nat} {a1 : Int32} {a2 : Int32} {a3 : Int32} {a4 : Int32} {a5 : Int32} {a6 : Int32} {fl : Nat → Bool} {n1 n2 : Nat} {p q : Bool} {ad : Nat → Nat} {I : mmI} {J : mmJ} {Q : mmQ} (h : mm_w Q (mm_wc d) bk_234 71 [some (.ref 46), some (.int a1), some (.int a2), some (.int a3), some (.int a4), some (.int a5), some (.int a6), none, none] [.int (nI 0)] ((fl, n1, n2, p, q, ad), I, J)) : mm_w Q (mm_wc (d)) bk_234 70 [some (.ref 46), some (.int a1), some (.int a2), some (.int a3), some (.int a4), some (.int a5), some (.int a6), none, none] [] ((fl, n1, n2, p, q, ad), I, J) := by
  refine mm_go [8, 31, 45, 70, 71, 76, 122, 130, 159] 80 ?_
  exact h
theorem fx_234k_45 {d : Nat} {a1 : Int32} {a2 : Int32} {a3 : Int32} {a4 : Int32} {a5 : Int32} {a6 : Int32} {fl : Nat → Bool} {n1 n2 : Nat} {p q : Bool} {ad : Nat → Nat} {I : mmI} {J : mmJ} {Q : mmQ} (h : mm_wc d 207 [.ref 46, .int a6] ((fl, 0, 0, p, q, ad), I, J) (fun v τ => ∃ r1 I1 J1, v = some (.int r1) ∧ τ = ((fl, 0, 0, p, q, ad), I1, J1) ∧ ((r1 = a3 → mm_w Q (mm_wc d) bk_234 70 [some (.ref 46), some (.int a1), some (.int a2), some (.int a3), some (.int a4), some (.int a5), some (.int a6), none, none] [] ((fl, n1, n2, p, q, ad), I1, J1)) ∧ (¬ r1 = a3 → mm_wc d 208 [.ref 46, .int a6] ((fl, 0, 0, p, q, ad), I1, J1) (fun v τ => ∃ r2 I2 J2, v = some (.int r2) ∧ τ = ((fl, 0, 0, p, q, ad), I2, J2) ∧ ((r2 = a4 → mm_w Q (mm_wc d) bk_234 70 [some (.ref 46), some (.int a1), some (.int a2), some (.int a3), some (.int a4), some (.int a5), some (.int a6), none, none] [] ((fl, n1, n2, p, q, ad), I2, J2)) ∧ (¬ r2 = a4 → mm_w Q (mm_wc d) bk_234 71 [some (.ref 46), some (.int a1), some (.int a2), some (.int a3), some (.int a4), some (.int a5), some (.int a6), none, none] [.int (nI 1)] ((fl, n1, n2, p, q, ad), I2, J2)))))))) : mm_w Q (mm_wc (d)) bk_234 45 [some (.ref 46), some (.int a1), some (.int a2), some (.int a3), some (.int a4), some (.int a5), some (.int a6), none, none] [] ((fl, n1, n2, p, q, ad), I, J) := by
  refine mm_go [8, 31, 45, 70, 71, 76, 122, 130, 159] 80 ?_
  show mm_wc d 207 [.ref 46, .int a6] ((fl, 0, 0, p, q, ad), I, J) _
  refine mm_wcm h ?_
  rintro v τ ⟨r1, I1, J1, rfl, rfl, h1⟩
  refine mm_r1' ⟨rfl, ?_⟩
  show mm_b _ _ _ _ _ [some (.ref 46), some (.int a1), some (.int a2), some (.int a3), some (.int a4), some (.int a5), some (.int a6), none, none] [.int r1] ((fl, n1, n2, p, q, ad), I1, J1)
  show (r1 = a3 → _) ∧ (¬ r1 = a3 → _)
  refine ⟨fun c0 => ?_, fun c0 => ?_⟩
  · exact (h1.1 c0)
  · show mm_b _ _ _ _ _ [some (.ref 46), some (.int a1), some (.int a2), some (.int a3), some (.int a4), some (.int a5), some (.int a6), none, none] [] ((fl, n1, n2, p, q, ad), I1, J1)
    show mm_wc d 208 [.ref 46, .int a6] ((fl, 0, 0, p, q, ad), I1, J1) _
    refine mm_wcm (h1.2 c0) ?_
    rintro v τ ⟨r2, I2, J2, rfl, rfl, h2⟩
    refine mm_r1' ⟨rfl, ?_⟩
    show mm_b _ _ _ _ _ [some (.ref 46), some (.int a1), some (.int a2), some (.int a3), some (.int a4), some (.int a5), some (.int a6), none, none] [.int r2] ((fl, n1, n2, p, q, ad), I2, J2)
    show (r2 = a4 → _) ∧ (¬ r2 = a4 → _)
    refine ⟨fun c1 => ?_, fun c1 => ?_⟩
    · exact (h2.1 c1)
    · exact (h2.2 c1)
theorem fx_234k_71 {d : Nat} {a1 : Int32} {a2 : Int32} {a3 : Int32} {a4 : Int32} {a5 : Int32} {a6 : Int32} {s0 : Int32} {fl : Nat → Bool} {n1 n2 : Nat} {p q : Bool} {ad : Nat → Nat} {I : mmI} {J : mmJ} {Q : mmQ} (h : mm_w Q (mm_wc d) bk_234 76 [some (.ref 46), some (.int a1), some (.int a2), some (.int a3), some (.int a4), some (.int a5), some (.int a6), some (.int s0), some (.int (nI 0))] [] ((fl, n1, n2, p, q, ad), I, J)) : mm_w Q (mm_wc (d)) bk_234 71 [some (.ref 46), some (.int a1), some (.int a2), some (.int a3), some (.int a4), some (.int a5), some (.int a6), none, none] [.int s0] ((fl, n1, n2, p, q, ad), I, J) := by
  refine mm_go [8, 31, 45, 70, 71, 76, 122, 130, 159] 80 ?_
  exact h
theorem fx_234k_76 {d : Nat} {a1 : Int32} {a2 : Int32} {a3 : Int32} {a4 : Int32} {a5 : Int32} {a6 : Int32} {a7 : Int32} {a8 : Int32} {fl : Nat → Bool} {n1 n2 : Nat} {p q : Bool} {ad : Nat → Nat} {I : mmI} {J : mmJ} {Q : mmQ} (h : (((I 46 32) ≤ a8 → mm_w Q (mm_wc d) bk_234 130 [some (.ref 46), some (.int a1), some (.int a2), some (.int a3), some (.int a4), some (.int a5), some (.int a6), some (.int a7), none] [] ((fl, n1, n2, p, q, ad), I, J)) ∧ (¬ (I 46 32) ≤ a8 → ((a7 = (nI 0) → mm_w Q (mm_wc d) bk_234 130 [some (.ref 46), some (.int a1), some (.int a2), some (.int a3), some (.int a4), some (.int a5), some (.int a6), some (.int a7), none] [] ((fl, n1, n2, p, q, ad), I, J)) ∧ (¬ a7 = (nI 0) → ((¬ a5 = (nI 0) → mm_w Q (mm_wc d) bk_234 130 [some (.ref 46), some (.int a1), some (.int a2), some (.int a3), some (.int a4), some (.int a5), some (.int a6), some (.int a7), none] [] ((fl, n1, n2, p, q, ad), I, J)) ∧ (a5 = (nI 0) → (vp_in a8 320 ∧ (vp_in (I 57 a8.toNatClampNeg) 320 ∧ (vp_in a6 320 ∧ (((I 53 ((I 57 a8.toNatClampNeg)).toNatClampNeg) = (I 53 a6.toNatClampNeg) → mm_w Q (mm_wc d) bk_234 122 [some (.ref 46), some (.int a1), some (.int a2), some (.int a3), some (.int a4), some (.int a5), some (.int a6), none, some (.int a8)] [.int (nI 0)] ((fl, n1, n2, p, q, ad), I, J)) ∧ (¬ (I 53 ((I 57 a8.toNatClampNeg)).toNatClampNeg) = (I 53 a6.toNatClampNeg) → mm_w Q (mm_wc d) bk_234 122 [some (.ref 46), some (.int a1), some (.int a2), some (.int a3), some (.int a4), some (.int a5), some (.int a6), none, some (.int a8)] [.int (nI 1)] ((fl, n1, n2, p, q, ad), I, J))))))))))))) : mm_w Q (mm_wc (d)) bk_234 76 [some (.ref 46), some (.int a1), some (.int a2), some (.int a3), some (.int a4), some (.int a5), some (.int a6), some (.int a7), some (.int a8)] [] ((fl, n1, n2, p, q, ad), I, J) := by
  refine mm_go [8, 31, 45, 70, 71, 76, 122, 130, 159] 80 ?_
  show ((I 46 32) ≤ a8 → _) ∧ (¬ (I 46 32) ≤ a8 → _)
  refine ⟨fun c0 => ?_, fun c0 => ?_⟩
  · exact (h.1 c0)
  · show mm_b _ _ _ _ _ [some (.ref 46), some (.int a1), some (.int a2), some (.int a3), some (.int a4), some (.int a5), some (.int a6), some (.int a7), some (.int a8)] [] ((fl, n1, n2, p, q, ad), I, J)
    show (a7 = (nI 0) → _) ∧ (¬ a7 = (nI 0) → _)
    refine ⟨fun c1 => ?_, fun c1 => ?_⟩
    · exact ((h.2 c0).1 c1)
    · show mm_b _ _ _ _ _ [some (.ref 46), some (.int a1), some (.int a2), some (.int a3), some (.int a4), some (.int a5), some (.int a6), some (.int a7), some (.int a8)] [] ((fl, n1, n2, p, q, ad), I, J)
      show (¬ a5 = (nI 0) → _) ∧ (a5 = (nI 0) → _)
      refine ⟨fun c2 => ?_, fun c2 => ?_⟩
      · exact (((h.2 c0).2 c1).1 c2)
      · show mm_b _ _ _ _ _ [some (.ref 46), some (.int a1), some (.int a2), some (.int a3), some (.int a4), some (.int a5), some (.int a6), some (.int a7), some (.int a8)] [] ((fl, n1, n2, p, q, ad), I, J)
        show vp_in a8 320 ∧ _
        refine ⟨(((h.2 c0).2 c1).2 c2).1, ?_⟩
        show mm_b _ _ _ _ _ [some (.ref 46), some (.int a1), some (.int a2), some (.int a3), some (.int a4), some (.int a5), some (.int a6), some (.int a7), some (.int a8)] [.int (I 57 a8.toNatClampNeg), .ref 53] ((fl, n1, n2, p, q, ad), I, J)
        show vp_in (I 57 a8.toNatClampNeg) 320 ∧ _
        refine ⟨(((h.2 c0).2 c1).2 c2).2.1, ?_⟩
        show mm_b _ _ _ _ _ [some (.ref 46), some (.int a1), some (.int a2), some (.int a3), some (.int a4), some (.int a5), some (.int a6), some (.int a7), some (.int a8)] [.int (I 53 ((I 57 a8.toNatClampNeg)).toNatClampNeg)] ((fl, n1, n2, p, q, ad), I, J)
        show vp_in a6 320 ∧ _
        refine ⟨(((h.2 c0).2 c1).2 c2).2.2.1, ?_⟩
        show mm_b _ _ _ _ _ [some (.ref 46), some (.int a1), some (.int a2), some (.int a3), some (.int a4), some (.int a5), some (.int a6), some (.int a7), some (.int a8)] [.int (I 53 a6.toNatClampNeg), .int (I 53 ((I 57 a8.toNatClampNeg)).toNatClampNeg)] ((fl, n1, n2, p, q, ad), I, J)
        show ((I 53 ((I 57 a8.toNatClampNeg)).toNatClampNeg) = (I 53 a6.toNatClampNeg) → _) ∧ (¬ (I 53 ((I 57 a8.toNatClampNeg)).toNatClampNeg) = (I 53 a6.toNatClampNeg) → _)
        refine ⟨fun c3 => ?_, fun c3 => ?_⟩
        · exact ((((h.2 c0).2 c1).2 c2).2.2.2.1 c3)
        · exact ((((h.2 c0).2 c1).2 c2).2.2.2.2 c3)
theorem fx_234k_130 {d : Nat} {a1 : Int32} {a2 : Int32} {a3 : Int32} {a4 : Int32} {a5 : Int32} {a6 : Int32} {a7 : Int32} {fl : Nat → Bool} {n1 n2 : Nat} {p q : Bool} {ad : Nat → Nat} {I : mmI} {J : mmJ} {Q : mmQ} (h : ((¬ a7 = (nI 0) → (vp_in (I 46 32) 320 ∧ mm_w Q (mm_wc d) bk_234 159 [some (.ref 46), some (.int a1), some (.int a2), some (.int a3), some (.int a4), some (.int a5), some (.int a6), none, none] [] ((fl, n1, n2, p, q, ad), (mm_up (mm_up I 57 ((I 46 32)).toNatClampNeg a6) 46 32 ((I 46 32) + (nI 1))), J))) ∧ (a7 = (nI 0) → mm_w Q (mm_wc d) bk_234 159 [some (.ref 46), some (.int a1), some (.int a2), some (.int a3), some (.int a4), some (.int a5), some (.int a6), none, none] [] ((fl, n1, n2, p, q, ad), I, J)))) : mm_w Q (mm_wc (d)) bk_234 130 [some (.ref 46), some (.int a1), some (.int a2), some (.int a3), some (.int a4), some (.int a5), some (.int a6), some (.int a7), none] [] ((fl, n1, n2, p, q, ad), I, J) := by
  refine mm_go [8, 31, 45, 70, 71, 76, 122, 130, 159] 80 ?_
  show (¬ a7 = (nI 0) → _) ∧ (a7 = (nI 0) → _)
  refine ⟨fun c0 => ?_, fun c0 => ?_⟩
  · show mm_u _ _ _ _ _ _ [some (.ref 46), some (.int a1), some (.int a2), some (.int a3), some (.int a4), some (.int a5), some (.int a6), some (.int a7), none] [] ((fl, n1, n2, p, q, ad), I, J)
    show vp_in (I 46 32) 320 ∧ _
    refine ⟨(h.1 c0).1, ?_⟩
    exact (h.1 c0).2
  · exact (h.2 c0)
theorem fx_234k_122 {d : Nat} {a1 : Int32} {a2 : Int32} {a3 : Int32} {a4 : Int32} {a5 : Int32} {a6 : Int32} {a8 : Int32} {s0 : Int32} {fl : Nat → Bool} {n1 n2 : Nat} {p q : Bool} {ad : Nat → Nat} {I : mmI} {J : mmJ} {Q : mmQ} (h : mm_w Q (mm_wc d) bk_234 76 [some (.ref 46), some (.int a1), some (.int a2), some (.int a3), some (.int a4), some (.int a5), some (.int a6), some (.int s0), some (.int (a8 + (nI 1)))] [] ((fl, n1, n2, p, q, ad), I, J)) : mm_w Q (mm_wc (d)) bk_234 122 [some (.ref 46), some (.int a1), some (.int a2), some (.int a3), some (.int a4), some (.int a5), some (.int a6), none, some (.int a8)] [.int s0] ((fl, n1, n2, p, q, ad), I, J) := by
  refine mm_go [8, 31, 45, 70, 71, 76, 122, 130, 159] 80 ?_
  exact h
theorem fx_234k_159 {d : Nat} {a1 : Int32} {a2 : Int32} {a3 : Int32} {a4 : Int32} {a5 : Int32} {a6 : Int32} {fl : Nat → Bool} {n1 n2 : Nat} {p q : Bool} {ad : Nat → Nat} {I : mmI} {J : mmJ} {Q : mmQ} (h : mm_w Q (mm_wc d) bk_234 8 [some (.ref 46), some (.int a1), some (.int a2), some (.int a3), some (.int a4), some (.int a5), some (.int (a6 + (nI 1))), none, none] [] ((fl, n1, n2, p, q, ad), I, J)) : mm_w Q (mm_wc (d)) bk_234 159 [some (.ref 46), some (.int a1), some (.int a2), some (.int a3), some (.int a4), some (.int a5), some (.int a6), none, none] [] ((fl, n1, n2, p, q, ad), I, J) := by
  refine mm_go [8, 31, 45, 70, 71, 76, 122, 130, 159] 80 ?_
  exact h
/- 181 ThreeBreathsModel mustName -/
theorem fx_181k {d : Nat} {fl : Nat → Bool} {n1 n2 : Nat} {p q : Bool} {ad : Nat → Nat} {I : mmI} {J : mmJ} {Q : mmQ} (h : mm_wc d 178 [.ref 46, .ref 98] ((fl, 0, 0, p, q, ad), I, J) (fun v τ => ∃ r1 I1 J1, v = some (.int r1) ∧ τ = ((fl, 0, 0, p, q, ad), I1, J1) ∧ ((¬ r1 = (nI 0) → mm_w Q (mm_wc d) bk_181 72 [some (.ref 46), none] [] ((fl, n1, n2, p, q, ad), I1, J1)) ∧ (r1 = (nI 0) → mm_wc d 178 [.ref 46, .ref 101] ((fl, 0, 0, p, q, ad), I1, J1) (fun v τ => ∃ r2 I2 J2, v = some (.int r2) ∧ τ = ((fl, 0, 0, p, q, ad), I2, J2) ∧ ((¬ r2 = (nI 0) → mm_w Q (mm_wc d) bk_181 72 [some (.ref 46), none] [] ((fl, n1, n2, p, q, ad), I2, J2)) ∧ (r2 = (nI 0) → mm_wc d 178 [.ref 46, .ref 102] ((fl, 0, 0, p, q, ad), I2, J2) (fun v τ => ∃ r3 I3 J3, v = some (.int r3) ∧ τ = ((fl, 0, 0, p, q, ad), I3, J3) ∧ ((¬ r3 = (nI 0) → mm_w Q (mm_wc d) bk_181 72 [some (.ref 46), none] [] ((fl, n1, n2, p, q, ad), I3, J3)) ∧ (r3 = (nI 0) → mm_wc d 178 [.ref 46, .ref 103] ((fl, 0, 0, p, q, ad), I3, J3) (fun v τ => ∃ r4 I4 J4, v = some (.int r4) ∧ τ = ((fl, 0, 0, p, q, ad), I4, J4) ∧ ((¬ r4 = (nI 0) → mm_w Q (mm_wc d) bk_181 72 [some (.ref 46), none] [] ((fl, n1, n2, p, q, ad), I4, J4)) ∧ (r4 = (nI 0) → mm_wc d 178 [.ref 46, .ref 104] ((fl, 0, 0, p, q, ad), I4, J4) (fun v τ => ∃ r5 I5 J5, v = some (.int r5) ∧ τ = ((fl, 0, 0, p, q, ad), I5, J5) ∧ ((¬ r5 = (nI 0) → mm_w Q (mm_wc d) bk_181 72 [some (.ref 46), none] [] ((fl, n1, n2, p, q, ad), I5, J5)) ∧ (r5 = (nI 0) → mm_wc d 178 [.ref 46, .ref 105] ((fl, 0, 0, p, q, ad), I5, J5) (fun v τ => ∃ r6 I6 J6, v = some (.int r6) ∧ τ = ((fl, 0, 0, p, q, ad), I6, J6) ∧ ((¬ r6 = (nI 0) → mm_w Q (mm_wc d) bk_181 72 [some (.ref 46), none] [] ((fl, n1, n2, p, q, ad), I6, J6)) ∧ (r6 = (nI 0) → mm_wc d 178 [.ref 46, .ref 106] ((fl, 0, 0, p, q, ad), I6, J6) (fun v τ => ∃ r7 I7 J7, v = some (.int r7) ∧ τ = ((fl, 0, 0, p, q, ad), I7, J7) ∧ ((¬ r7 = (nI 0) → mm_w Q (mm_wc d) bk_181 72 [some (.ref 46), none] [] ((fl, n1, n2, p, q, ad), I7, J7)) ∧ (r7 = (nI 0) → mm_wc d 178 [.ref 46, .ref 107] ((fl, 0, 0, p, q, ad), I7, J7) (fun v τ => ∃ r8 I8 J8, v = some (.int r8) ∧ τ = ((fl, 0, 0, p, q, ad), I8, J8) ∧ ((r8 = (nI 0) → mm_w Q (mm_wc d) bk_181 77 [some (.ref 46), none] [.int (nI 0)] ((fl, n1, n2, p, q, ad), I8, J8)) ∧ (¬ r8 = (nI 0) → mm_w Q (mm_wc d) bk_181 72 [some (.ref 46), none] [] ((fl, n1, n2, p, q, ad), I8, J8)))))))))))))))))))))))))) : mm_wc (d + 1) 181 [.ref 46] ((fl, n1, n2, p, q, ad), I, J) Q := by
  refine mm_call (c := 181) rfl rfl ?_
  refine mm_go [72, 77, 90, 99] 80 ?_
  show mm_wc d 178 [.ref 46, .ref 98] ((fl, 0, 0, p, q, ad), I, J) _
  refine mm_wcm h ?_
  rintro v τ ⟨r1, I1, J1, rfl, rfl, h1⟩
  refine mm_r1' ⟨rfl, ?_⟩
  show mm_b _ _ _ _ _ [some (.ref 46), none] [.int r1] ((fl, n1, n2, p, q, ad), I1, J1)
  show (¬ r1 = (nI 0) → _) ∧ (r1 = (nI 0) → _)
  refine ⟨fun c0 => ?_, fun c0 => ?_⟩
  · exact (h1.1 c0)
  · show mm_b _ _ _ _ _ [some (.ref 46), none] [] ((fl, n1, n2, p, q, ad), I1, J1)
    show mm_wc d 178 [.ref 46, .ref 101] ((fl, 0, 0, p, q, ad), I1, J1) _
    refine mm_wcm (h1.2 c0) ?_
    rintro v τ ⟨r2, I2, J2, rfl, rfl, h2⟩
    refine mm_r1' ⟨rfl, ?_⟩
    show mm_b _ _ _ _ _ [some (.ref 46), none] [.int r2] ((fl, n1, n2, p, q, ad), I2, J2)
    show (¬ r2 = (nI 0) → _) ∧ (r2 = (nI 0) → _)
    refine ⟨fun c1 => ?_, fun c1 => ?_⟩
    · exact (h2.1 c1)
    · show mm_b _ _ _ _ _ [some (.ref 46), none] [] ((fl, n1, n2, p, q, ad), I2, J2)
      show mm_wc d 178 [.ref 46, .ref 102] ((fl, 0, 0, p, q, ad), I2, J2) _
      refine mm_wcm (h2.2 c1) ?_
      rintro v τ ⟨r3, I3, J3, rfl, rfl, h3⟩
      refine mm_r1' ⟨rfl, ?_⟩
      show mm_b _ _ _ _ _ [some (.ref 46), none] [.int r3] ((fl, n1, n2, p, q, ad), I3, J3)
      show (¬ r3 = (nI 0) → _) ∧ (r3 = (nI 0) → _)
      refine ⟨fun c2 => ?_, fun c2 => ?_⟩
      · exact (h3.1 c2)
      · show mm_b _ _ _ _ _ [some (.ref 46), none] [] ((fl, n1, n2, p, q, ad), I3, J3)
        show mm_wc d 178 [.ref 46, .ref 103] ((fl, 0, 0, p, q, ad), I3, J3) _
        refine mm_wcm (h3.2 c2) ?_
        rintro v τ ⟨r4, I4, J4, rfl, rfl, h4⟩
        refine mm_r1' ⟨rfl, ?_⟩
        show mm_b _ _ _ _ _ [some (.ref 46), none] [.int r4] ((fl, n1, n2, p, q, ad), I4, J4)
        show (¬ r4 = (nI 0) → _) ∧ (r4 = (nI 0) → _)
        refine ⟨fun c3 => ?_, fun c3 => ?_⟩
        · exact (h4.1 c3)
        · show mm_b _ _ _ _ _ [some (.ref 46), none] [] ((fl, n1, n2, p, q, ad), I4, J4)
          show mm_wc d 178 [.ref 46, .ref 104] ((fl, 0, 0, p, q, ad), I4, J4) _
          refine mm_wcm (h4.2 c3) ?_
          rintro v τ ⟨r5, I5, J5, rfl, rfl, h5⟩
          refine mm_r1' ⟨rfl, ?_⟩
          show mm_b _ _ _ _ _ [some (.ref 46), none] [.int r5] ((fl, n1, n2, p, q, ad), I5, J5)
          show (¬ r5 = (nI 0) → _) ∧ (r5 = (nI 0) → _)
          refine ⟨fun c4 => ?_, fun c4 => ?_⟩
          · exact (h5.1 c4)
          · show mm_b _ _ _ _ _ [some (.ref 46), none] [] ((fl, n1, n2, p, q, ad), I5, J5)
            show mm_wc d 178 [.ref 46, .ref 105] ((fl, 0, 0, p, q, ad), I5, J5) _
            refine mm_wcm (h5.2 c4) ?_
            rintro v τ ⟨r6, I6, J6, rfl, rfl, h6⟩
            refine mm_r1' ⟨rfl, ?_⟩
            show mm_b _ _ _ _ _ [some (.ref 46), none] [.int r6] ((fl, n1, n2, p, q, ad), I6, J6)
            show (¬ r6 = (nI 0) → _) ∧ (r6 = (nI 0) → _)
            refine ⟨fun c5 => ?_, fun c5 => ?_⟩
            · exact (h6.1 c5)
            · show mm_b _ _ _ _ _ [some (.ref 46), none] [] ((fl, n1, n2, p, q, ad), I6, J6)
              show mm_wc d 178 [.ref 46, .ref 106] ((fl, 0, 0, p, q, ad), I6, J6) _
              refine mm_wcm (h6.2 c5) ?_
              rintro v τ ⟨r7, I7, J7, rfl, rfl, h7⟩
              refine mm_r1' ⟨rfl, ?_⟩
              show mm_b _ _ _ _ _ [some (.ref 46), none] [.int r7] ((fl, n1, n2, p, q, ad), I7, J7)
              show (¬ r7 = (nI 0) → _) ∧ (r7 = (nI 0) → _)
              refine ⟨fun c6 => ?_, fun c6 => ?_⟩
              · exact (h7.1 c6)
              · show mm_b _ _ _ _ _ [some (.ref 46), none] [] ((fl, n1, n2, p, q, ad), I7, J7)
                show mm_wc d 178 [.ref 46, .ref 107] ((fl, 0, 0, p, q, ad), I7, J7) _
                refine mm_wcm (h7.2 c6) ?_
                rintro v τ ⟨r8, I8, J8, rfl, rfl, h8⟩
                refine mm_r1' ⟨rfl, ?_⟩
                show mm_b _ _ _ _ _ [some (.ref 46), none] [.int r8] ((fl, n1, n2, p, q, ad), I8, J8)
                show (r8 = (nI 0) → _) ∧ (¬ r8 = (nI 0) → _)
                refine ⟨fun c7 => ?_, fun c7 => ?_⟩
                · exact (h8.1 c7)
                · exact (h8.2 c7)
theorem fx_181k_72 {d : Nat} {fl : Nat → Bool} {n1 n2 : Nat} {p q : Bool} {ad : Nat → Nat} {I : mmI} {J : mmJ} {Q : mmQ} (h : mm_w Q (mm_wc d) bk_181 77 [some (.ref 46), none] [.int (nI 1)] ((fl, n1, n2, p, q, ad), I, J)) : mm_w Q (mm_wc (d)) bk_181 72 [some (.ref 46), none] [] ((fl, n1, n2, p, q, ad), I, J) := by
  refine mm_go [72, 77, 90, 99] 80 ?_
  exact h
theorem fx_181k_77 {d : Nat} {s0 : Int32} {fl : Nat → Bool} {n1 n2 : Nat} {p q : Bool} {ad : Nat → Nat} {I : mmI} {J : mmJ} {Q : mmQ} (h : ((¬ (I 46 6) = (nI 2) → mm_w Q (mm_wc d) bk_181 90 [some (.ref 46), none] [] ((fl, n1, n2, p, q, ad), I, J)) ∧ ((I 46 6) = (nI 2) → ((s0 = (nI 0) → mm_w Q (mm_wc d) bk_181 99 [none, none] [] ((fl, n1, n2, p, q, ad), I, J)) ∧ (¬ s0 = (nI 0) → mm_w Q (mm_wc d) bk_181 90 [some (.ref 46), none] [] ((fl, n1, n2, p, q, ad), I, J)))))) : mm_w Q (mm_wc (d)) bk_181 77 [some (.ref 46), none] [.int s0] ((fl, n1, n2, p, q, ad), I, J) := by
  refine mm_go [72, 77, 90, 99] 80 ?_
  show (¬ (I 46 6) = (nI 2) → _) ∧ ((I 46 6) = (nI 2) → _)
  refine ⟨fun c0 => ?_, fun c0 => ?_⟩
  · exact (h.1 c0)
  · show mm_b _ _ _ _ _ [some (.ref 46), some (.int s0)] [] ((fl, n1, n2, p, q, ad), I, J)
    show (s0 = (nI 0) → _) ∧ (¬ s0 = (nI 0) → _)
    refine ⟨fun c1 => ?_, fun c1 => ?_⟩
    · exact ((h.2 c0).1 c1)
    · exact ((h.2 c0).2 c1)
theorem fx_181k_90 {d : Nat} {fl : Nat → Bool} {n1 n2 : Nat} {p q : Bool} {ad : Nat → Nat} {I : mmI} {J : mmJ} {Q : mmQ} (h : mm_wc d 177 [.ref 46, .int (nI 1), .int (I 46 4)] ((fl, 0, 0, p, q, ad), I, J) (fun v τ => ∃ I1 J1, v = none ∧ τ = ((fl, 0, 0, p, q, ad), I1, J1) ∧ mm_w Q (mm_wc d) bk_181 99 [none, none] [] ((fl, n1, n2, p, q, ad), I1, J1))) : mm_w Q (mm_wc (d)) bk_181 90 [some (.ref 46), none] [] ((fl, n1, n2, p, q, ad), I, J) := by
  refine mm_go [72, 77, 90, 99] 80 ?_
  show mm_wc d 177 [.ref 46, .int (nI 1), .int (I 46 4)] ((fl, 0, 0, p, q, ad), I, J) _
  refine mm_wcm h ?_
  rintro v τ ⟨I1, J1, rfl, rfl, h1⟩
  refine mm_r0' ⟨rfl, ?_⟩
  exact h1
theorem fx_181k_99 {d : Nat} {fl : Nat → Bool} {n1 n2 : Nat} {p q : Bool} {ad : Nat → Nat} {I : mmI} {J : mmJ} {Q : mmQ} (h : Q none ((fl, n1, n2, p, q, ad), I, J)) : mm_w Q (mm_wc (d)) bk_181 99 [none, none] [] ((fl, n1, n2, p, q, ad), I, J) := by
  refine mm_go [72, 77, 90, 99] 80 ?_
  exact h
/- 72 ThreeBreaths$Reader isName -/
theorem fx_72k {d : Nat} {fl : Nat → Bool} {n1 n2 : Nat} {p q : Bool} {ad : Nat → Nat} {I : mmI} {J : mmJ} {Q : mmQ} (h : mm_wc d 73 [.ref 1, .ref 98] ((fl, 0, 0, p, q, ad), I, J) (fun v τ => ∃ r1 I1 J1, v = some (.int r1) ∧ τ = ((fl, 0, 0, p, q, ad), I1, J1) ∧ ((¬ r1 = (nI 0) → mm_w Q (mm_wc d) bk_72 45 [some (.ref 1), none] [] ((fl, n1, n2, p, q, ad), I1, J1)) ∧ (r1 = (nI 0) → mm_wc d 73 [.ref 1, .ref 101] ((fl, 0, 0, p, q, ad), I1, J1) (fun v τ => ∃ r2 I2 J2, v = some (.int r2) ∧ τ = ((fl, 0, 0, p, q, ad), I2, J2) ∧ ((¬ r2 = (nI 0) → mm_w Q (mm_wc d) bk_72 45 [some (.ref 1), none] [] ((fl, n1, n2, p, q, ad), I2, J2)) ∧ (r2 = (nI 0) → mm_wc d 73 [.ref 1, .ref 102] ((fl, 0, 0, p, q, ad), I2, J2) (fun v τ => ∃ r3 I3 J3, v = some (.int r3) ∧ τ = ((fl, 0, 0, p, q, ad), I3, J3) ∧ ((¬ r3 = (nI 0) → mm_w Q (mm_wc d) bk_72 45 [some (.ref 1), none] [] ((fl, n1, n2, p, q, ad), I3, J3)) ∧ (r3 = (nI 0) → mm_wc d 73 [.ref 1, .ref 103] ((fl, 0, 0, p, q, ad), I3, J3) (fun v τ => ∃ r4 I4 J4, v = some (.int r4) ∧ τ = ((fl, 0, 0, p, q, ad), I4, J4) ∧ ((¬ r4 = (nI 0) → mm_w Q (mm_wc d) bk_72 45 [some (.ref 1), none] [] ((fl, n1, n2, p, q, ad), I4, J4)) ∧ (r4 = (nI 0) → mm_wc d 73 [.ref 1, .ref 104] ((fl, 0, 0, p, q, ad), I4, J4) (fun v τ => ∃ r5 I5 J5, v = some (.int r5) ∧ τ = ((fl, 0, 0, p, q, ad), I5, J5) ∧ ((r5 = (nI 0) → mm_w Q (mm_wc d) bk_72 50 [some (.ref 1), none] [.int (nI 0)] ((fl, n1, n2, p, q, ad), I5, J5)) ∧ (¬ r5 = (nI 0) → mm_w Q (mm_wc d) bk_72 45 [some (.ref 1), none] [] ((fl, n1, n2, p, q, ad), I5, J5))))))))))))))))) : mm_wc (d + 1) 72 [.ref 1] ((fl, n1, n2, p, q, ad), I, J) Q := by
  refine mm_call (c := 72) rfl rfl ?_
  refine mm_go [45, 50, 94, 95] 80 ?_
  show mm_wc d 73 [.ref 1, .ref 98] ((fl, 0, 0, p, q, ad), I, J) _
  refine mm_wcm h ?_
  rintro v τ ⟨r1, I1, J1, rfl, rfl, h1⟩
  refine mm_r1' ⟨rfl, ?_⟩
  show mm_b _ _ _ _ _ [some (.ref 1), none] [.int r1] ((fl, n1, n2, p, q, ad), I1, J1)
  show (¬ r1 = (nI 0) → _) ∧ (r1 = (nI 0) → _)
  refine ⟨fun c0 => ?_, fun c0 => ?_⟩
  · exact (h1.1 c0)
  · show mm_b _ _ _ _ _ [some (.ref 1), none] [] ((fl, n1, n2, p, q, ad), I1, J1)
    show mm_wc d 73 [.ref 1, .ref 101] ((fl, 0, 0, p, q, ad), I1, J1) _
    refine mm_wcm (h1.2 c0) ?_
    rintro v τ ⟨r2, I2, J2, rfl, rfl, h2⟩
    refine mm_r1' ⟨rfl, ?_⟩
    show mm_b _ _ _ _ _ [some (.ref 1), none] [.int r2] ((fl, n1, n2, p, q, ad), I2, J2)
    show (¬ r2 = (nI 0) → _) ∧ (r2 = (nI 0) → _)
    refine ⟨fun c1 => ?_, fun c1 => ?_⟩
    · exact (h2.1 c1)
    · show mm_b _ _ _ _ _ [some (.ref 1), none] [] ((fl, n1, n2, p, q, ad), I2, J2)
      show mm_wc d 73 [.ref 1, .ref 102] ((fl, 0, 0, p, q, ad), I2, J2) _
      refine mm_wcm (h2.2 c1) ?_
      rintro v τ ⟨r3, I3, J3, rfl, rfl, h3⟩
      refine mm_r1' ⟨rfl, ?_⟩
      show mm_b _ _ _ _ _ [some (.ref 1), none] [.int r3] ((fl, n1, n2, p, q, ad), I3, J3)
      show (¬ r3 = (nI 0) → _) ∧ (r3 = (nI 0) → _)
      refine ⟨fun c2 => ?_, fun c2 => ?_⟩
      · exact (h3.1 c2)
      · show mm_b _ _ _ _ _ [some (.ref 1), none] [] ((fl, n1, n2, p, q, ad), I3, J3)
        show mm_wc d 73 [.ref 1, .ref 103] ((fl, 0, 0, p, q, ad), I3, J3) _
        refine mm_wcm (h3.2 c2) ?_
        rintro v τ ⟨r4, I4, J4, rfl, rfl, h4⟩
        refine mm_r1' ⟨rfl, ?_⟩
        show mm_b _ _ _ _ _ [some (.ref 1), none] [.int r4] ((fl, n1, n2, p, q, ad), I4, J4)
        show (¬ r4 = (nI 0) → _) ∧ (r4 = (nI 0) → _)
        refine ⟨fun c3 => ?_, fun c3 => ?_⟩
        · exact (h4.1 c3)
        · show mm_b _ _ _ _ _ [some (.ref 1), none] [] ((fl, n1, n2, p, q, ad), I4, J4)
          show mm_wc d 73 [.ref 1, .ref 104] ((fl, 0, 0, p, q, ad), I4, J4) _
          refine mm_wcm (h4.2 c3) ?_
          rintro v τ ⟨r5, I5, J5, rfl, rfl, h5⟩
          refine mm_r1' ⟨rfl, ?_⟩
          show mm_b _ _ _ _ _ [some (.ref 1), none] [.int r5] ((fl, n1, n2, p, q, ad), I5, J5)
          show (r5 = (nI 0) → _) ∧ (¬ r5 = (nI 0) → _)
          refine ⟨fun c4 => ?_, fun c4 => ?_⟩
          · exact (h5.1 c4)
          · exact (h5.2 c4)
theorem fx_72k_45 {d : Nat} {fl : Nat → Bool} {n1 n2 : Nat} {p q : Bool} {ad : Nat → Nat} {I : mmI} {J : mmJ} {Q : mmQ} (h : mm_w Q (mm_wc d) bk_72 50 [some (.ref 1), none] [.int (nI 1)] ((fl, n1, n2, p, q, ad), I, J)) : mm_w Q (mm_wc (d)) bk_72 45 [some (.ref 1), none] [] ((fl, n1, n2, p, q, ad), I, J) := by
  refine mm_go [45, 50, 94, 95] 80 ?_
  exact h
theorem fx_72k_50 {d : Nat} {s0 : Int32} {fl : Nat → Bool} {n1 n2 : Nat} {p q : Bool} {ad : Nat → Nat} {I : mmI} {J : mmJ} {Q : mmQ} (h : ((¬ (I 1 3) = (nI 1) → mm_w Q (mm_wc d) bk_72 94 [none, none] [] ((fl, n1, n2, p, q, ad), I, J)) ∧ ((I 1 3) = (nI 1) → ((¬ s0 = (nI 0) → mm_w Q (mm_wc d) bk_72 94 [none, none] [] ((fl, n1, n2, p, q, ad), I, J)) ∧ (s0 = (nI 0) → mm_wc d 73 [.ref 1, .ref 105] ((fl, 0, 0, p, q, ad), I, J) (fun v τ => ∃ r1 I1 J1, v = some (.int r1) ∧ τ = ((fl, 0, 0, p, q, ad), I1, J1) ∧ ((¬ r1 = (nI 0) → mm_w Q (mm_wc d) bk_72 94 [none, none] [] ((fl, n1, n2, p, q, ad), I1, J1)) ∧ (r1 = (nI 0) → mm_wc d 73 [.ref 1, .ref 106] ((fl, 0, 0, p, q, ad), I1, J1) (fun v τ => ∃ r2 I2 J2, v = some (.int r2) ∧ τ = ((fl, 0, 0, p, q, ad), I2, J2) ∧ ((¬ r2 = (nI 0) → mm_w Q (mm_wc d) bk_72 94 [none, none] [] ((fl, n1, n2, p, q, ad), I2, J2)) ∧ (r2 = (nI 0) → mm_wc d 73 [.ref 1, .ref 107] ((fl, 0, 0, p, q, ad), I2, J2) (fun v τ => ∃ r3 I3 J3, v = some (.int r3) ∧ τ = ((fl, 0, 0, p, q, ad), I3, J3) ∧ ((¬ r3 = (nI 0) → mm_w Q (mm_wc d) bk_72 94 [none, none] [] ((fl, n1, n2, p, q, ad), I3, J3)) ∧ (r3 = (nI 0) → mm_w Q (mm_wc d) bk_72 95 [none, none] [.int (nI 1)] ((fl, n1, n2, p, q, ad), I3, J3))))))))))))))) : mm_w Q (mm_wc (d)) bk_72 50 [some (.ref 1), none] [.int s0] ((fl, n1, n2, p, q, ad), I, J) := by
  refine mm_go [45, 50, 94, 95] 80 ?_
  show (¬ (I 1 3) = (nI 1) → _) ∧ ((I 1 3) = (nI 1) → _)
  refine ⟨fun c0 => ?_, fun c0 => ?_⟩
  · exact (h.1 c0)
  · show mm_b _ _ _ _ _ [some (.ref 1), some (.int s0)] [] ((fl, n1, n2, p, q, ad), I, J)
    show (¬ s0 = (nI 0) → _) ∧ (s0 = (nI 0) → _)
    refine ⟨fun c1 => ?_, fun c1 => ?_⟩
    · exact ((h.2 c0).1 c1)
    · show mm_b _ _ _ _ _ [some (.ref 1), some (.int s0)] [] ((fl, n1, n2, p, q, ad), I, J)
      show mm_wc d 73 [.ref 1, .ref 105] ((fl, 0, 0, p, q, ad), I, J) _
      refine mm_wcm ((h.2 c0).2 c1) ?_
      rintro v τ ⟨r1, I1, J1, rfl, rfl, h1⟩
      refine mm_r1' ⟨rfl, ?_⟩
      show mm_b _ _ _ _ _ [some (.ref 1), some (.int s0)] [.int r1] ((fl, n1, n2, p, q, ad), I1, J1)
      show (¬ r1 = (nI 0) → _) ∧ (r1 = (nI 0) → _)
      refine ⟨fun c2 => ?_, fun c2 => ?_⟩
      · exact (h1.1 c2)
      · show mm_b _ _ _ _ _ [some (.ref 1), some (.int s0)] [] ((fl, n1, n2, p, q, ad), I1, J1)
        show mm_wc d 73 [.ref 1, .ref 106] ((fl, 0, 0, p, q, ad), I1, J1) _
        refine mm_wcm (h1.2 c2) ?_
        rintro v τ ⟨r2, I2, J2, rfl, rfl, h2⟩
        refine mm_r1' ⟨rfl, ?_⟩
        show mm_b _ _ _ _ _ [some (.ref 1), some (.int s0)] [.int r2] ((fl, n1, n2, p, q, ad), I2, J2)
        show (¬ r2 = (nI 0) → _) ∧ (r2 = (nI 0) → _)
        refine ⟨fun c3 => ?_, fun c3 => ?_⟩
        · exact (h2.1 c3)
        · show mm_b _ _ _ _ _ [some (.ref 1), some (.int s0)] [] ((fl, n1, n2, p, q, ad), I2, J2)
          show mm_wc d 73 [.ref 1, .ref 107] ((fl, 0, 0, p, q, ad), I2, J2) _
          refine mm_wcm (h2.2 c3) ?_
          rintro v τ ⟨r3, I3, J3, rfl, rfl, h3⟩
          refine mm_r1' ⟨rfl, ?_⟩
          show mm_b _ _ _ _ _ [some (.ref 1), some (.int s0)] [.int r3] ((fl, n1, n2, p, q, ad), I3, J3)
          show (¬ r3 = (nI 0) → _) ∧ (r3 = (nI 0) → _)
          refine ⟨fun c4 => ?_, fun c4 => ?_⟩
          · exact (h3.1 c4)
          · exact (h3.2 c4)
theorem fx_72k_94 {d : Nat} {fl : Nat → Bool} {n1 n2 : Nat} {p q : Bool} {ad : Nat → Nat} {I : mmI} {J : mmJ} {Q : mmQ} (h : mm_w Q (mm_wc d) bk_72 95 [none, none] [.int (nI 0)] ((fl, n1, n2, p, q, ad), I, J)) : mm_w Q (mm_wc (d)) bk_72 94 [none, none] [] ((fl, n1, n2, p, q, ad), I, J) := by
  refine mm_go [45, 50, 94, 95] 80 ?_
  exact h
theorem fx_72k_95 {d : Nat} {s0 : Int32} {fl : Nat → Bool} {n1 n2 : Nat} {p q : Bool} {ad : Nat → Nat} {I : mmI} {J : mmJ} {Q : mmQ} (h : ((s0 = 0 ∨ s0 = 1) ∧ Q (some (.int s0)) ((fl, n1, n2, p, q, ad), I, J))) : mm_w Q (mm_wc (d)) bk_72 95 [none, none] [.int s0] ((fl, n1, n2, p, q, ad), I, J) := by
  refine mm_go [45, 50, 94, 95] 80 ?_
  show (s0 = 0 ∨ s0 = 1) ∧ _
  refine ⟨h.1, ?_⟩
  exact h.2
/- 209 ThreeBreathsModel isIn -/
theorem fx_209k {d : Nat} {x0 : Int32} {x1 : Int32} {fl : Nat → Bool} {n1 n2 : Nat} {p q : Bool} {ad : Nat → Nat} {I : mmI} {J : mmJ} {Q : mmQ} (h : mm_wc d 207 [.ref 46, .int x0] ((fl, 0, 0, p, q, ad), I, J) (fun v τ => ∃ r1 I1 J1, v = some (.int r1) ∧ τ = ((fl, 0, 0, p, q, ad), I1, J1) ∧ (vp_in ((nI 13) + x1) 279 ∧ mm_wc d 208 [.ref 46, .int x0] ((fl, 0, 0, p, q, ad), I1, J1) (fun v τ => ∃ r2 I2 J2, v = some (.int r2) ∧ τ = ((fl, 0, 0, p, q, ad), I2, J2) ∧ (vp_in ((nI 46) + r2) 279 ∧ (vp_in ((nI 24) + x1) 279 ∧ mm_wc d 208 [.ref 46, .int x0] ((fl, 0, 0, p, q, ad), I2, J2) (fun v τ => ∃ r3 I3 J3, v = some (.int r3) ∧ τ = ((fl, 0, 0, p, q, ad), I3, J3) ∧ (vp_in ((nI 51) + r3) 279 ∧ ((¬ ((I1 49 (((nI 13) + x1)).toNatClampNeg) - (I2 49 (((nI 46) + r2)).toNatClampNeg)) = (nI 0) → mm_w Q (mm_wc d) bk_209 68 [some (.ref 46), some (.int x0), some (.int x1), some (.int r1), some (.int ((I1 49 (((nI 13) + x1)).toNatClampNeg) - (I2 49 (((nI 46) + r2)).toNatClampNeg))), some (.int ((I2 49 (((nI 24) + x1)).toNatClampNeg) - (I3 49 (((nI 51) + r3)).toNatClampNeg))), none, none, none] [] ((fl, n1, n2, p, q, ad), I3, J3)) ∧ (((I1 49 (((nI 13) + x1)).toNatClampNeg) - (I2 49 (((nI 46) + r2)).toNatClampNeg)) = (nI 0) → ((¬ ((I2 49 (((nI 24) + x1)).toNatClampNeg) - (I3 49 (((nI 51) + r3)).toNatClampNeg)) = (nI 0) → mm_w Q (mm_wc d) bk_209 68 [some (.ref 46), some (.int x0), some (.int x1), some (.int r1), some (.int ((I1 49 (((nI 13) + x1)).toNatClampNeg) - (I2 49 (((nI 46) + r2)).toNatClampNeg))), some (.int ((I2 49 (((nI 24) + x1)).toNatClampNeg) - (I3 49 (((nI 51) + r3)).toNatClampNeg))), none, none, none] [] ((fl, n1, n2, p, q, ad), I3, J3)) ∧ (((I2 49 (((nI 24) + x1)).toNatClampNeg) - (I3 49 (((nI 51) + r3)).toNatClampNeg)) = (nI 0) → Q (some (.int (nI 1))) ((fl, n1, n2, p, q, ad), I3, J3))))))))))))) : mm_wc (d + 1) 209 [.ref 46, .int x0, .int x1] ((fl, n1, n2, p, q, ad), I, J) Q := by
  refine mm_call (c := 209) rfl rfl ?_
  refine mm_go [68, 151, 174, 218, 219] 80 ?_
  show mm_wc d 207 [.ref 46, .int x0] ((fl, 0, 0, p, q, ad), I, J) _
  refine mm_wcm h ?_
  rintro v τ ⟨r1, I1, J1, rfl, rfl, h1⟩
  refine mm_r1' ⟨rfl, ?_⟩
  show mm_b _ _ _ _ _ [some (.ref 46), some (.int x0), some (.int x1), none, none, none, none, none, none] [.int r1] ((fl, n1, n2, p, q, ad), I1, J1)
  show vp_in ((nI 13) + x1) 279 ∧ _
  refine ⟨h1.1, ?_⟩
  show mm_b _ _ _ _ _ [some (.ref 46), some (.int x0), some (.int x1), some (.int r1), none, none, none, none, none] [.int (I1 49 (((nI 13) + x1)).toNatClampNeg)] ((fl, n1, n2, p, q, ad), I1, J1)
  show mm_wc d 208 [.ref 46, .int x0] ((fl, 0, 0, p, q, ad), I1, J1) _
  refine mm_wcm (h1.2) ?_
  rintro v τ ⟨r2, I2, J2, rfl, rfl, h2⟩
  refine mm_r1' ⟨rfl, ?_⟩
  show mm_b _ _ _ _ _ [some (.ref 46), some (.int x0), some (.int x1), some (.int r1), none, none, none, none, none] [.int r2, .int (nI 46), .ref 49, .int (I1 49 (((nI 13) + x1)).toNatClampNeg)] ((fl, n1, n2, p, q, ad), I2, J2)
  show vp_in ((nI 46) + r2) 279 ∧ _
  refine ⟨h2.1, ?_⟩
  show mm_b _ _ _ _ _ [some (.ref 46), some (.int x0), some (.int x1), some (.int r1), none, none, none, none, none] [.int (I2 49 (((nI 46) + r2)).toNatClampNeg), .int (I1 49 (((nI 13) + x1)).toNatClampNeg)] ((fl, n1, n2, p, q, ad), I2, J2)
  show vp_in ((nI 24) + x1) 279 ∧ _
  refine ⟨h2.2.1, ?_⟩
  show mm_b _ _ _ _ _ [some (.ref 46), some (.int x0), some (.int x1), some (.int r1), some (.int ((I1 49 (((nI 13) + x1)).toNatClampNeg) - (I2 49 (((nI 46) + r2)).toNatClampNeg))), none, none, none, none] [.int (I2 49 (((nI 24) + x1)).toNatClampNeg)] ((fl, n1, n2, p, q, ad), I2, J2)
  show mm_wc d 208 [.ref 46, .int x0] ((fl, 0, 0, p, q, ad), I2, J2) _
  refine mm_wcm (h2.2.2) ?_
  rintro v τ ⟨r3, I3, J3, rfl, rfl, h3⟩
  refine mm_r1' ⟨rfl, ?_⟩
  show mm_b _ _ _ _ _ [some (.ref 46), some (.int x0), some (.int x1), some (.int r1), some (.int ((I1 49 (((nI 13) + x1)).toNatClampNeg) - (I2 49 (((nI 46) + r2)).toNatClampNeg))), none, none, none, none] [.int r3, .int (nI 51), .ref 49, .int (I2 49 (((nI 24) + x1)).toNatClampNeg)] ((fl, n1, n2, p, q, ad), I3, J3)
  show vp_in ((nI 51) + r3) 279 ∧ _
  refine ⟨h3.1, ?_⟩
  show mm_b _ _ _ _ _ [some (.ref 46), some (.int x0), some (.int x1), some (.int r1), some (.int ((I1 49 (((nI 13) + x1)).toNatClampNeg) - (I2 49 (((nI 46) + r2)).toNatClampNeg))), none, none, none, none] [.int (I3 49 (((nI 51) + r3)).toNatClampNeg), .int (I2 49 (((nI 24) + x1)).toNatClampNeg)] ((fl, n1, n2, p, q, ad), I3, J3)
  show (¬ ((I1 49 (((nI 13) + x1)).toNatClampNeg) - (I2 49 (((nI 46) + r2)).toNatClampNeg)) = (nI 0) → _) ∧ (((I1 49 (((nI 13) + x1)).toNatClampNeg) - (I2 49 (((nI 46) + r2)).toNatClampNeg)) = (nI 0) → _)
  refine ⟨fun c0 => ?_, fun c0 => ?_⟩
  · exact (h3.2.1 c0)
  · show mm_b _ _ _ _ _ [some (.ref 46), some (.int x0), some (.int x1), some (.int r1), some (.int ((I1 49 (((nI 13) + x1)).toNatClampNeg) - (I2 49 (((nI 46) + r2)).toNatClampNeg))), some (.int ((I2 49 (((nI 24) + x1)).toNatClampNeg) - (I3 49 (((nI 51) + r3)).toNatClampNeg))), none, none, none] [] ((fl, n1, n2, p, q, ad), I3, J3)
    show (¬ ((I2 49 (((nI 24) + x1)).toNatClampNeg) - (I3 49 (((nI 51) + r3)).toNatClampNeg)) = (nI 0) → _) ∧ (((I2 49 (((nI 24) + x1)).toNatClampNeg) - (I3 49 (((nI 51) + r3)).toNatClampNeg)) = (nI 0) → _)
    refine ⟨fun c1 => ?_, fun c1 => ?_⟩
    · exact ((h3.2.2 c0).1 c1)
    · show mm_b _ _ _ _ _ [some (.ref 46), some (.int x0), some (.int x1), some (.int r1), some (.int ((I1 49 (((nI 13) + x1)).toNatClampNeg) - (I2 49 (((nI 46) + r2)).toNatClampNeg))), some (.int ((I2 49 (((nI 24) + x1)).toNatClampNeg) - (I3 49 (((nI 51) + r3)).toNatClampNeg))), none, none, none] [] ((fl, n1, n2, p, q, ad), I3, J3)
      show (((nI 1) : Int32) = 0 ∨ ((nI 1) : Int32) = 1) ∧ _
      refine ⟨(by decide), ?_⟩
      exact ((h3.2.2 c0).2 c1)
theorem fx_209k_68 {d : Nat} {a1 : Int32} {a2 : Int32} {a3 : Int32} {a4 : Int32} {a5 : Int32} {fl : Nat → Bool} {n1 n2 : Nat} {p q : Bool} {ad : Nat → Nat} {I : mmI} {J : mmJ} {Q : mmQ} (h : (vp_in (a1 - a1 / (nI 16) * (nI 16)) 16 ∧ (vp_in (a1 - a1 / (nI 16) * (nI 16)) 16 ∧ (vp_in (a1 - a1 / (nI 16) * (nI 16)) 16 ∧ (vp_in (a1 - a1 / (nI 16) * (nI 16)) 16 ∧ (vp_in ((nI 35) + a2) 279 ∧ ((¬ (I 49 (((nI 35) + a2)).toNatClampNeg) = (nI 1) → mm_w Q (mm_wc d) bk_209 151 [some (.ref 46), none, none, some (.int a3), none, none, some (.int ((a4 * (I 55 ((a1 - a1 / (nI 16) * (nI 16))).toNatClampNeg)) + (a5 * (I 56 ((a1 - a1 / (nI 16) * (nI 16))).toNatClampNeg)))), some (.int (((I 55 ((a1 - a1 / (nI 16) * (nI 16))).toNatClampNeg) * a5) - ((I 56 ((a1 - a1 / (nI 16) * (nI 16))).toNatClampNeg) * a4))), none] [.int (nI 1), .int ((a4 * a4) + (a5 * a5))] ((fl, n1, n2, p, q, ad), I, J)) ∧ ((I 49 (((nI 35) + a2)).toNatClampNeg) = (nI 1) → mm_w Q (mm_wc d) bk_209 151 [some (.ref 46), none, none, some (.int a3), none, none, some (.int ((a4 * (I 55 ((a1 - a1 / (nI 16) * (nI 16))).toNatClampNeg)) + (a5 * (I 56 ((a1 - a1 / (nI 16) * (nI 16))).toNatClampNeg)))), some (.int (((I 55 ((a1 - a1 / (nI 16) * (nI 16))).toNatClampNeg) * a5) - ((I 56 ((a1 - a1 / (nI 16) * (nI 16))).toNatClampNeg) * a4))), none] [.int (nI 4), .int ((a4 * a4) + (a5 * a5))] ((fl, n1, n2, p, q, ad), I, J))))))))) : mm_w Q (mm_wc (d)) bk_209 68 [some (.ref 46), some (.int a1), some (.int a2), some (.int a3), some (.int a4), some (.int a5), none, none, none] [] ((fl, n1, n2, p, q, ad), I, J) := by
  refine mm_go [68, 151, 174, 218, 219] 80 ?_
  show (¬ ((nI 16) : Int32) = 0) ∧ _
  refine ⟨(by decide), ?_⟩
  show mm_b _ _ _ _ _ [some (.ref 46), some (.int a1), some (.int a2), some (.int a3), some (.int a4), some (.int a5), none, none, none] [.int (a1 - a1 / (nI 16) * (nI 16)), .ref 55, .int a4] ((fl, n1, n2, p, q, ad), I, J)
  show vp_in (a1 - a1 / (nI 16) * (nI 16)) 16 ∧ _
  refine ⟨h.1, ?_⟩
  show mm_b _ _ _ _ _ [some (.ref 46), some (.int a1), some (.int a2), some (.int a3), some (.int a4), some (.int a5), none, none, none] [.int (I 55 ((a1 - a1 / (nI 16) * (nI 16))).toNatClampNeg), .int a4] ((fl, n1, n2, p, q, ad), I, J)
  show (¬ ((nI 16) : Int32) = 0) ∧ _
  refine ⟨(by decide), ?_⟩
  show mm_b _ _ _ _ _ [some (.ref 46), some (.int a1), some (.int a2), some (.int a3), some (.int a4), some (.int a5), none, none, none] [.int (a1 - a1 / (nI 16) * (nI 16)), .ref 56, .int a5, .int (a4 * (I 55 ((a1 - a1 / (nI 16) * (nI 16))).toNatClampNeg))] ((fl, n1, n2, p, q, ad), I, J)
  show vp_in (a1 - a1 / (nI 16) * (nI 16)) 16 ∧ _
  refine ⟨h.2.1, ?_⟩
  show mm_b _ _ _ _ _ [some (.ref 46), some (.int a1), some (.int a2), some (.int a3), some (.int a4), some (.int a5), none, none, none] [.int (I 56 ((a1 - a1 / (nI 16) * (nI 16))).toNatClampNeg), .int a5, .int (a4 * (I 55 ((a1 - a1 / (nI 16) * (nI 16))).toNatClampNeg))] ((fl, n1, n2, p, q, ad), I, J)
  show (¬ ((nI 16) : Int32) = 0) ∧ _
  refine ⟨(by decide), ?_⟩
  show mm_b _ _ _ _ _ [some (.ref 46), some (.int a1), some (.int a2), some (.int a3), some (.int a4), some (.int a5), some (.int ((a4 * (I 55 ((a1 - a1 / (nI 16) * (nI 16))).toNatClampNeg)) + (a5 * (I 56 ((a1 - a1 / (nI 16) * (nI 16))).toNatClampNeg)))), none, none] [.int (a1 - a1 / (nI 16) * (nI 16)), .ref 55] ((fl, n1, n2, p, q, ad), I, J)
  show vp_in (a1 - a1 / (nI 16) * (nI 16)) 16 ∧ _
  refine ⟨h.2.2.1, ?_⟩
  show mm_b _ _ _ _ _ [some (.ref 46), some (.int a1), some (.int a2), some (.int a3), some (.int a4), some (.int a5), some (.int ((a4 * (I 55 ((a1 - a1 / (nI 16) * (nI 16))).toNatClampNeg)) + (a5 * (I 56 ((a1 - a1 / (nI 16) * (nI 16))).toNatClampNeg)))), none, none] [.int (I 55 ((a1 - a1 / (nI 16) * (nI 16))).toNatClampNeg)] ((fl, n1, n2, p, q, ad), I, J)
  show (¬ ((nI 16) : Int32) = 0) ∧ _
  refine ⟨(by decide), ?_⟩
  show mm_b _ _ _ _ _ [some (.ref 46), some (.int a1), some (.int a2), some (.int a3), some (.int a4), some (.int a5), some (.int ((a4 * (I 55 ((a1 - a1 / (nI 16) * (nI 16))).toNatClampNeg)) + (a5 * (I 56 ((a1 - a1 / (nI 16) * (nI 16))).toNatClampNeg)))), none, none] [.int (a1 - a1 / (nI 16) * (nI 16)), .ref 56, .int ((I 55 ((a1 - a1 / (nI 16) * (nI 16))).toNatClampNeg) * a5)] ((fl, n1, n2, p, q, ad), I, J)
  show vp_in (a1 - a1 / (nI 16) * (nI 16)) 16 ∧ _
  refine ⟨h.2.2.2.1, ?_⟩
  show mm_b _ _ _ _ _ [some (.ref 46), some (.int a1), some (.int a2), some (.int a3), some (.int a4), some (.int a5), some (.int ((a4 * (I 55 ((a1 - a1 / (nI 16) * (nI 16))).toNatClampNeg)) + (a5 * (I 56 ((a1 - a1 / (nI 16) * (nI 16))).toNatClampNeg)))), none, none] [.int (I 56 ((a1 - a1 / (nI 16) * (nI 16))).toNatClampNeg), .int ((I 55 ((a1 - a1 / (nI 16) * (nI 16))).toNatClampNeg) * a5)] ((fl, n1, n2, p, q, ad), I, J)
  show vp_in ((nI 35) + a2) 279 ∧ _
  refine ⟨h.2.2.2.2.1, ?_⟩
  show mm_b _ _ _ _ _ [some (.ref 46), some (.int a1), some (.int a2), some (.int a3), some (.int a4), some (.int a5), some (.int ((a4 * (I 55 ((a1 - a1 / (nI 16) * (nI 16))).toNatClampNeg)) + (a5 * (I 56 ((a1 - a1 / (nI 16) * (nI 16))).toNatClampNeg)))), some (.int (((I 55 ((a1 - a1 / (nI 16) * (nI 16))).toNatClampNeg) * a5) - ((I 56 ((a1 - a1 / (nI 16) * (nI 16))).toNatClampNeg) * a4))), none] [.int (I 49 (((nI 35) + a2)).toNatClampNeg), .int ((a4 * a4) + (a5 * a5))] ((fl, n1, n2, p, q, ad), I, J)
  show (¬ (I 49 (((nI 35) + a2)).toNatClampNeg) = (nI 1) → _) ∧ ((I 49 (((nI 35) + a2)).toNatClampNeg) = (nI 1) → _)
  refine ⟨fun c0 => ?_, fun c0 => ?_⟩
  · exact (h.2.2.2.2.2.1 c0)
  · exact (h.2.2.2.2.2.2 c0)
theorem fx_209k_151 {d : Nat} {a3 : Int32} {a6 : Int32} {a7 : Int32} {s0 : Int32} {s1 : Int32} {fl : Nat → Bool} {n1 n2 : Nat} {p q : Bool} {ad : Nat → Nat} {I : mmI} {J : mmJ} {Q : mmQ} (h : ((a6 ≤ (nI 0) → mm_w Q (mm_wc d) bk_209 218 [none, none, none, none, none, none, none, none, none] [] ((fl, n1, n2, p, q, ad), I, J)) ∧ (¬ a6 ≤ (nI 0) → (((nI 0) ≤ a7 → mm_w Q (mm_wc d) bk_209 174 [some (.ref 46), none, none, some (.int a3), none, none, some (.int a6), none, some (.int (s1 * s0))] [.int a7, .int (nI 10)] ((fl, n1, n2, p, q, ad), I, J)) ∧ (¬ (nI 0) ≤ a7 → mm_w Q (mm_wc d) bk_209 174 [some (.ref 46), none, none, some (.int a3), none, none, some (.int a6), none, some (.int (s1 * s0))] [.int (-a7), .int (nI 10)] ((fl, n1, n2, p, q, ad), I, J)))))) : mm_w Q (mm_wc (d)) bk_209 151 [some (.ref 46), none, none, some (.int a3), none, none, some (.int a6), some (.int a7), none] [.int s0, .int s1] ((fl, n1, n2, p, q, ad), I, J) := by
  refine mm_go [68, 151, 174, 218, 219] 80 ?_
  show (a6 ≤ (nI 0) → _) ∧ (¬ a6 ≤ (nI 0) → _)
  refine ⟨fun c0 => ?_, fun c0 => ?_⟩
  · exact (h.1 c0)
  · show mm_b _ _ _ _ _ [some (.ref 46), none, none, some (.int a3), none, none, some (.int a6), some (.int a7), some (.int (s1 * s0))] [] ((fl, n1, n2, p, q, ad), I, J)
    show ((nI 0) ≤ a7 → _) ∧ (¬ (nI 0) ≤ a7 → _)
    refine ⟨fun c1 => ?_, fun c1 => ?_⟩
    · exact ((h.2 c0).1 c1)
    · exact ((h.2 c0).2 c1)
theorem fx_209k_218 {d : Nat} {fl : Nat → Bool} {n1 n2 : Nat} {p q : Bool} {ad : Nat → Nat} {I : mmI} {J : mmJ} {Q : mmQ} (h : mm_w Q (mm_wc d) bk_209 219 [none, none, none, none, none, none, none, none, none] [.int (nI 0)] ((fl, n1, n2, p, q, ad), I, J)) : mm_w Q (mm_wc (d)) bk_209 218 [none, none, none, none, none, none, none, none, none] [] ((fl, n1, n2, p, q, ad), I, J) := by
  refine mm_go [68, 151, 174, 218, 219] 80 ?_
  exact h
theorem fx_209k_174 {d : Nat} {a3 : Int32} {a6 : Int32} {a8 : Int32} {s0 : Int32} {s1 : Int32} {fl : Nat → Bool} {n1 n2 : Nat} {p q : Bool} {ad : Nat → Nat} {I : mmI} {J : mmJ} {Q : mmQ} (h : (vp_in ((nI 68) + a3) 279 ∧ ((((I 49 (((nI 68) + a3)).toNatClampNeg) * a6) < (s1 * s0) → mm_w Q (mm_wc d) bk_209 218 [none, none, none, none, none, none, none, none, none] [] ((fl, n1, n2, p, q, ad), I, J)) ∧ (¬ ((I 49 (((nI 68) + a3)).toNatClampNeg) * a6) < (s1 * s0) → (vp_in ((nI 64) + a3) 279 ∧ (vp_in ((nI 64) + a3) 279 ∧ ((((I 49 (((nI 64) + a3)).toNatClampNeg) * (I 49 (((nI 64) + a3)).toNatClampNeg)) < a8 → mm_w Q (mm_wc d) bk_209 218 [none, none, none, none, none, none, none, none, none] [] ((fl, n1, n2, p, q, ad), I, J)) ∧ (¬ ((I 49 (((nI 64) + a3)).toNatClampNeg) * (I 49 (((nI 64) + a3)).toNatClampNeg)) < a8 → mm_w Q (mm_wc d) bk_209 219 [none, none, none, none, none, none, none, none, none] [.int (nI 1)] ((fl, n1, n2, p, q, ad), I, J))))))))) : mm_w Q (mm_wc (d)) bk_209 174 [some (.ref 46), none, none, some (.int a3), none, none, some (.int a6), none, some (.int a8)] [.int s0, .int s1] ((fl, n1, n2, p, q, ad), I, J) := by
  refine mm_go [68, 151, 174, 218, 219] 80 ?_
  show vp_in ((nI 68) + a3) 279 ∧ _
  refine ⟨h.1, ?_⟩
  show mm_b _ _ _ _ _ [some (.ref 46), none, none, some (.int a3), none, none, some (.int a6), none, some (.int a8)] [.int (I 49 (((nI 68) + a3)).toNatClampNeg), .int (s1 * s0)] ((fl, n1, n2, p, q, ad), I, J)
  show (((I 49 (((nI 68) + a3)).toNatClampNeg) * a6) < (s1 * s0) → _) ∧ (¬ ((I 49 (((nI 68) + a3)).toNatClampNeg) * a6) < (s1 * s0) → _)
  refine ⟨fun c0 => ?_, fun c0 => ?_⟩
  · exact (h.2.1 c0)
  · show mm_b _ _ _ _ _ [some (.ref 46), none, none, some (.int a3), none, none, some (.int a6), none, some (.int a8)] [] ((fl, n1, n2, p, q, ad), I, J)
    show vp_in ((nI 64) + a3) 279 ∧ _
    refine ⟨(h.2.2 c0).1, ?_⟩
    show mm_b _ _ _ _ _ [some (.ref 46), none, none, some (.int a3), none, none, some (.int a6), none, some (.int a8)] [.int (I 49 (((nI 64) + a3)).toNatClampNeg), .int a8] ((fl, n1, n2, p, q, ad), I, J)
    show vp_in ((nI 64) + a3) 279 ∧ _
    refine ⟨(h.2.2 c0).2.1, ?_⟩
    show mm_b _ _ _ _ _ [some (.ref 46), none, none, some (.int a3), none, none, some (.int a6), none, some (.int a8)] [.int (I 49 (((nI 64) + a3)).toNatClampNeg), .int (I 49 (((nI 64) + a3)).toNatClampNeg), .int a8] ((fl, n1, n2, p, q, ad), I, J)
    show (((I 49 (((nI 64) + a3)).toNatClampNeg) * (I 49 (((nI 64) + a3)).toNatClampNeg)) < a8 → _) ∧ (¬ ((I 49 (((nI 64) + a3)).toNatClampNeg) * (I 49 (((nI 64) + a3)).toNatClampNeg)) < a8 → _)
    refine ⟨fun c1 => ?_, fun c1 => ?_⟩
    · exact ((h.2.2 c0).2.2.1 c1)
    · exact ((h.2.2 c0).2.2.2 c1)
theorem fx_209k_219 {d : Nat} {s0 : Int32} {fl : Nat → Bool} {n1 n2 : Nat} {p q : Bool} {ad : Nat → Nat} {I : mmI} {J : mmJ} {Q : mmQ} (h : ((s0 = 0 ∨ s0 = 1) ∧ Q (some (.int s0)) ((fl, n1, n2, p, q, ad), I, J))) : mm_w Q (mm_wc (d)) bk_209 219 [none, none, none, none, none, none, none, none, none] [.int s0] ((fl, n1, n2, p, q, ad), I, J) := by
  refine mm_go [68, 151, 174, 218, 219] 80 ?_
  show (s0 = 0 ∨ s0 = 1) ∧ _
  refine ⟨h.1, ?_⟩
  exact h.2
/- 272 ThreeBreathsModel less -/
theorem fx_272k {d : Nat} {x0 : Int32} {x1 : Int32} {fl : Nat → Bool} {n1 n2 : Nat} {p q : Bool} {ad : Nat → Nat} {I : mmI} {J : mmJ} {Q : mmQ} (h : mm_wc d 166 [.ref 46] ((fl, 0, 0, p, q, ad), I, J) (fun v τ => ∃ I1 J1, v = none ∧ τ = ((fl, 0, 0, p, q, ad), I1, J1) ∧ (((I1 46 14) = (nI 0) → mm_w Q (mm_wc d) bk_272 64 [some (.ref 46), none, none] [] ((fl, n1, n2, p, q, ad), I1, J1)) ∧ (¬ (I1 46 14) = (nI 0) → mm_wc d 169 [.int x0, .int (nI 0), .int (nI 2)] ((fl, 0, 0, p, q, ad), I1, J1) (fun v τ => ∃ r2 I2 J2, v = some (.int r2) ∧ τ = ((fl, 0, 0, p, q, ad), I2, J2) ∧ ((r2 = (nI 0) → mm_w Q (mm_wc d) bk_272 64 [some (.ref 46), none, none] [] ((fl, n1, n2, p, q, ad), I2, J2)) ∧ (¬ r2 = (nI 0) → ((¬ x0 = (nI 0) → ((¬ x0 = (nI 1) → mm_w Q (mm_wc d) bk_272 56 [some (.ref 46), some (.int x0), some (.int x1)] [.int (I2 49 6), .int (nI 0), .int x1] ((fl, n1, n2, p, q, ad), I2, J2)) ∧ (x0 = (nI 1) → mm_w Q (mm_wc d) bk_272 56 [some (.ref 46), some (.int x0), some (.int x1)] [.int (I2 49 4), .int (nI 0), .int x1] ((fl, n1, n2, p, q, ad), I2, J2)))) ∧ (x0 = (nI 0) → mm_w Q (mm_wc d) bk_272 56 [some (.ref 46), some (.int x0), some (.int x1)] [.int (I2 49 3), .int (nI 0), .int x1] ((fl, n1, n2, p, q, ad), I2, J2)))))))))) : mm_wc (d + 1) 272 [.ref 46, .int x0, .int x1] ((fl, n1, n2, p, q, ad), I, J) Q := by
  refine mm_call (c := 272) rfl rfl ?_
  refine mm_go [56, 64, 83, 93, 119] 80 ?_
  show mm_wc d 166 [.ref 46] ((fl, 0, 0, p, q, ad), I, J) _
  refine mm_wcm h ?_
  rintro v τ ⟨I1, J1, rfl, rfl, h1⟩
  refine mm_r0' ⟨rfl, ?_⟩
  show mm_b _ _ _ _ _ [some (.ref 46), some (.int x0), some (.int x1)] [] ((fl, n1, n2, p, q, ad), I1, J1)
  show ((I1 46 14) = (nI 0) → _) ∧ (¬ (I1 46 14) = (nI 0) → _)
  refine ⟨fun c0 => ?_, fun c0 => ?_⟩
  · exact (h1.1 c0)
  · show mm_b _ _ _ _ _ [some (.ref 46), some (.int x0), some (.int x1)] [] ((fl, n1, n2, p, q, ad), I1, J1)
    show mm_wc d 169 [.int x0, .int (nI 0), .int (nI 2)] ((fl, 0, 0, p, q, ad), I1, J1) _
    refine mm_wcm (h1.2 c0) ?_
    rintro v τ ⟨r2, I2, J2, rfl, rfl, h2⟩
    refine mm_r1' ⟨rfl, ?_⟩
    show mm_b _ _ _ _ _ [some (.ref 46), some (.int x0), some (.int x1)] [.int r2] ((fl, n1, n2, p, q, ad), I2, J2)
    show (r2 = (nI 0) → _) ∧ (¬ r2 = (nI 0) → _)
    refine ⟨fun c1 => ?_, fun c1 => ?_⟩
    · exact (h2.1 c1)
    · show mm_b _ _ _ _ _ [some (.ref 46), some (.int x0), some (.int x1)] [] ((fl, n1, n2, p, q, ad), I2, J2)
      show (¬ x0 = (nI 0) → _) ∧ (x0 = (nI 0) → _)
      refine ⟨fun c2 => ?_, fun c2 => ?_⟩
      · show mm_u _ _ _ _ _ _ [some (.ref 46), some (.int x0), some (.int x1)] [.int (nI 0), .int x1] ((fl, n1, n2, p, q, ad), I2, J2)
        show (¬ x0 = (nI 1) → _) ∧ (x0 = (nI 1) → _)
        refine ⟨fun c3 => ?_, fun c3 => ?_⟩
        · show mm_u _ _ _ _ _ _ [some (.ref 46), some (.int x0), some (.int x1)] [.int (nI 0), .int x1] ((fl, n1, n2, p, q, ad), I2, J2)
          show (vp_in (nI 6) 279) ∧ _
          refine ⟨(mm_inl (by decide)), ?_⟩
          exact (((h2.2 c1).1 c2).1 c3)
        · show mm_b _ _ _ _ _ [some (.ref 46), some (.int x0), some (.int x1)] [.int (nI 0), .int x1] ((fl, n1, n2, p, q, ad), I2, J2)
          show (vp_in (nI 4) 279) ∧ _
          refine ⟨(mm_inl (by decide)), ?_⟩
          exact (((h2.2 c1).1 c2).2 c3)
      · show mm_b _ _ _ _ _ [some (.ref 46), some (.int x0), some (.int x1)] [.int (nI 0), .int x1] ((fl, n1, n2, p, q, ad), I2, J2)
        show (vp_in (nI 3) 279) ∧ _
        refine ⟨(mm_inl (by decide)), ?_⟩
        exact ((h2.2 c1).2 c2)
theorem fx_272k_64 {d : Nat} {fl : Nat → Bool} {n1 n2 : Nat} {p q : Bool} {ad : Nat → Nat} {I : mmI} {J : mmJ} {Q : mmQ} (h : mm_wc d 167 [.ref 46, .int (nI 1)] ((fl, 0, 0, p, q, ad), I, J) (fun v τ => ∃ r1 I1 J1, v = some (.int r1) ∧ τ = ((fl, 0, 0, p, q, ad), I1, J1) ∧ Q (some (.int r1)) ((fl, n1, n2, p, q, ad), I1, J1))) : mm_w Q (mm_wc (d)) bk_272 64 [some (.ref 46), none, none] [] ((fl, n1, n2, p, q, ad), I, J) := by
  refine mm_go [56, 64, 83, 93, 119] 80 ?_
  show mm_wc d 167 [.ref 46, .int (nI 1)] ((fl, 0, 0, p, q, ad), I, J) _
  refine mm_wcm h ?_
  rintro v τ ⟨r1, I1, J1, rfl, rfl, h1⟩
  refine mm_r1' ⟨rfl, ?_⟩
  exact h1
theorem fx_272k_56 {d : Nat} {a1 : Int32} {a2 : Int32} {s0 : Int32} {s1 : Int32} {s2 : Int32} {fl : Nat → Bool} {n1 n2 : Nat} {p q : Bool} {ad : Nat → Nat} {I : mmI} {J : mmJ} {Q : mmQ} (h : mm_wc d 169 [.int s2, .int s1, .int (s0 - (nI 1))] ((fl, 0, 0, p, q, ad), I, J) (fun v τ => ∃ r1 I1 J1, v = some (.int r1) ∧ τ = ((fl, 0, 0, p, q, ad), I1, J1) ∧ ((¬ r1 = (nI 0) → ((¬ a1 = (nI 2) → mm_w Q (mm_wc d) bk_272 83 [some (.ref 46), some (.int a1), some (.int a2)] [.int (-1), .int (-1), .int (-1), .ref 46] ((fl, n1, n2, p, q, ad), I1, J1)) ∧ (a1 = (nI 2) → mm_w Q (mm_wc d) bk_272 83 [some (.ref 46), some (.int a1), some (.int a2)] [.int a2, .int (-1), .int (-1), .ref 46] ((fl, n1, n2, p, q, ad), I1, J1)))) ∧ (r1 = (nI 0) → mm_w Q (mm_wc d) bk_272 64 [some (.ref 46), none, none] [] ((fl, n1, n2, p, q, ad), I1, J1))))) : mm_w Q (mm_wc (d)) bk_272 56 [some (.ref 46), some (.int a1), some (.int a2)] [.int s0, .int s1, .int s2] ((fl, n1, n2, p, q, ad), I, J) := by
  refine mm_go [56, 64, 83, 93, 119] 80 ?_
  show mm_wc d 169 [.int s2, .int s1, .int (s0 - (nI 1))] ((fl, 0, 0, p, q, ad), I, J) _
  refine mm_wcm h ?_
  rintro v τ ⟨r1, I1, J1, rfl, rfl, h1⟩
  refine mm_r1' ⟨rfl, ?_⟩
  show mm_b _ _ _ _ _ [some (.ref 46), some (.int a1), some (.int a2)] [.int r1] ((fl, n1, n2, p, q, ad), I1, J1)
  show (¬ r1 = (nI 0) → _) ∧ (r1 = (nI 0) → _)
  refine ⟨fun c0 => ?_, fun c0 => ?_⟩
  · show mm_u _ _ _ _ _ _ [some (.ref 46), some (.int a1), some (.int a2)] [] ((fl, n1, n2, p, q, ad), I1, J1)
    show (¬ a1 = (nI 2) → _) ∧ (a1 = (nI 2) → _)
    refine ⟨fun c1 => ?_, fun c1 => ?_⟩
    · exact ((h1.1 c0).1 c1)
    · exact ((h1.1 c0).2 c1)
  · exact (h1.2 c0)
theorem fx_272k_83 {d : Nat} {a1 : Int32} {a2 : Int32} {s0 : Int32} {s1 : Int32} {s2 : Int32} {fl : Nat → Bool} {n1 n2 : Nat} {p q : Bool} {ad : Nat → Nat} {I : mmI} {J : mmJ} {Q : mmQ} (h : ((¬ a1 = (nI 1) → mm_w Q (mm_wc d) bk_272 93 [some (.ref 46), some (.int a1), some (.int a2)] [.int (-1), .int s0, .int s1, .int s2, .ref 46] ((fl, n1, n2, p, q, ad), I, J)) ∧ (a1 = (nI 1) → mm_w Q (mm_wc d) bk_272 93 [some (.ref 46), some (.int a1), some (.int a2)] [.int a2, .int s0, .int s1, .int s2, .ref 46] ((fl, n1, n2, p, q, ad), I, J)))) : mm_w Q (mm_wc (d)) bk_272 83 [some (.ref 46), some (.int a1), some (.int a2)] [.int s0, .int s1, .int s2, .ref 46] ((fl, n1, n2, p, q, ad), I, J) := by
  refine mm_go [56, 64, 83, 93, 119] 80 ?_
  show (¬ a1 = (nI 1) → _) ∧ (a1 = (nI 1) → _)
  refine ⟨fun c0 => ?_, fun c0 => ?_⟩
  · exact (h.1 c0)
  · exact (h.2 c0)
theorem fx_272k_93 {d : Nat} {a1 : Int32} {a2 : Int32} {s0 : Int32} {s1 : Int32} {s2 : Int32} {s3 : Int32} {fl : Nat → Bool} {n1 n2 : Nat} {p q : Bool} {ad : Nat → Nat} {I : mmI} {J : mmJ} {Q : mmQ} (h : mm_wc d 234 [.ref 46, .int s3, .int s2, .int s1, .int s0, .int (nI 0)] ((fl, 0, 0, p, q, ad), I, J) (fun v τ => ∃ I1 J1, v = none ∧ τ = ((fl, 0, 0, p, q, ad), I1, J1) ∧ mm_wc d 224 [.ref 46] ((fl, 0, 0, p, q, ad), I1, J1) (fun v τ => ∃ I2 J2, v = none ∧ τ = ((fl, 0, 0, p, q, ad), I2, J2) ∧ ((¬ a1 = (nI 0) → mm_w Q (mm_wc d) bk_272 119 [some (.ref 46), none, none] [] ((fl, n1, n2, p, q, ad), I2, J2)) ∧ (a1 = (nI 0) → mm_w Q (mm_wc d) bk_272 119 [some (.ref 46), none, none] [] ((fl, n1, n2, p, q, ad), (mm_up I2 46 27 ((I2 46 27) &&& (((nI 1) <<< (a2 &&& 31)) ^^^ (-1)))), J2)))))) : mm_w Q (mm_wc (d)) bk_272 93 [some (.ref 46), some (.int a1), some (.int a2)] [.int s0, .int s1, .int s2, .int s3, .ref 46] ((fl, n1, n2, p, q, ad), I, J) := by
  refine mm_go [56, 64, 83, 93, 119] 80 ?_
  show mm_wc d 234 [.ref 46, .int s3, .int s2, .int s1, .int s0, .int (nI 0)] ((fl, 0, 0, p, q, ad), I, J) _
  refine mm_wcm h ?_
  rintro v τ ⟨I1, J1, rfl, rfl, h1⟩
  refine mm_r0' ⟨rfl, ?_⟩
  show mm_b _ _ _ _ _ [some (.ref 46), some (.int a1), some (.int a2)] [] ((fl, n1, n2, p, q, ad), I1, J1)
  show mm_wc d 224 [.ref 46] ((fl, 0, 0, p, q, ad), I1, J1) _
  refine mm_wcm h1 ?_
  rintro v τ ⟨I2, J2, rfl, rfl, h2⟩
  refine mm_r0' ⟨rfl, ?_⟩
  show mm_b _ _ _ _ _ [some (.ref 46), some (.int a1), some (.int a2)] [] ((fl, n1, n2, p, q, ad), I2, J2)
  show (¬ a1 = (nI 0) → _) ∧ (a1 = (nI 0) → _)
  refine ⟨fun c0 => ?_, fun c0 => ?_⟩
  · exact (h2.1 c0)
  · exact (h2.2 c0)
theorem fx_272k_119 {d : Nat} {fl : Nat → Bool} {n1 n2 : Nat} {p q : Bool} {ad : Nat → Nat} {I : mmI} {J : mmJ} {Q : mmQ} (h : mm_wc d 239 [.ref 46, .int ((I 46 17) &&& (I 46 27)), .int ((I 46 18) &&& (I 46 27))] ((fl, 0, 0, p, q, ad), I, J) (fun v τ => ∃ r1 I1 J1, v = some (.int r1) ∧ τ = ((fl, 0, 0, p, q, ad), I1, J1) ∧ Q (some (.int r1)) ((fl, n1, n2, p, q, ad), I1, J1))) : mm_w Q (mm_wc (d)) bk_272 119 [some (.ref 46), none, none] [] ((fl, n1, n2, p, q, ad), I, J) := by
  refine mm_go [56, 64, 83, 93, 119] 80 ?_
  show mm_wc d 239 [.ref 46, .int ((I 46 17) &&& (I 46 27)), .int ((I 46 18) &&& (I 46 27))] ((fl, 0, 0, p, q, ad), I, J) _
  refine mm_wcm h ?_
  rintro v τ ⟨r1, I1, J1, rfl, rfl, h1⟩
  refine mm_r1' ⟨rfl, ?_⟩
  exact h1
/- 188 ThreeBreathsModel cake -/
theorem fx_188k {d : Nat} {x0 : Int32} {fl : Nat → Bool} {n1 n2 : Nat} {p q : Bool} {ad : Nat → Nat} {I : mmI} {J : mmJ} {Q : mmQ} (h : mm_wc d 166 [.ref 46] ((fl, 0, 0, p, q, ad), I, J) (fun v τ => ∃ I1 J1, v = none ∧ τ = ((fl, 0, 0, p, q, ad), I1, J1) ∧ mm_wc d 169 [.int x0, .int (nI 0), .int (I1 46 2)] ((fl, 0, 0, p, q, ad), I1, J1) (fun v τ => ∃ r2 I2 J2, v = some (.int r2) ∧ τ = ((fl, 0, 0, p, q, ad), I2, J2) ∧ ((¬ r2 = (nI 0) → mm_w Q (mm_wc d) bk_188 39 [some (.ref 46), some (.int x0), some (.int (nI 0))] [] ((fl, n1, n2, p, q, ad), (mm_up (mm_up (mm_up I2 46 2 (nI 0)) 46 9 (nI 0)) 46 13 (nI 0)), J2)) ∧ (r2 = (nI 0) → mm_wc d 167 [.ref 46, .int (nI 2)] ((fl, 0, 0, p, q, ad), I2, J2) (fun v τ => ∃ r3 I3 J3, v = some (.int r3) ∧ τ = ((fl, 0, 0, p, q, ad), I3, J3) ∧ Q (some (.int r3)) ((fl, n1, n2, p, q, ad), I3, J3))))))) : mm_wc (d + 1) 188 [.ref 46, .int x0] ((fl, n1, n2, p, q, ad), I, J) Q := by
  refine mm_call (c := 188) rfl rfl ?_
  refine mm_go [39, 77, 104, 127, 171, 181, 196] 80 ?_
  show mm_wc d 166 [.ref 46] ((fl, 0, 0, p, q, ad), I, J) _
  refine mm_wcm h ?_
  rintro v τ ⟨I1, J1, rfl, rfl, h1⟩
  refine mm_r0' ⟨rfl, ?_⟩
  show mm_b _ _ _ _ _ [some (.ref 46), some (.int x0), none] [] ((fl, n1, n2, p, q, ad), I1, J1)
  show mm_wc d 169 [.int x0, .int (nI 0), .int (I1 46 2)] ((fl, 0, 0, p, q, ad), I1, J1) _
  refine mm_wcm h1 ?_
  rintro v τ ⟨r2, I2, J2, rfl, rfl, h2⟩
  refine mm_r1' ⟨rfl, ?_⟩
  show mm_b _ _ _ _ _ [some (.ref 46), some (.int x0), none] [.int r2] ((fl, n1, n2, p, q, ad), I2, J2)
  show (¬ r2 = (nI 0) → _) ∧ (r2 = (nI 0) → _)
  refine ⟨fun c0 => ?_, fun c0 => ?_⟩
  · show mm_u _ _ _ _ _ _ [some (.ref 46), some (.int x0), none] [] ((fl, n1, n2, p, q, ad), I2, J2)
    show (((nI 0) : Int32) = 0 ∨ ((nI 0) : Int32) = 1) ∧ _
    refine ⟨(by decide), ?_⟩
    exact (h2.1 c0)
  · show mm_b _ _ _ _ _ [some (.ref 46), some (.int x0), none] [] ((fl, n1, n2, p, q, ad), I2, J2)
    show mm_wc d 167 [.ref 46, .int (nI 2)] ((fl, 0, 0, p, q, ad), I2, J2) _
    refine mm_wcm (h2.2 c0) ?_
    rintro v τ ⟨r3, I3, J3, rfl, rfl, h3⟩
    refine mm_r1' ⟨rfl, ?_⟩
    exact h3
theorem fx_188k_39 {d : Nat} {a1 : Int32} {a2 : Int32} {fl : Nat → Bool} {n1 n2 : Nat} {p q : Bool} {ad : Nat → Nat} {I : mmI} {J : mmJ} {Q : mmQ} (h : (((nI 279) ≤ a2 → mm_wc d 176 [.ref 46] ((fl, 0, 0, p, q, ad), (mm_up (mm_up I 46 3 a1) 46 5 (nI 0)), J) (fun v τ => ∃ I1 J1, v = none ∧ τ = ((fl, 0, 0, p, q, ad), I1, J1) ∧ mm_wc d 190 [.ref 46] ((fl, 0, 0, p, q, ad), I1, J1) (fun v τ => ∃ I2 J2, v = none ∧ τ = ((fl, 0, 0, p, q, ad), I2, J2) ∧ mm_w Q (mm_wc d) bk_188 77 [some (.ref 46), none, none] [] ((fl, n1, n2, p, q, ad), I2, J2)))) ∧ (¬ (nI 279) ≤ a2 → (vp_in a2 279 ∧ mm_w Q (mm_wc d) bk_188 39 [some (.ref 46), some (.int a1), some (.int (a2 + (nI 1)))] [] ((fl, n1, n2, p, q, ad), (mm_up I 50 a2.toNatClampNeg (nI 0)), J))))) : mm_w Q (mm_wc (d)) bk_188 39 [some (.ref 46), some (.int a1), some (.int a2)] [] ((fl, n1, n2, p, q, ad), I, J) := by
  refine mm_go [39, 77, 104, 127, 171, 181, 196] 80 ?_
  show ((nI 279) ≤ a2 → _) ∧ (¬ (nI 279) ≤ a2 → _)
  refine ⟨fun c0 => ?_, fun c0 => ?_⟩
  · show mm_u _ _ _ _ _ _ [some (.ref 46), some (.int a1), some (.int a2)] [] ((fl, n1, n2, p, q, ad), I, J)
    show mm_wc d 176 [.ref 46] ((fl, 0, 0, p, q, ad), (mm_up (mm_up I 46 3 a1) 46 5 (nI 0)), J) _
    refine mm_wcm (h.1 c0) ?_
    rintro v τ ⟨I1, J1, rfl, rfl, h1⟩
    refine mm_r0' ⟨rfl, ?_⟩
    show mm_b _ _ _ _ _ [some (.ref 46), some (.int a1), none] [] ((fl, n1, n2, p, q, ad), I1, J1)
    show mm_wc d 190 [.ref 46] ((fl, 0, 0, p, q, ad), I1, J1) _
    refine mm_wcm h1 ?_
    rintro v τ ⟨I2, J2, rfl, rfl, h2⟩
    refine mm_r0' ⟨rfl, ?_⟩
    exact h2
  · show mm_b _ _ _ _ _ [some (.ref 46), some (.int a1), some (.int a2)] [] ((fl, n1, n2, p, q, ad), I, J)
    show vp_in a2 279 ∧ _
    refine ⟨(h.2 c0).1, ?_⟩
    exact (h.2 c0).2
theorem fx_188k_77 {d : Nat} {fl : Nat → Bool} {n1 n2 : Nat} {p q : Bool} {ad : Nat → Nat} {I : mmI} {J : mmJ} {Q : mmQ} (h : ((¬ (I 46 13) = (nI 0) → mm_w Q (mm_wc d) bk_188 104 [some (.ref 46), none, none] [] ((fl, n1, n2, p, q, ad), I, J)) ∧ ((I 46 13) = (nI 0) → ((¬ (I 46 6) = (nI 59) → mm_w Q (mm_wc d) bk_188 104 [some (.ref 46), none, none] [] ((fl, n1, n2, p, q, ad), I, J)) ∧ ((I 46 6) = (nI 59) → mm_wc d 176 [.ref 46] ((fl, 0, 0, p, q, ad), I, J) (fun v τ => ∃ I1 J1, v = none ∧ τ = ((fl, 0, 0, p, q, ad), I1, J1) ∧ mm_wc d 190 [.ref 46] ((fl, 0, 0, p, q, ad), I1, J1) (fun v τ => ∃ I2 J2, v = none ∧ τ = ((fl, 0, 0, p, q, ad), I2, J2) ∧ mm_w Q (mm_wc d) bk_188 77 [some (.ref 46), none, none] [] ((fl, n1, n2, p, q, ad), I2, J2)))))))) : mm_w Q (mm_wc (d)) bk_188 77 [some (.ref 46), none, none] [] ((fl, n1, n2, p, q, ad), I, J) := by
  refine mm_go [39, 77, 104, 127, 171, 181, 196] 80 ?_
  show (¬ (I 46 13) = (nI 0) → _) ∧ ((I 46 13) = (nI 0) → _)
  refine ⟨fun c0 => ?_, fun c0 => ?_⟩
  · exact (h.1 c0)
  · show mm_b _ _ _ _ _ [some (.ref 46), none, none] [] ((fl, n1, n2, p, q, ad), I, J)
    show (¬ (I 46 6) = (nI 59) → _) ∧ ((I 46 6) = (nI 59) → _)
    refine ⟨fun c1 => ?_, fun c1 => ?_⟩
    · exact ((h.2 c0).1 c1)
    · show mm_b _ _ _ _ _ [some (.ref 46), none, none] [] ((fl, n1, n2, p, q, ad), I, J)
      show mm_wc d 176 [.ref 46] ((fl, 0, 0, p, q, ad), I, J) _
      refine mm_wcm ((h.2 c0).2 c1) ?_
      rintro v τ ⟨I1, J1, rfl, rfl, h1⟩
      refine mm_r0' ⟨rfl, ?_⟩
      show mm_b _ _ _ _ _ [some (.ref 46), none, none] [] ((fl, n1, n2, p, q, ad), I1, J1)
      show mm_wc d 190 [.ref 46] ((fl, 0, 0, p, q, ad), I1, J1) _
      refine mm_wcm h1 ?_
      rintro v τ ⟨I2, J2, rfl, rfl, h2⟩
      refine mm_r0' ⟨rfl, ?_⟩
      exact h2
theorem fx_188k_104 {d : Nat} {fl : Nat → Bool} {n1 n2 : Nat} {p q : Bool} {ad : Nat → Nat} {I : mmI} {J : mmJ} {Q : mmQ} (h : ((¬ (I 46 13) = (nI 0) → mm_w Q (mm_wc d) bk_188 127 [some (.ref 46), none, none] [] ((fl, n1, n2, p, q, ad), I, J)) ∧ ((I 46 13) = (nI 0) → (((I 46 6) = (nI 0) → mm_w Q (mm_wc d) bk_188 127 [some (.ref 46), none, none] [] ((fl, n1, n2, p, q, ad), I, J)) ∧ (¬ (I 46 6) = (nI 0) → mm_wc d 177 [.ref 46, .int (nI 1), .int (I 46 4)] ((fl, 0, 0, p, q, ad), I, J) (fun v τ => ∃ I1 J1, v = none ∧ τ = ((fl, 0, 0, p, q, ad), I1, J1) ∧ mm_w Q (mm_wc d) bk_188 127 [some (.ref 46), none, none] [] ((fl, n1, n2, p, q, ad), I1, J1))))))) : mm_w Q (mm_wc (d)) bk_188 104 [some (.ref 46), none, none] [] ((fl, n1, n2, p, q, ad), I, J) := by
  refine mm_go [39, 77, 104, 127, 171, 181, 196] 80 ?_
  show (¬ (I 46 13) = (nI 0) → _) ∧ ((I 46 13) = (nI 0) → _)
  refine ⟨fun c0 => ?_, fun c0 => ?_⟩
  · exact (h.1 c0)
  · show mm_b _ _ _ _ _ [some (.ref 46), none, none] [] ((fl, n1, n2, p, q, ad), I, J)
    show ((I 46 6) = (nI 0) → _) ∧ (¬ (I 46 6) = (nI 0) → _)
    refine ⟨fun c1 => ?_, fun c1 => ?_⟩
    · exact ((h.2 c0).1 c1)
    · show mm_b _ _ _ _ _ [some (.ref 46), none, none] [] ((fl, n1, n2, p, q, ad), I, J)
      show mm_wc d 177 [.ref 46, .int (nI 1), .int (I 46 4)] ((fl, 0, 0, p, q, ad), I, J) _
      refine mm_wcm ((h.2 c0).2 c1) ?_
      rintro v τ ⟨I1, J1, rfl, rfl, h1⟩
      refine mm_r0' ⟨rfl, ?_⟩
      exact h1
theorem fx_188k_127 {d : Nat} {fl : Nat → Bool} {n1 n2 : Nat} {p q : Bool} {ad : Nat → Nat} {I : mmI} {J : mmJ} {Q : mmQ} (h : ((¬ (I 46 13) = (nI 0) → mm_w Q (mm_wc d) bk_188 181 [some (.ref 46), none, none] [] ((fl, n1, n2, p, q, ad), I, J)) ∧ ((I 46 13) = (nI 0) → (((I 50 0) = (nI 0) → mm_w Q (mm_wc d) bk_188 171 [some (.ref 46), none, none] [] ((fl, n1, n2, p, q, ad), I, J)) ∧ (¬ (I 50 0) = (nI 0) → (((I 50 3) = (nI 0) → mm_w Q (mm_wc d) bk_188 171 [some (.ref 46), none, none] [] ((fl, n1, n2, p, q, ad), I, J)) ∧ (¬ (I 50 3) = (nI 0) → (((I 50 4) = (nI 0) → mm_w Q (mm_wc d) bk_188 171 [some (.ref 46), none, none] [] ((fl, n1, n2, p, q, ad), I, J)) ∧ (¬ (I 50 4) = (nI 0) → ((¬ (I 50 6) = (nI 0) → mm_w Q (mm_wc d) bk_188 181 [some (.ref 46), none, none] [] ((fl, n1, n2, p, q, ad), I, J)) ∧ ((I 50 6) = (nI 0) → mm_w Q (mm_wc d) bk_188 171 [some (.ref 46), none, none] [] ((fl, n1, n2, p, q, ad), I, J)))))))))))) : mm_w Q (mm_wc (d)) bk_188 127 [some (.ref 46), none, none] [] ((fl, n1, n2, p, q, ad), I, J) := by
  refine mm_go [39, 77, 104, 127, 171, 181, 196] 80 ?_
  show (¬ (I 46 13) = (nI 0) → _) ∧ ((I 46 13) = (nI 0) → _)
  refine ⟨fun c0 => ?_, fun c0 => ?_⟩
  · exact (h.1 c0)
  · show mm_b _ _ _ _ _ [some (.ref 46), none, none] [] ((fl, n1, n2, p, q, ad), I, J)
    show (vp_in (nI 0) 279) ∧ _
    refine ⟨(mm_inl (by decide)), ?_⟩
    show mm_b _ _ _ _ _ [some (.ref 46), none, none] [.int (I 50 0)] ((fl, n1, n2, p, q, ad), I, J)
    show ((I 50 0) = (nI 0) → _) ∧ (¬ (I 50 0) = (nI 0) → _)
    refine ⟨fun c1 => ?_, fun c1 => ?_⟩
    · exact ((h.2 c0).1 c1)
    · show mm_b _ _ _ _ _ [some (.ref 46), none, none] [] ((fl, n1, n2, p, q, ad), I, J)
      show (vp_in (nI 3) 279) ∧ _
      refine ⟨(mm_inl (by decide)), ?_⟩
      show mm_b _ _ _ _ _ [some (.ref 46), none, none] [.int (I 50 3)] ((fl, n1, n2, p, q, ad), I, J)
      show ((I 50 3) = (nI 0) → _) ∧ (¬ (I 50 3) = (nI 0) → _)
      refine ⟨fun c2 => ?_, fun c2 => ?_⟩
      · exact (((h.2 c0).2 c1).1 c2)
      · show mm_b _ _ _ _ _ [some (.ref 46), none, none] [] ((fl, n1, n2, p, q, ad), I, J)
        show (vp_in (nI 4) 279) ∧ _
        refine ⟨(mm_inl (by decide)), ?_⟩
        show mm_b _ _ _ _ _ [some (.ref 46), none, none] [.int (I 50 4)] ((fl, n1, n2, p, q, ad), I, J)
        show ((I 50 4) = (nI 0) → _) ∧ (¬ (I 50 4) = (nI 0) → _)
        refine ⟨fun c3 => ?_, fun c3 => ?_⟩
        · exact ((((h.2 c0).2 c1).2 c2).1 c3)
        · show mm_b _ _ _ _ _ [some (.ref 46), none, none] [] ((fl, n1, n2, p, q, ad), I, J)
          show (vp_in (nI 6) 279) ∧ _
          refine ⟨(mm_inl (by decide)), ?_⟩
          show mm_b _ _ _ _ _ [some (.ref 46), none, none] [.int (I 50 6)] ((fl, n1, n2, p, q, ad), I, J)
          show (¬ (I 50 6) = (nI 0) → _) ∧ ((I 50 6) = (nI 0) → _)
          refine ⟨fun c4 => ?_, fun c4 => ?_⟩
          · exact (((((h.2 c0).2 c1).2 c2).2 c3).1 c4)
          · exact (((((h.2 c0).2 c1).2 c2).2 c3).2 c4)
theorem fx_188k_181 {d : Nat} {fl : Nat → Bool} {n1 n2 : Nat} {p q : Bool} {ad : Nat → Nat} {I : mmI} {J : mmJ} {Q : mmQ} (h : (((I 46 13) = (nI 0) → mm_w Q (mm_wc d) bk_188 196 [some (.ref 46), none, some (.int (nI 0))] [] ((fl, n1, n2, p, q, ad), I, J)) ∧ (¬ (I 46 13) = (nI 0) → mm_wc d 167 [.ref 46, .int (nI 4)] ((fl, 0, 0, p, q, ad), I, J) (fun v τ => ∃ r1 I1 J1, v = some (.int r1) ∧ τ = ((fl, 0, 0, p, q, ad), I1, J1) ∧ Q (some (.int r1)) ((fl, n1, n2, p, q, ad), I1, J1))))) : mm_w Q (mm_wc (d)) bk_188 181 [some (.ref 46), none, none] [] ((fl, n1, n2, p, q, ad), I, J) := by
  refine mm_go [39, 77, 104, 127, 171, 181, 196] 80 ?_
  show ((I 46 13) = (nI 0) → _) ∧ (¬ (I 46 13) = (nI 0) → _)
  refine ⟨fun c0 => ?_, fun c0 => ?_⟩
  · exact (h.1 c0)
  · show mm_b _ _ _ _ _ [some (.ref 46), none, none] [] ((fl, n1, n2, p, q, ad), I, J)
    show mm_wc d 167 [.ref 46, .int (nI 4)] ((fl, 0, 0, p, q, ad), I, J) _
    refine mm_wcm (h.2 c0) ?_
    rintro v τ ⟨r1, I1, J1, rfl, rfl, h1⟩
    refine mm_r1' ⟨rfl, ?_⟩
    exact h1
theorem fx_188k_171 {d : Nat} {fl : Nat → Bool} {n1 n2 : Nat} {p q : Bool} {ad : Nat → Nat} {I : mmI} {J : mmJ} {Q : mmQ} (h : mm_wc d 177 [.ref 46, .int (nI 6), .int (I 46 4)] ((fl, 0, 0, p, q, ad), I, J) (fun v τ => ∃ I1 J1, v = none ∧ τ = ((fl, 0, 0, p, q, ad), I1, J1) ∧ mm_w Q (mm_wc d) bk_188 181 [some (.ref 46), none, none] [] ((fl, n1, n2, p, q, ad), I1, J1))) : mm_w Q (mm_wc (d)) bk_188 171 [some (.ref 46), none, none] [] ((fl, n1, n2, p, q, ad), I, J) := by
  refine mm_go [39, 77, 104, 127, 171, 181, 196] 80 ?_
  show mm_wc d 177 [.ref 46, .int (nI 6), .int (I 46 4)] ((fl, 0, 0, p, q, ad), I, J) _
  refine mm_wcm h ?_
  rintro v τ ⟨I1, J1, rfl, rfl, h1⟩
  refine mm_r0' ⟨rfl, ?_⟩
  exact h1
theorem fx_188k_196 {d : Nat} {a2 : Int32} {fl : Nat → Bool} {n1 n2 : Nat} {p q : Bool} {ad : Nat → Nat} {I : mmI} {J : mmJ} {Q : mmQ} (h : (((nI 279) ≤ a2 → mm_wc d 205 [.ref 46] ((fl, 0, 0, p, q, ad), (mm_up (mm_up (mm_up I 46 14 (nI 1)) 46 19 (nI 0)) 46 20 (nI 0)), J) (fun v τ => ∃ r1 I1 J1, v = some (.int r1) ∧ τ = ((fl, 0, 0, p, q, ad), I1, J1) ∧ mm_wc d 210 [.ref 46] ((fl, 0, 0, p, q, ad), (mm_up (mm_up I1 46 17 r1) 46 18 (nI 0)), J1) (fun v τ => ∃ I2 J2, v = none ∧ τ = ((fl, 0, 0, p, q, ad), I2, J2) ∧ mm_wc d 206 [.ref 46] ((fl, 0, 0, p, q, ad), I2, J2) (fun v τ => ∃ r3 I3 J3, v = some (.int r3) ∧ τ = ((fl, 0, 0, p, q, ad), I3, J3) ∧ Q (some (.int r3)) ((fl, n1, n2, p, q, ad), I3, J3))))) ∧ (¬ (nI 279) ≤ a2 → (vp_in a2 279 ∧ (vp_in a2 279 ∧ mm_w Q (mm_wc d) bk_188 196 [some (.ref 46), none, some (.int (a2 + (nI 1)))] [] ((fl, n1, n2, p, q, ad), (mm_up I 49 a2.toNatClampNeg (I 50 a2.toNatClampNeg)), J)))))) : mm_w Q (mm_wc (d)) bk_188 196 [some (.ref 46), none, some (.int a2)] [] ((fl, n1, n2, p, q, ad), I, J) := by
  refine mm_go [39, 77, 104, 127, 171, 181, 196] 80 ?_
  show ((nI 279) ≤ a2 → _) ∧ (¬ (nI 279) ≤ a2 → _)
  refine ⟨fun c0 => ?_, fun c0 => ?_⟩
  · show mm_u _ _ _ _ _ _ [some (.ref 46), none, some (.int a2)] [] ((fl, n1, n2, p, q, ad), I, J)
    show (((nI 1) : Int32) = 0 ∨ ((nI 1) : Int32) = 1) ∧ _
    refine ⟨(by decide), ?_⟩
    show mm_b _ _ _ _ _ [some (.ref 46), none, none] [] ((fl, n1, n2, p, q, ad), (mm_up I 46 14 (nI 1)), J)
    show mm_wc d 205 [.ref 46] ((fl, 0, 0, p, q, ad), (mm_up (mm_up (mm_up I 46 14 (nI 1)) 46 19 (nI 0)) 46 20 (nI 0)), J) _
    refine mm_wcm (h.1 c0) ?_
    rintro v τ ⟨r1, I1, J1, rfl, rfl, h1⟩
    refine mm_r1' ⟨rfl, ?_⟩
    show mm_b _ _ _ _ _ [some (.ref 46), none, none] [.int r1, .ref 46] ((fl, n1, n2, p, q, ad), I1, J1)
    show mm_wc d 210 [.ref 46] ((fl, 0, 0, p, q, ad), (mm_up (mm_up I1 46 17 r1) 46 18 (nI 0)), J1) _
    refine mm_wcm h1 ?_
    rintro v τ ⟨I2, J2, rfl, rfl, h2⟩
    refine mm_r0' ⟨rfl, ?_⟩
    show mm_b _ _ _ _ _ [some (.ref 46), none, none] [] ((fl, n1, n2, p, q, ad), I2, J2)
    show mm_wc d 206 [.ref 46] ((fl, 0, 0, p, q, ad), I2, J2) _
    refine mm_wcm h2 ?_
    rintro v τ ⟨r3, I3, J3, rfl, rfl, h3⟩
    refine mm_r1' ⟨rfl, ?_⟩
    exact h3
  · show mm_b _ _ _ _ _ [some (.ref 46), none, some (.int a2)] [] ((fl, n1, n2, p, q, ad), I, J)
    show vp_in a2 279 ∧ _
    refine ⟨(h.2 c0).1, ?_⟩
    show mm_b _ _ _ _ _ [some (.ref 46), none, some (.int a2)] [.int (I 50 a2.toNatClampNeg), .int a2, .ref 49] ((fl, n1, n2, p, q, ad), I, J)
    show vp_in a2 279 ∧ _
    refine ⟨(h.2 c0).2.1, ?_⟩
    exact (h.2 c0).2.2
/- 198 ThreeBreathsModel leftLine -/
theorem fx_198k {d : Nat} {fl : Nat → Bool} {n1 n2 : Nat} {p q : Bool} {ad : Nat → Nat} {I : mmI} {J : mmJ} {Q : mmQ} (h : (((I 46 13) = (nI 0) → mm_wc d 179 [.ref 46, .ref 107] ((fl, 0, 0, p, q, ad), (mm_up I 50 8 (nI 1)), J) (fun v τ => ∃ r1 I1 J1, v = some (.int r1) ∧ τ = ((fl, 0, 0, p, q, ad), I1, J1) ∧ ((r1 = (nI 0) → mm_w Q (mm_wc d) bk_198 28 [some (.ref 46), some (.int (nI 1)), none] [] ((fl, n1, n2, p, q, ad), I1, J1)) ∧ (¬ r1 = (nI 0) → Q none ((fl, n1, n2, p, q, ad), I1, J1))))) ∧ (¬ (I 46 13) = (nI 0) → Q none ((fl, n1, n2, p, q, ad), I, J)))) : mm_wc (d + 1) 198 [.ref 46] ((fl, n1, n2, p, q, ad), I, J) Q := by
  refine mm_call (c := 198) rfl rfl ?_
  refine mm_go [28, 51, 78, 108] 80 ?_
  show ((I 46 13) = (nI 0) → _) ∧ (¬ (I 46 13) = (nI 0) → _)
  refine ⟨fun c0 => ?_, fun c0 => ?_⟩
  · show mm_u _ _ _ _ _ _ [some (.ref 46), none, none] [] ((fl, n1, n2, p, q, ad), I, J)
    show (vp_in (nI 8) 279) ∧ _
    refine ⟨(mm_inl (by decide)), ?_⟩
    show mm_b _ _ _ _ _ [some (.ref 46), none, none] [] ((fl, n1, n2, p, q, ad), (mm_up I 50 8 (nI 1)), J)
    show mm_wc d 179 [.ref 46, .ref 107] ((fl, 0, 0, p, q, ad), (mm_up I 50 8 (nI 1)), J) _
    refine mm_wcm (h.1 c0) ?_
    rintro v τ ⟨r1, I1, J1, rfl, rfl, h1⟩
    refine mm_r1' ⟨rfl, ?_⟩
    show mm_b _ _ _ _ _ [some (.ref 46), none, none] [.int r1] ((fl, n1, n2, p, q, ad), I1, J1)
    show (r1 = (nI 0) → _) ∧ (¬ r1 = (nI 0) → _)
    refine ⟨fun c1 => ?_, fun c1 => ?_⟩
    · exact (h1.1 c1)
    · exact (h1.2 c1)
  · exact (h.2 c0)
theorem fx_198k_28 {d : Nat} {a1 : Int32} {fl : Nat → Bool} {n1 n2 : Nat} {p q : Bool} {ad : Nat → Nat} {I : mmI} {J : mmJ} {Q : mmQ} (h : ((a1 = (nI 0) → Q none ((fl, n1, n2, p, q, ad), I, J)) ∧ (¬ a1 = (nI 0) → mm_wc d 181 [.ref 46] ((fl, 0, 0, p, q, ad), I, J) (fun v τ => ∃ I1 J1, v = none ∧ τ = ((fl, 0, 0, p, q, ad), I1, J1) ∧ (((I1 46 13) = (nI 0) → mm_wc d 182 [.ref 46] ((fl, 0, 0, p, q, ad), I1, J1) (fun v τ => ∃ r2 I2 J2, v = some (.int r2) ∧ τ = ((fl, 0, 0, p, q, ad), I2, J2) ∧ mm_w Q (mm_wc d) bk_198 51 [some (.ref 46), none, none] [.int r2] ((fl, n1, n2, p, q, ad), I2, J2))) ∧ (¬ (I1 46 13) = (nI 0) → mm_w Q (mm_wc d) bk_198 51 [some (.ref 46), none, none] [.int (-1)] ((fl, n1, n2, p, q, ad), I1, J1))))))) : mm_w Q (mm_wc (d)) bk_198 28 [some (.ref 46), some (.int a1), none] [] ((fl, n1, n2, p, q, ad), I, J) := by
  refine mm_go [28, 51, 78, 108] 80 ?_
  show (a1 = (nI 0) → _) ∧ (¬ a1 = (nI 0) → _)
  refine ⟨fun c0 => ?_, fun c0 => ?_⟩
  · exact (h.1 c0)
  · show mm_b _ _ _ _ _ [some (.ref 46), some (.int a1), none] [] ((fl, n1, n2, p, q, ad), I, J)
    show mm_wc d 181 [.ref 46] ((fl, 0, 0, p, q, ad), I, J) _
    refine mm_wcm (h.2 c0) ?_
    rintro v τ ⟨I1, J1, rfl, rfl, h1⟩
    refine mm_r0' ⟨rfl, ?_⟩
    show mm_b _ _ _ _ _ [some (.ref 46), some (.int a1), none] [] ((fl, n1, n2, p, q, ad), I1, J1)
    show ((I1 46 13) = (nI 0) → _) ∧ (¬ (I1 46 13) = (nI 0) → _)
    refine ⟨fun c1 => ?_, fun c1 => ?_⟩
    · show mm_u _ _ _ _ _ _ [some (.ref 46), some (.int a1), none] [] ((fl, n1, n2, p, q, ad), I1, J1)
      show mm_wc d 182 [.ref 46] ((fl, 0, 0, p, q, ad), I1, J1) _
      refine mm_wcm (h1.1 c1) ?_
      rintro v τ ⟨r2, I2, J2, rfl, rfl, h2⟩
      refine mm_r1' ⟨rfl, ?_⟩
      exact h2
    · exact (h1.2 c1)
theorem fx_198k_51 {d : Nat} {s0 : Int32} {fl : Nat → Bool} {n1 n2 : Nat} {p q : Bool} {ad : Nat → Nat} {I : mmI} {J : mmJ} {Q : mmQ} (h : ((¬ (I 46 13) = (nI 0) → mm_w Q (mm_wc d) bk_198 78 [some (.ref 46), none, some (.int s0)] [] ((fl, n1, n2, p, q, ad), I, J)) ∧ ((I 46 13) = (nI 0) → mm_wc d 169 [.int s0, .int (nI 0), .int (nI 9)] ((fl, 0, 0, p, q, ad), I, J) (fun v τ => ∃ r1 I1 J1, v = some (.int r1) ∧ τ = ((fl, 0, 0, p, q, ad), I1, J1) ∧ ((¬ r1 = (nI 0) → mm_w Q (mm_wc d) bk_198 78 [some (.ref 46), none, some (.int s0)] [] ((fl, n1, n2, p, q, ad), I1, J1)) ∧ (r1 = (nI 0) → mm_wc d 177 [.ref 46, .int (nI 2), .int (I1 46 4)] ((fl, 0, 0, p, q, ad), I1, J1) (fun v τ => ∃ I2 J2, v = none ∧ τ = ((fl, 0, 0, p, q, ad), I2, J2) ∧ mm_w Q (mm_wc d) bk_198 78 [some (.ref 46), none, some (.int s0)] [] ((fl, n1, n2, p, q, ad), I2, J2)))))))) : mm_w Q (mm_wc (d)) bk_198 51 [some (.ref 46), none, none] [.int s0] ((fl, n1, n2, p, q, ad), I, J) := by
  refine mm_go [28, 51, 78, 108] 80 ?_
  show (¬ (I 46 13) = (nI 0) → _) ∧ ((I 46 13) = (nI 0) → _)
  refine ⟨fun c0 => ?_, fun c0 => ?_⟩
  · exact (h.1 c0)
  · show mm_b _ _ _ _ _ [some (.ref 46), none, some (.int s0)] [] ((fl, n1, n2, p, q, ad), I, J)
    show mm_wc d 169 [.int s0, .int (nI 0), .int (nI 9)] ((fl, 0, 0, p, q, ad), I, J) _
    refine mm_wcm (h.2 c0) ?_
    rintro v τ ⟨r1, I1, J1, rfl, rfl, h1⟩
    refine mm_r1' ⟨rfl, ?_⟩
    show mm_b _ _ _ _ _ [some (.ref 46), none, some (.int s0)] [.int r1] ((fl, n1, n2, p, q, ad), I1, J1)
    show (¬ r1 = (nI 0) → _) ∧ (r1 = (nI 0) → _)
    refine ⟨fun c1 => ?_, fun c1 => ?_⟩
    · exact (h1.1 c1)
    · show mm_b _ _ _ _ _ [some (.ref 46), none, some (.int s0)] [] ((fl, n1, n2, p, q, ad), I1, J1)
      show mm_wc d 177 [.ref 46, .int (nI 2), .int (I1 46 4)] ((fl, 0, 0, p, q, ad), I1, J1) _
      refine mm_wcm (h1.2 c1) ?_
      rintro v τ ⟨I2, J2, rfl, rfl, h2⟩
      refine mm_r0' ⟨rfl, ?_⟩
      exact h2
theorem fx_198k_78 {d : Nat} {a2 : Int32} {fl : Nat → Bool} {n1 n2 : Nat} {p q : Bool} {ad : Nat → Nat} {I : mmI} {J : mmJ} {Q : mmQ} (h : ((¬ (I 46 13) = (nI 0) → mm_w Q (mm_wc d) bk_198 108 [some (.ref 46), none, some (.int a2)] [] ((fl, n1, n2, p, q, ad), I, J)) ∧ ((I 46 13) = (nI 0) → mm_wc d 170 [.int (I 50 9), .int a2] ((fl, 0, 0, p, q, ad), I, J) (fun v τ => ∃ r1 I1 J1, v = some (.int r1) ∧ τ = ((fl, 0, 0, p, q, ad), I1, J1) ∧ ((r1 = (nI 0) → mm_w Q (mm_wc d) bk_198 108 [some (.ref 46), none, some (.int a2)] [] ((fl, n1, n2, p, q, ad), I1, J1)) ∧ (¬ r1 = (nI 0) → mm_wc d 177 [.ref 46, .int (nI 3), .int (I1 46 4)] ((fl, 0, 0, p, q, ad), I1, J1) (fun v τ => ∃ I2 J2, v = none ∧ τ = ((fl, 0, 0, p, q, ad), I2, J2) ∧ mm_w Q (mm_wc d) bk_198 108 [some (.ref 46), none, some (.int a2)] [] ((fl, n1, n2, p, q, ad), I2, J2)))))))) : mm_w Q (mm_wc (d)) bk_198 78 [some (.ref 46), none, some (.int a2)] [] ((fl, n1, n2, p, q, ad), I, J) := by
  refine mm_go [28, 51, 78, 108] 80 ?_
  show (¬ (I 46 13) = (nI 0) → _) ∧ ((I 46 13) = (nI 0) → _)
  refine ⟨fun c0 => ?_, fun c0 => ?_⟩
  · exact (h.1 c0)
  · show mm_b _ _ _ _ _ [some (.ref 46), none, some (.int a2)] [] ((fl, n1, n2, p, q, ad), I, J)
    show (vp_in (nI 9) 279) ∧ _
    refine ⟨(mm_inl (by decide)), ?_⟩
    show mm_b _ _ _ _ _ [some (.ref 46), none, some (.int a2)] [.int (I 50 9)] ((fl, n1, n2, p, q, ad), I, J)
    show mm_wc d 170 [.int (I 50 9), .int a2] ((fl, 0, 0, p, q, ad), I, J) _
    refine mm_wcm (h.2 c0) ?_
    rintro v τ ⟨r1, I1, J1, rfl, rfl, h1⟩
    refine mm_r1' ⟨rfl, ?_⟩
    show mm_b _ _ _ _ _ [some (.ref 46), none, some (.int a2)] [.int r1] ((fl, n1, n2, p, q, ad), I1, J1)
    show (r1 = (nI 0) → _) ∧ (¬ r1 = (nI 0) → _)
    refine ⟨fun c1 => ?_, fun c1 => ?_⟩
    · exact (h1.1 c1)
    · show mm_b _ _ _ _ _ [some (.ref 46), none, some (.int a2)] [] ((fl, n1, n2, p, q, ad), I1, J1)
      show mm_wc d 177 [.ref 46, .int (nI 3), .int (I1 46 4)] ((fl, 0, 0, p, q, ad), I1, J1) _
      refine mm_wcm (h1.2 c1) ?_
      rintro v τ ⟨I2, J2, rfl, rfl, h2⟩
      refine mm_r0' ⟨rfl, ?_⟩
      exact h2
theorem fx_198k_108 {d : Nat} {a2 : Int32} {fl : Nat → Bool} {n1 n2 : Nat} {p q : Bool} {ad : Nat → Nat} {I : mmI} {J : mmJ} {Q : mmQ} (h : (((I 46 13) = (nI 0) → mm_wc d 176 [.ref 46] ((fl, 0, 0, p, q, ad), (mm_up I 50 9 ((I 50 9) ||| ((nI 1) <<< (a2 &&& 31)))), J) (fun v τ => ∃ I1 J1, v = none ∧ τ = ((fl, 0, 0, p, q, ad), I1, J1) ∧ mm_wc d 186 [.ref 46] ((fl, 0, 0, p, q, ad), I1, J1) (fun v τ => ∃ r2 I2 J2, v = some (.int r2) ∧ τ = ((fl, 0, 0, p, q, ad), I2, J2) ∧ mm_w Q (mm_wc d) bk_198 28 [some (.ref 46), some (.int r2), none] [] ((fl, n1, n2, p, q, ad), I2, J2)))) ∧ (¬ (I 46 13) = (nI 0) → Q none ((fl, n1, n2, p, q, ad), I, J)))) : mm_w Q (mm_wc (d)) bk_198 108 [some (.ref 46), none, some (.int a2)] [] ((fl, n1, n2, p, q, ad), I, J) := by
  refine mm_go [28, 51, 78, 108] 80 ?_
  show ((I 46 13) = (nI 0) → _) ∧ (¬ (I 46 13) = (nI 0) → _)
  refine ⟨fun c0 => ?_, fun c0 => ?_⟩
  · show mm_u _ _ _ _ _ _ [some (.ref 46), none, some (.int a2)] [] ((fl, n1, n2, p, q, ad), I, J)
    show (vp_in (nI 9) 279) ∧ _
    refine ⟨(mm_inl (by decide)), ?_⟩
    show mm_b _ _ _ _ _ [some (.ref 46), none, some (.int a2)] [.int (I 50 9), .int (nI 9), .ref 50] ((fl, n1, n2, p, q, ad), I, J)
    show (vp_in (nI 9) 279) ∧ _
    refine ⟨(mm_inl (by decide)), ?_⟩
    show mm_b _ _ _ _ _ [some (.ref 46), none, some (.int a2)] [] ((fl, n1, n2, p, q, ad), (mm_up I 50 9 ((I 50 9) ||| ((nI 1) <<< (a2 &&& 31)))), J)
    show mm_wc d 176 [.ref 46] ((fl, 0, 0, p, q, ad), (mm_up I 50 9 ((I 50 9) ||| ((nI 1) <<< (a2 &&& 31)))), J) _
    refine mm_wcm (h.1 c0) ?_
    rintro v τ ⟨I1, J1, rfl, rfl, h1⟩
    refine mm_r0' ⟨rfl, ?_⟩
    show mm_b _ _ _ _ _ [some (.ref 46), none, some (.int a2)] [] ((fl, n1, n2, p, q, ad), I1, J1)
    show mm_wc d 186 [.ref 46] ((fl, 0, 0, p, q, ad), I1, J1) _
    refine mm_wcm h1 ?_
    rintro v τ ⟨r2, I2, J2, rfl, rfl, h2⟩
    refine mm_r1' ⟨rfl, ?_⟩
    exact h2
  · exact (h.2 c0)
/- 2 ThreeBreaths$Board isIn -/
theorem fx_2k {d : Nat} {x0 : Int32} {x1 : Int32} {x2 : Int32} {x3 : Int32} {fl : Nat → Bool} {n1 n2 : Nat} {p q : Bool} {ad : Nat → Nat} {I : mmI} {J : mmJ} {Q : mmQ} (h : mm_wc d 11 [.ref 6, .int x0] ((fl, 0, 0, p, q, ad), I, J) (fun v τ => ∃ r1 I1 J1, v = some (.int r1) ∧ τ = ((fl, 0, 0, p, q, ad), I1, J1) ∧ (vp_in r1 10 ∧ (vp_in r1 10 ∧ ((¬ (x1 - (I1 (mm_ck p 6) r1.toNatClampNeg)) = (nI 0) → mm_w Q (mm_wc d) bk_2 53 [some (.ref 6), some (.int x0), none, none, some (.int x3), none, some (.int (x1 - (I1 (mm_ck p 6) r1.toNatClampNeg))), some (.int (x2 - (I1 (mm_ck p 7) r1.toNatClampNeg))), none, none, none, none, none] [] ((fl, n1, n2, p, q, ad), I1, J1)) ∧ ((x1 - (I1 (mm_ck p 6) r1.toNatClampNeg)) = (nI 0) → ((¬ (x2 - (I1 (mm_ck p 7) r1.toNatClampNeg)) = (nI 0) → mm_w Q (mm_wc d) bk_2 53 [some (.ref 6), some (.int x0), none, none, some (.int x3), none, some (.int (x1 - (I1 (mm_ck p 6) r1.toNatClampNeg))), some (.int (x2 - (I1 (mm_ck p 7) r1.toNatClampNeg))), none, none, none, none, none] [] ((fl, n1, n2, p, q, ad), I1, J1)) ∧ ((x2 - (I1 (mm_ck p 7) r1.toNatClampNeg)) = (nI 0) → Q (some (.int (nI 1))) ((fl, n1, n2, p, q, ad), I1, J1))))))))) : mm_wc (d + 1) 2 [.ref 6, .int x0, .int x1, .int x2, .int x3] ((fl, n1, n2, p, q, ad), I, J) Q := by
  cases p
  · refine mm_call (c := 2) rfl rfl ?_
    refine mm_go [53, 130, 192, 193] 80 ?_
    show mm_wc d 11 [.ref 6, .int x0] ((fl, 0, 0, false, q, ad), I, J) _
    refine mm_wcm h ?_
    rintro v τ ⟨r1, I1, J1, rfl, rfl, h1⟩
    refine mm_r1' ⟨rfl, ?_⟩
    show mm_b _ _ _ _ _ [some (.ref 6), some (.int x0), some (.int x1), some (.int x2), some (.int x3), none, none, none, none, none, none, none, none] [.int r1] ((fl, n1, n2, false, q, ad), I1, J1)
    show vp_in r1 10 ∧ _
    refine ⟨h1.1, ?_⟩
    show mm_b _ _ _ _ _ [some (.ref 6), some (.int x0), some (.int x1), some (.int x2), some (.int x3), some (.int r1), none, none, none, none, none, none, none] [.int (I1 38 r1.toNatClampNeg), .int x1] ((fl, n1, n2, false, q, ad), I1, J1)
    show vp_in r1 10 ∧ _
    refine ⟨h1.2.1, ?_⟩
    show mm_b _ _ _ _ _ [some (.ref 6), some (.int x0), some (.int x1), some (.int x2), some (.int x3), some (.int r1), some (.int (x1 - (I1 38 r1.toNatClampNeg))), none, none, none, none, none, none] [.int (I1 39 r1.toNatClampNeg), .int x2] ((fl, n1, n2, false, q, ad), I1, J1)
    show (¬ (x1 - (I1 38 r1.toNatClampNeg)) = (nI 0) → _) ∧ ((x1 - (I1 38 r1.toNatClampNeg)) = (nI 0) → _)
    refine ⟨fun c0 => ?_, fun c0 => ?_⟩
    · exact (h1.2.2.1 c0)
    · show mm_b _ _ _ _ _ [some (.ref 6), some (.int x0), some (.int x1), some (.int x2), some (.int x3), some (.int r1), some (.int (x1 - (I1 38 r1.toNatClampNeg))), some (.int (x2 - (I1 39 r1.toNatClampNeg))), none, none, none, none, none] [] ((fl, n1, n2, false, q, ad), I1, J1)
      show (¬ (x2 - (I1 39 r1.toNatClampNeg)) = (nI 0) → _) ∧ ((x2 - (I1 39 r1.toNatClampNeg)) = (nI 0) → _)
      refine ⟨fun c1 => ?_, fun c1 => ?_⟩
      · exact ((h1.2.2.2 c0).1 c1)
      · show mm_b _ _ _ _ _ [some (.ref 6), some (.int x0), some (.int x1), some (.int x2), some (.int x3), some (.int r1), some (.int (x1 - (I1 38 r1.toNatClampNeg))), some (.int (x2 - (I1 39 r1.toNatClampNeg))), none, none, none, none, none] [] ((fl, n1, n2, false, q, ad), I1, J1)
        show (((nI 1) : Int32) = 0 ∨ ((nI 1) : Int32) = 1) ∧ _
        refine ⟨(by decide), ?_⟩
        exact ((h1.2.2.2 c0).2 c1)
  · refine mm_call (c := 2) rfl rfl ?_
    refine mm_go [53, 130, 192, 193] 80 ?_
    show mm_wc d 11 [.ref 6, .int x0] ((fl, 0, 0, true, q, ad), I, J) _
    refine mm_wcm h ?_
    rintro v τ ⟨r1, I1, J1, rfl, rfl, h1⟩
    refine mm_r1' ⟨rfl, ?_⟩
    show mm_b _ _ _ _ _ [some (.ref 6), some (.int x0), some (.int x1), some (.int x2), some (.int x3), none, none, none, none, none, none, none, none] [.int r1] ((fl, n1, n2, true, q, ad), I1, J1)
    show vp_in r1 10 ∧ _
    refine ⟨h1.1, ?_⟩
    show mm_b _ _ _ _ _ [some (.ref 6), some (.int x0), some (.int x1), some (.int x2), some (.int x3), some (.int r1), none, none, none, none, none, none, none] [.int (I1 24 r1.toNatClampNeg), .int x1] ((fl, n1, n2, true, q, ad), I1, J1)
    show vp_in r1 10 ∧ _
    refine ⟨h1.2.1, ?_⟩
    show mm_b _ _ _ _ _ [some (.ref 6), some (.int x0), some (.int x1), some (.int x2), some (.int x3), some (.int r1), some (.int (x1 - (I1 24 r1.toNatClampNeg))), none, none, none, none, none, none] [.int (I1 25 r1.toNatClampNeg), .int x2] ((fl, n1, n2, true, q, ad), I1, J1)
    show (¬ (x1 - (I1 24 r1.toNatClampNeg)) = (nI 0) → _) ∧ ((x1 - (I1 24 r1.toNatClampNeg)) = (nI 0) → _)
    refine ⟨fun c0 => ?_, fun c0 => ?_⟩
    · exact (h1.2.2.1 c0)
    · show mm_b _ _ _ _ _ [some (.ref 6), some (.int x0), some (.int x1), some (.int x2), some (.int x3), some (.int r1), some (.int (x1 - (I1 24 r1.toNatClampNeg))), some (.int (x2 - (I1 25 r1.toNatClampNeg))), none, none, none, none, none] [] ((fl, n1, n2, true, q, ad), I1, J1)
      show (¬ (x2 - (I1 25 r1.toNatClampNeg)) = (nI 0) → _) ∧ ((x2 - (I1 25 r1.toNatClampNeg)) = (nI 0) → _)
      refine ⟨fun c1 => ?_, fun c1 => ?_⟩
      · exact ((h1.2.2.2 c0).1 c1)
      · show mm_b _ _ _ _ _ [some (.ref 6), some (.int x0), some (.int x1), some (.int x2), some (.int x3), some (.int r1), some (.int (x1 - (I1 24 r1.toNatClampNeg))), some (.int (x2 - (I1 25 r1.toNatClampNeg))), none, none, none, none, none] [] ((fl, n1, n2, true, q, ad), I1, J1)
        show (((nI 1) : Int32) = 0 ∨ ((nI 1) : Int32) = 1) ∧ _
        refine ⟨(by decide), ?_⟩
        exact ((h1.2.2.2 c0).2 c1)
theorem fx_2k_53 {d : Nat} {a1 : Int32} {a4 : Int32} {a6 : Int32} {a7 : Int32} {fl : Nat → Bool} {n1 n2 : Nat} {p q : Bool} {ad : Nat → Nat} {I : mmI} {J : mmJ} {Q : mmQ} (h : mm_wc d 10 [.ref 6, .int a1] ((fl, 0, 0, p, q, ad), I, J) (fun v τ => ∃ r1 I1 J1, v = some (.int r1) ∧ τ = ((fl, 0, 0, p, q, ad), I1, J1) ∧ mm_wc d 12 [.ref 6, .int a1] ((fl, 0, 0, p, q, ad), I1, J1) (fun v τ => ∃ r2 I2 J2, v = some (.int r2) ∧ τ = ((fl, 0, 0, p, q, ad), I2, J2) ∧ (vp_in r1 16 ∧ (vp_in r1 16 ∧ (vp_in r1 16 ∧ (vp_in r1 16 ∧ ((a4 = (nI 0) → mm_w Q (mm_wc d) bk_2 130 [some (.ref 6), none, none, none, none, none, none, none, none, some (.int r2), some (.int ((a6 * (I2 66 r1.toNatClampNeg)) + (a7 * (I2 67 r1.toNatClampNeg)))), some (.int (((I2 66 r1.toNatClampNeg) * a7) - ((I2 67 r1.toNatClampNeg) * a6))), none] [.int (nI 1), .int ((a6 * a6) + (a7 * a7))] ((fl, n1, n2, p, q, ad), I2, J2)) ∧ (¬ a4 = (nI 0) → mm_w Q (mm_wc d) bk_2 130 [some (.ref 6), none, none, none, none, none, none, none, none, some (.int r2), some (.int ((a6 * (I2 66 r1.toNatClampNeg)) + (a7 * (I2 67 r1.toNatClampNeg)))), some (.int (((I2 66 r1.toNatClampNeg) * a7) - ((I2 67 r1.toNatClampNeg) * a6))), none] [.int (nI 4), .int ((a6 * a6) + (a7 * a7))] ((fl, n1, n2, p, q, ad), I2, J2)))))))))) : mm_w Q (mm_wc (d)) bk_2 53 [some (.ref 6), some (.int a1), none, none, some (.int a4), none, some (.int a6), some (.int a7), none, none, none, none, none] [] ((fl, n1, n2, p, q, ad), I, J) := by
  refine mm_go [53, 130, 192, 193] 80 ?_
  show mm_wc d 10 [.ref 6, .int a1] ((fl, 0, 0, p, q, ad), I, J) _
  refine mm_wcm h ?_
  rintro v τ ⟨r1, I1, J1, rfl, rfl, h1⟩
  refine mm_r1' ⟨rfl, ?_⟩
  show mm_b _ _ _ _ _ [some (.ref 6), some (.int a1), none, none, some (.int a4), none, some (.int a6), some (.int a7), none, none, none, none, none] [.int r1] ((fl, n1, n2, p, q, ad), I1, J1)
  show mm_wc d 12 [.ref 6, .int a1] ((fl, 0, 0, p, q, ad), I1, J1) _
  refine mm_wcm h1 ?_
  rintro v τ ⟨r2, I2, J2, rfl, rfl, h2⟩
  refine mm_r1' ⟨rfl, ?_⟩
  show mm_b _ _ _ _ _ [some (.ref 6), some (.int a1), none, none, some (.int a4), none, some (.int a6), some (.int a7), some (.int r1), none, none, none, none] [.int r2] ((fl, n1, n2, p, q, ad), I2, J2)
  show vp_in r1 16 ∧ _
  refine ⟨h2.1, ?_⟩
  show mm_b _ _ _ _ _ [some (.ref 6), some (.int a1), none, none, some (.int a4), none, some (.int a6), some (.int a7), some (.int r1), some (.int r2), none, none, none] [.int (I2 66 r1.toNatClampNeg), .int a6] ((fl, n1, n2, p, q, ad), I2, J2)
  show vp_in r1 16 ∧ _
  refine ⟨h2.2.1, ?_⟩
  show mm_b _ _ _ _ _ [some (.ref 6), some (.int a1), none, none, some (.int a4), none, some (.int a6), some (.int a7), some (.int r1), some (.int r2), none, none, none] [.int (I2 67 r1.toNatClampNeg), .int a7, .int (a6 * (I2 66 r1.toNatClampNeg))] ((fl, n1, n2, p, q, ad), I2, J2)
  show vp_in r1 16 ∧ _
  refine ⟨h2.2.2.1, ?_⟩
  show mm_b _ _ _ _ _ [some (.ref 6), some (.int a1), none, none, some (.int a4), none, some (.int a6), some (.int a7), some (.int r1), some (.int r2), some (.int ((a6 * (I2 66 r1.toNatClampNeg)) + (a7 * (I2 67 r1.toNatClampNeg)))), none, none] [.int (I2 66 r1.toNatClampNeg)] ((fl, n1, n2, p, q, ad), I2, J2)
  show vp_in r1 16 ∧ _
  refine ⟨h2.2.2.2.1, ?_⟩
  show mm_b _ _ _ _ _ [some (.ref 6), some (.int a1), none, none, some (.int a4), none, some (.int a6), some (.int a7), some (.int r1), some (.int r2), some (.int ((a6 * (I2 66 r1.toNatClampNeg)) + (a7 * (I2 67 r1.toNatClampNeg)))), none, none] [.int (I2 67 r1.toNatClampNeg), .int ((I2 66 r1.toNatClampNeg) * a7)] ((fl, n1, n2, p, q, ad), I2, J2)
  show (a4 = (nI 0) → _) ∧ (¬ a4 = (nI 0) → _)
  refine ⟨fun c0 => ?_, fun c0 => ?_⟩
  · exact (h2.2.2.2.2.1 c0)
  · exact (h2.2.2.2.2.2 c0)
theorem fx_2k_130 {d : Nat} {a9 : Int32} {a10 : Int32} {a11 : Int32} {s0 : Int32} {s1 : Int32} {fl : Nat → Bool} {n1 n2 : Nat} {p q : Bool} {ad : Nat → Nat} {I : mmI} {J : mmJ} {Q : mmQ} (h : ((a10 ≤ (nI 0) → mm_w Q (mm_wc d) bk_2 192 [none, none, none, none, none, none, none, none, none, none, none, none, none] [] ((fl, n1, n2, p, q, ad), I, J)) ∧ (¬ a10 ≤ (nI 0) → mm_wc d 1000 [.int a11] ((fl, 0, 0, p, q, ad), I, J) (fun v τ => ∃ r1 I1 J1, v = some (.int r1) ∧ τ = ((fl, 0, 0, p, q, ad), I1, J1) ∧ (vp_in a9 4 ∧ ((((I1 (mm_ck p 12) a9.toNatClampNeg) * a10) < ((nI 10) * r1) → mm_w Q (mm_wc d) bk_2 192 [none, none, none, none, none, none, none, none, none, none, none, none, none] [] ((fl, n1, n2, p, q, ad), I1, J1)) ∧ (¬ ((I1 (mm_ck p 12) a9.toNatClampNeg) * a10) < ((nI 10) * r1) → (vp_in a9 4 ∧ (vp_in a9 4 ∧ ((((I1 (mm_ck p 11) a9.toNatClampNeg) * (I1 (mm_ck p 11) a9.toNatClampNeg)) < (s1 * s0) → mm_w Q (mm_wc d) bk_2 192 [none, none, none, none, none, none, none, none, none, none, none, none, none] [] ((fl, n1, n2, p, q, ad), I1, J1)) ∧ (¬ ((I1 (mm_ck p 11) a9.toNatClampNeg) * (I1 (mm_ck p 11) a9.toNatClampNeg)) < (s1 * s0) → mm_w Q (mm_wc d) bk_2 193 [none, none, none, none, none, none, none, none, none, none, none, none, none] [.int (nI 1)] ((fl, n1, n2, p, q, ad), I1, J1)))))))))))) : mm_w Q (mm_wc (d)) bk_2 130 [some (.ref 6), none, none, none, none, none, none, none, none, some (.int a9), some (.int a10), some (.int a11), none] [.int s0, .int s1] ((fl, n1, n2, p, q, ad), I, J) := by
  cases p
  · refine mm_go [53, 130, 192, 193] 80 ?_
    show (a10 ≤ (nI 0) → _) ∧ (¬ a10 ≤ (nI 0) → _)
    refine ⟨fun c0 => ?_, fun c0 => ?_⟩
    · exact (h.1 c0)
    · show mm_b _ _ _ _ _ [some (.ref 6), none, none, none, none, none, none, none, none, some (.int a9), some (.int a10), some (.int a11), some (.int (s1 * s0))] [] ((fl, n1, n2, false, q, ad), I, J)
      show mm_wc d 1000 [.int a11] ((fl, 0, 0, false, q, ad), I, J) _
      refine mm_wcm (h.2 c0) ?_
      rintro v τ ⟨r1, I1, J1, rfl, rfl, h1⟩
      refine mm_r1' ⟨rfl, ?_⟩
      show mm_b _ _ _ _ _ [some (.ref 6), none, none, none, none, none, none, none, none, some (.int a9), some (.int a10), some (.int a11), some (.int (s1 * s0))] [.int r1, .int (nI 10)] ((fl, n1, n2, false, q, ad), I1, J1)
      show vp_in a9 4 ∧ _
      refine ⟨h1.1, ?_⟩
      show mm_b _ _ _ _ _ [some (.ref 6), none, none, none, none, none, none, none, none, some (.int a9), some (.int a10), some (.int a11), some (.int (s1 * s0))] [.int (I1 44 a9.toNatClampNeg), .int ((nI 10) * r1)] ((fl, n1, n2, false, q, ad), I1, J1)
      show (((I1 44 a9.toNatClampNeg) * a10) < ((nI 10) * r1) → _) ∧ (¬ ((I1 44 a9.toNatClampNeg) * a10) < ((nI 10) * r1) → _)
      refine ⟨fun c1 => ?_, fun c1 => ?_⟩
      · exact (h1.2.1 c1)
      · show mm_b _ _ _ _ _ [some (.ref 6), none, none, none, none, none, none, none, none, some (.int a9), some (.int a10), some (.int a11), some (.int (s1 * s0))] [] ((fl, n1, n2, false, q, ad), I1, J1)
        show vp_in a9 4 ∧ _
        refine ⟨(h1.2.2 c1).1, ?_⟩
        show mm_b _ _ _ _ _ [some (.ref 6), none, none, none, none, none, none, none, none, some (.int a9), some (.int a10), some (.int a11), some (.int (s1 * s0))] [.int (I1 43 a9.toNatClampNeg), .int (s1 * s0)] ((fl, n1, n2, false, q, ad), I1, J1)
        show vp_in a9 4 ∧ _
        refine ⟨(h1.2.2 c1).2.1, ?_⟩
        show mm_b _ _ _ _ _ [some (.ref 6), none, none, none, none, none, none, none, none, some (.int a9), some (.int a10), some (.int a11), some (.int (s1 * s0))] [.int (I1 43 a9.toNatClampNeg), .int (I1 43 a9.toNatClampNeg), .int (s1 * s0)] ((fl, n1, n2, false, q, ad), I1, J1)
        show (((I1 43 a9.toNatClampNeg) * (I1 43 a9.toNatClampNeg)) < (s1 * s0) → _) ∧ (¬ ((I1 43 a9.toNatClampNeg) * (I1 43 a9.toNatClampNeg)) < (s1 * s0) → _)
        refine ⟨fun c2 => ?_, fun c2 => ?_⟩
        · exact ((h1.2.2 c1).2.2.1 c2)
        · exact ((h1.2.2 c1).2.2.2 c2)
  · refine mm_go [53, 130, 192, 193] 80 ?_
    show (a10 ≤ (nI 0) → _) ∧ (¬ a10 ≤ (nI 0) → _)
    refine ⟨fun c0 => ?_, fun c0 => ?_⟩
    · exact (h.1 c0)
    · show mm_b _ _ _ _ _ [some (.ref 6), none, none, none, none, none, none, none, none, some (.int a9), some (.int a10), some (.int a11), some (.int (s1 * s0))] [] ((fl, n1, n2, true, q, ad), I, J)
      show mm_wc d 1000 [.int a11] ((fl, 0, 0, true, q, ad), I, J) _
      refine mm_wcm (h.2 c0) ?_
      rintro v τ ⟨r1, I1, J1, rfl, rfl, h1⟩
      refine mm_r1' ⟨rfl, ?_⟩
      show mm_b _ _ _ _ _ [some (.ref 6), none, none, none, none, none, none, none, none, some (.int a9), some (.int a10), some (.int a11), some (.int (s1 * s0))] [.int r1, .int (nI 10)] ((fl, n1, n2, true, q, ad), I1, J1)
      show vp_in a9 4 ∧ _
      refine ⟨h1.1, ?_⟩
      show mm_b _ _ _ _ _ [some (.ref 6), none, none, none, none, none, none, none, none, some (.int a9), some (.int a10), some (.int a11), some (.int (s1 * s0))] [.int (I1 30 a9.toNatClampNeg), .int ((nI 10) * r1)] ((fl, n1, n2, true, q, ad), I1, J1)
      show (((I1 30 a9.toNatClampNeg) * a10) < ((nI 10) * r1) → _) ∧ (¬ ((I1 30 a9.toNatClampNeg) * a10) < ((nI 10) * r1) → _)
      refine ⟨fun c1 => ?_, fun c1 => ?_⟩
      · exact (h1.2.1 c1)
      · show mm_b _ _ _ _ _ [some (.ref 6), none, none, none, none, none, none, none, none, some (.int a9), some (.int a10), some (.int a11), some (.int (s1 * s0))] [] ((fl, n1, n2, true, q, ad), I1, J1)
        show vp_in a9 4 ∧ _
        refine ⟨(h1.2.2 c1).1, ?_⟩
        show mm_b _ _ _ _ _ [some (.ref 6), none, none, none, none, none, none, none, none, some (.int a9), some (.int a10), some (.int a11), some (.int (s1 * s0))] [.int (I1 29 a9.toNatClampNeg), .int (s1 * s0)] ((fl, n1, n2, true, q, ad), I1, J1)
        show vp_in a9 4 ∧ _
        refine ⟨(h1.2.2 c1).2.1, ?_⟩
        show mm_b _ _ _ _ _ [some (.ref 6), none, none, none, none, none, none, none, none, some (.int a9), some (.int a10), some (.int a11), some (.int (s1 * s0))] [.int (I1 29 a9.toNatClampNeg), .int (I1 29 a9.toNatClampNeg), .int (s1 * s0)] ((fl, n1, n2, true, q, ad), I1, J1)
        show (((I1 29 a9.toNatClampNeg) * (I1 29 a9.toNatClampNeg)) < (s1 * s0) → _) ∧ (¬ ((I1 29 a9.toNatClampNeg) * (I1 29 a9.toNatClampNeg)) < (s1 * s0) → _)
        refine ⟨fun c2 => ?_, fun c2 => ?_⟩
        · exact ((h1.2.2 c1).2.2.1 c2)
        · exact ((h1.2.2 c1).2.2.2 c2)
theorem fx_2k_192 {d : Nat} {fl : Nat → Bool} {n1 n2 : Nat} {p q : Bool} {ad : Nat → Nat} {I : mmI} {J : mmJ} {Q : mmQ} (h : mm_w Q (mm_wc d) bk_2 193 [none, none, none, none, none, none, none, none, none, none, none, none, none] [.int (nI 0)] ((fl, n1, n2, p, q, ad), I, J)) : mm_w Q (mm_wc (d)) bk_2 192 [none, none, none, none, none, none, none, none, none, none, none, none, none] [] ((fl, n1, n2, p, q, ad), I, J) := by
  refine mm_go [53, 130, 192, 193] 80 ?_
  exact h
theorem fx_2k_193 {d : Nat} {s0 : Int32} {fl : Nat → Bool} {n1 n2 : Nat} {p q : Bool} {ad : Nat → Nat} {I : mmI} {J : mmJ} {Q : mmQ} (h : ((s0 = 0 ∨ s0 = 1) ∧ Q (some (.int s0)) ((fl, n1, n2, p, q, ad), I, J))) : mm_w Q (mm_wc (d)) bk_2 193 [none, none, none, none, none, none, none, none, none, none, none, none, none] [.int s0] ((fl, n1, n2, p, q, ad), I, J) := by
  refine mm_go [53, 130, 192, 193] 80 ?_
  show (s0 = 0 ∨ s0 = 1) ∧ _
  refine ⟨h.1, ?_⟩
  exact h.2
/- 36 ThreeBreaths$FanList list -/
theorem fx_36k {d : Nat} {x0 : Int32} {x1 : Int32} {x2 : Int32} {b1 b2 : Bool} {n1 n2 : Nat} {p q : Bool} {ad : Nat → Nat} {I : mmI} {J : mmJ} {Q : mmQ} (h : mm_wc d 34 [.ref 77] (((mm_fl true b1 b2), 0, 0, p, q, ad), I, J) (fun v τ => ∃ I1 J1, v = none ∧ τ = (((mm_fl true b1 b2), 0, 0, p, q, ad), I1, J1) ∧ mm_w Q (mm_wc d) bk_36 7 [some (.ref 77), some (.int x0), some (.int x1), some (.int x2), some (.int (nI 0)), none] [] (((mm_fl true b1 b2), n1, n2, p, q, ad), I1, J1))) : mm_wc (d + 1) 36 [.ref 77, .int x0, .int x1, .int x2] (((mm_fl true b1 b2), n1, n2, p, q, ad), I, J) Q := by
  refine mm_call (c := 36) rfl rfl ?_
  refine mm_go [7, 45, 63, 67, 83] 80 ?_
  show mm_wc d 34 [.ref 77] (((mm_fl true b1 b2), 0, 0, p, q, ad), I, J) _
  refine mm_wcm h ?_
  rintro v τ ⟨I1, J1, rfl, rfl, h1⟩
  refine mm_r0' ⟨rfl, ?_⟩
  exact h1
theorem fx_36k_7 {d : Nat} {a1 : Int32} {a2 : Int32} {a3 : Int32} {a4 : Int32} {b1 b2 : Bool} {n1 n2 : Nat} {p q : Bool} {ad : Nat → Nat} {I : mmI} {J : mmJ} {Q : mmQ} (h : (((I 6 2) ≤ a4 → Q none (((mm_fl true b1 b2), n1, n2, p, q, ad), I, J)) ∧ (¬ (I 6 2) ≤ a4 → ((¬ a1 = (nI 1) → mm_wc d 12 [.ref 6, .int a4] (((mm_fl true b1 b2), 0, 0, p, q, ad), I, J) (fun v τ => ∃ r1 I1 J1, v = some (.int r1) ∧ τ = (((mm_fl true b1 b2), 0, 0, p, q, ad), I1, J1) ∧ mm_w Q (mm_wc d) bk_36 45 [some (.ref 77), some (.int a1), some (.int a2), some (.int a3), some (.int a4), none] [.int r1] (((mm_fl true b1 b2), n1, n2, p, q, ad), I1, J1))) ∧ (a1 = (nI 1) → mm_wc d 11 [.ref 6, .int a4] (((mm_fl true b1 b2), 0, 0, p, q, ad), I, J) (fun v τ => ∃ r2 I2 J2, v = some (.int r2) ∧ τ = (((mm_fl true b1 b2), 0, 0, p, q, ad), I2, J2) ∧ mm_w Q (mm_wc d) bk_36 45 [some (.ref 77), some (.int a1), some (.int a2), some (.int a3), some (.int a4), none] [.int r2] (((mm_fl true b1 b2), n1, n2, p, q, ad), I2, J2))))))) : mm_w Q (mm_wc (d)) bk_36 7 [some (.ref 77), some (.int a1), some (.int a2), some (.int a3), some (.int a4), none] [] (((mm_fl true b1 b2), n1, n2, p, q, ad), I, J) := by
  refine mm_go [7, 45, 63, 67, 83] 80 ?_
  show ((I 6 2) ≤ a4 → _) ∧ (¬ (I 6 2) ≤ a4 → _)
  refine ⟨fun c0 => ?_, fun c0 => ?_⟩
  · exact (h.1 c0)
  · show mm_b _ _ _ _ _ [some (.ref 77), some (.int a1), some (.int a2), some (.int a3), some (.int a4), none] [] (((mm_fl true b1 b2), n1, n2, p, q, ad), I, J)
    show (¬ a1 = (nI 1) → _) ∧ (a1 = (nI 1) → _)
    refine ⟨fun c1 => ?_, fun c1 => ?_⟩
    · show mm_u _ _ _ _ _ _ [some (.ref 77), some (.int a1), some (.int a2), some (.int a3), some (.int a4), none] [] (((mm_fl true b1 b2), n1, n2, p, q, ad), I, J)
      show mm_wc d 12 [.ref 6, .int a4] (((mm_fl true b1 b2), 0, 0, p, q, ad), I, J) _
      refine mm_wcm ((h.2 c0).1 c1) ?_
      rintro v τ ⟨r1, I1, J1, rfl, rfl, h1⟩
      refine mm_r1' ⟨rfl, ?_⟩
      exact h1
    · show mm_b _ _ _ _ _ [some (.ref 77), some (.int a1), some (.int a2), some (.int a3), some (.int a4), none] [] (((mm_fl true b1 b2), n1, n2, p, q, ad), I, J)
      show mm_wc d 11 [.ref 6, .int a4] (((mm_fl true b1 b2), 0, 0, p, q, ad), I, J) _
      refine mm_wcm ((h.2 c0).2 c1) ?_
      rintro v τ ⟨r2, I2, J2, rfl, rfl, h2⟩
      refine mm_r1' ⟨rfl, ?_⟩
      exact h2
theorem fx_36k_45 {d : Nat} {a1 : Int32} {a2 : Int32} {a3 : Int32} {a4 : Int32} {s0 : Int32} {b1 b2 : Bool} {n1 n2 : Nat} {p q : Bool} {ad : Nat → Nat} {I : mmI} {J : mmJ} {Q : mmQ} (h : ((a1 = (nI 4) → mm_w Q (mm_wc d) bk_36 67 [some (.ref 77), some (.int a1), some (.int a2), some (.int a3), some (.int a4), none] [] (((mm_fl true b1 b2), n1, n2, p, q, ad), I, J)) ∧ (¬ a1 = (nI 4) → ((¬ s0 = a2 → mm_w Q (mm_wc d) bk_36 63 [some (.ref 77), some (.int a1), some (.int a2), some (.int a3), some (.int a4), none] [.int (nI 0)] (((mm_fl true b1 b2), n1, n2, p, q, ad), I, J)) ∧ (s0 = a2 → mm_w Q (mm_wc d) bk_36 63 [some (.ref 77), some (.int a1), some (.int a2), some (.int a3), some (.int a4), none] [.int (nI 1)] (((mm_fl true b1 b2), n1, n2, p, q, ad), I, J)))))) : mm_w Q (mm_wc (d)) bk_36 45 [some (.ref 77), some (.int a1), some (.int a2), some (.int a3), some (.int a4), none] [.int s0] (((mm_fl true b1 b2), n1, n2, p, q, ad), I, J) := by
  refine mm_go [7, 45, 63, 67, 83] 80 ?_
  show (a1 = (nI 4) → _) ∧ (¬ a1 = (nI 4) → _)
  refine ⟨fun c0 => ?_, fun c0 => ?_⟩
  · exact (h.1 c0)
  · show mm_b _ _ _ _ _ [some (.ref 77), some (.int a1), some (.int a2), some (.int a3), some (.int a4), some (.int s0)] [] (((mm_fl true b1 b2), n1, n2, p, q, ad), I, J)
    show (¬ s0 = a2 → _) ∧ (s0 = a2 → _)
    refine ⟨fun c1 => ?_, fun c1 => ?_⟩
    · exact ((h.2 c0).1 c1)
    · exact ((h.2 c0).2 c1)
theorem fx_36k_67 {d : Nat} {a1 : Int32} {a2 : Int32} {a3 : Int32} {a4 : Int32} {b1 b2 : Bool} {n1 n2 : Nat} {p q : Bool} {ad : Nat → Nat} {I : mmI} {J : mmJ} {Q : mmQ} (h : (vp_in a4 320 ∧ mm_wc d 35 [.ref 77, .int a4, .int (I 7 a4.toNatClampNeg)] (((mm_fl true b1 b2), 0, 0, p, q, ad), I, J) (fun v τ => ∃ I1 J1, v = none ∧ τ = (((mm_fl true b1 b2), 0, 0, p, q, ad), I1, J1) ∧ mm_w Q (mm_wc d) bk_36 83 [some (.ref 77), some (.int a1), some (.int a2), some (.int a3), some (.int a4), none] [] (((mm_fl true b1 b2), n1, n2, p, q, ad), I1, J1)))) : mm_w Q (mm_wc (d)) bk_36 67 [some (.ref 77), some (.int a1), some (.int a2), some (.int a3), some (.int a4), none] [] (((mm_fl true b1 b2), n1, n2, p, q, ad), I, J) := by
  refine mm_go [7, 45, 63, 67, 83] 80 ?_
  show vp_in a4 320 ∧ _
  refine ⟨h.1, ?_⟩
  show mm_b _ _ _ _ _ [some (.ref 77), some (.int a1), some (.int a2), some (.int a3), some (.int a4), none] [.int (I 7 a4.toNatClampNeg), .int a4, .ref 77] (((mm_fl true b1 b2), n1, n2, p, q, ad), I, J)
  show mm_wc d 35 [.ref 77, .int a4, .int (I 7 a4.toNatClampNeg)] (((mm_fl true b1 b2), 0, 0, p, q, ad), I, J) _
  refine mm_wcm (h.2) ?_
  rintro v τ ⟨I1, J1, rfl, rfl, h1⟩
  refine mm_r0' ⟨rfl, ?_⟩
  exact h1
theorem fx_36k_63 {d : Nat} {a1 : Int32} {a2 : Int32} {a3 : Int32} {a4 : Int32} {s0 : Int32} {b1 b2 : Bool} {n1 n2 : Nat} {p q : Bool} {ad : Nat → Nat} {I : mmI} {J : mmJ} {Q : mmQ} (h : ((¬ s0 = a3 → mm_w Q (mm_wc d) bk_36 83 [some (.ref 77), some (.int a1), some (.int a2), some (.int a3), some (.int a4), none] [] (((mm_fl true b1 b2), n1, n2, p, q, ad), I, J)) ∧ (s0 = a3 → mm_w Q (mm_wc d) bk_36 67 [some (.ref 77), some (.int a1), some (.int a2), some (.int a3), some (.int a4), none] [] (((mm_fl true b1 b2), n1, n2, p, q, ad), I, J)))) : mm_w Q (mm_wc (d)) bk_36 63 [some (.ref 77), some (.int a1), some (.int a2), some (.int a3), some (.int a4), none] [.int s0] (((mm_fl true b1 b2), n1, n2, p, q, ad), I, J) := by
  refine mm_go [7, 45, 63, 67, 83] 80 ?_
  show (¬ s0 = a3 → _) ∧ (s0 = a3 → _)
  refine ⟨fun c0 => ?_, fun c0 => ?_⟩
  · exact (h.1 c0)
  · exact (h.2 c0)
theorem fx_36k_83 {d : Nat} {a1 : Int32} {a2 : Int32} {a3 : Int32} {a4 : Int32} {b1 b2 : Bool} {n1 n2 : Nat} {p q : Bool} {ad : Nat → Nat} {I : mmI} {J : mmJ} {Q : mmQ} (h : mm_w Q (mm_wc d) bk_36 7 [some (.ref 77), some (.int a1), some (.int a2), some (.int a3), some (.int (a4 + (nI 1))), none] [] (((mm_fl true b1 b2), n1, n2, p, q, ad), I, J)) : mm_w Q (mm_wc (d)) bk_36 83 [some (.ref 77), some (.int a1), some (.int a2), some (.int a3), some (.int a4), none] [] (((mm_fl true b1 b2), n1, n2, p, q, ad), I, J) := by
  refine mm_go [7, 45, 63, 67, 83] 80 ?_
  exact h
/- 43 ThreeBreaths$Odds findChoices -/
theorem fx_43k {d : Nat} {b0 b2 : Bool} {n1 n2 : Nat} {p q : Bool} {ad : Nat → Nat} {I : mmI} {J : mmJ} {Q : mmQ} (h : mm_w Q (mm_wc d) bk_43 7 [some (.ref 81), some (.int (nI 0)), none, none] [] (((mm_fl b0 true b2), n1, n2, p, q, ad), (mm_up I 81 9 (nI 0)), J)) : mm_wc (d + 1) 43 [.ref 81] (((mm_fl b0 true b2), n1, n2, p, q, ad), I, J) Q := by
  refine mm_call (c := 43) rfl rfl ?_
  refine mm_go [7, 69, 98, 134, 162] 80 ?_
  exact h
theorem fx_43k_7 {d : Nat} {a1 : Int32} {b0 b2 : Bool} {n1 n2 : Nat} {p q : Bool} {ad : Nat → Nat} {I : mmI} {J : mmJ} {Q : mmQ} (h : (((I 6 2) ≤ a1 → Q none (((mm_fl b0 true b2), n1, n2, p, q, ad), I, J)) ∧ (¬ (I 6 2) ≤ a1 → mm_wc d 10 [.ref 6, .int a1] (((mm_fl b0 true b2), 0, 0, p, q, ad), I, J) (fun v τ => ∃ r1 I1 J1, v = some (.int r1) ∧ τ = (((mm_fl b0 true b2), 0, 0, p, q, ad), I1, J1) ∧ ((¬ (I1 81 10) = (nI 0) → (vp_in ((a1 - r1) + (((r1 + (nI 16)) - (nI 1)) - ((r1 + (nI 16)) - (nI 1)) / (nI 16) * (nI 16))) 320 ∧ mm_w Q (mm_wc d) bk_43 69 [some (.ref 81), some (.int a1), some (.int r1), some (.int (a1 - r1))] [.int (I1 8 (((a1 - r1) + (((r1 + (nI 16)) - (nI 1)) - ((r1 + (nI 16)) - (nI 1)) / (nI 16) * (nI 16)))).toNatClampNeg), .int (I1 81 9), .ref 92] (((mm_fl b0 true b2), n1, n2, p, q, ad), I1, J1))) ∧ ((I1 81 10) = (nI 0) → mm_w Q (mm_wc d) bk_43 69 [some (.ref 81), some (.int a1), some (.int r1), some (.int (a1 - r1))] [.int (nI 0), .int (I1 81 9), .ref 92] (((mm_fl b0 true b2), n1, n2, p, q, ad), I1, J1))))))) : mm_w Q (mm_wc (d)) bk_43 7 [some (.ref 81), some (.int a1), none, none] [] (((mm_fl b0 true b2), n1, n2, p, q, ad), I, J) := by
  refine mm_go [7, 69, 98, 134, 162] 80 ?_
  show ((I 6 2) ≤ a1 → _) ∧ (¬ (I 6 2) ≤ a1 → _)
  refine ⟨fun c0 => ?_, fun c0 => ?_⟩
  · exact (h.1 c0)
  · show mm_b _ _ _ _ _ [some (.ref 81), some (.int a1), none, none] [] (((mm_fl b0 true b2), n1, n2, p, q, ad), I, J)
    show mm_wc d 10 [.ref 6, .int a1] (((mm_fl b0 true b2), 0, 0, p, q, ad), I, J) _
    refine mm_wcm (h.2 c0) ?_
    rintro v τ ⟨r1, I1, J1, rfl, rfl, h1⟩
    refine mm_r1' ⟨rfl, ?_⟩
    show mm_b _ _ _ _ _ [some (.ref 81), some (.int a1), none, none] [.int r1] (((mm_fl b0 true b2), n1, n2, p, q, ad), I1, J1)
    show (¬ (I1 81 10) = (nI 0) → _) ∧ ((I1 81 10) = (nI 0) → _)
    refine ⟨fun c1 => ?_, fun c1 => ?_⟩
    · show mm_u _ _ _ _ _ _ [some (.ref 81), some (.int a1), some (.int r1), some (.int (a1 - r1))] [.int (I1 81 9), .ref 92] (((mm_fl b0 true b2), n1, n2, p, q, ad), I1, J1)
      show (¬ ((nI 16) : Int32) = 0) ∧ _
      refine ⟨(by decide), ?_⟩
      show mm_b _ _ _ _ _ [some (.ref 81), some (.int a1), some (.int r1), some (.int (a1 - r1))] [.int (((r1 + (nI 16)) - (nI 1)) - ((r1 + (nI 16)) - (nI 1)) / (nI 16) * (nI 16)), .int (a1 - r1), .ref 8, .int (I1 81 9), .ref 92] (((mm_fl b0 true b2), n1, n2, p, q, ad), I1, J1)
      show vp_in ((a1 - r1) + (((r1 + (nI 16)) - (nI 1)) - ((r1 + (nI 16)) - (nI 1)) / (nI 16) * (nI 16))) 320 ∧ _
      refine ⟨(h1.1 c1).1, ?_⟩
      exact (h1.1 c1).2
    · exact (h1.2 c1)
theorem fx_43k_69 {d : Nat} {a1 : Int32} {a2 : Int32} {a3 : Int32} {s0 : Int32} {s1 : Int32} {b0 b2 : Bool} {n1 n2 : Nat} {p q : Bool} {ad : Nat → Nat} {I : mmI} {J : mmJ} {Q : mmQ} (h : (vp_in s1 320 ∧ ((¬ (I 81 11) = (nI 0) → (vp_in a1 320 ∧ mm_w Q (mm_wc d) bk_43 98 [some (.ref 81), some (.int a1), some (.int a2), some (.int a3)] [.int (I 8 a1.toNatClampNeg), .int (I 81 9), .ref 93] (((mm_fl b0 true b2), n1, n2, p, q, ad), (mm_up I 92 s1.toNatClampNeg s0), J))) ∧ ((I 81 11) = (nI 0) → mm_w Q (mm_wc d) bk_43 98 [some (.ref 81), some (.int a1), some (.int a2), some (.int a3)] [.int (nI 0), .int (I 81 9), .ref 93] (((mm_fl b0 true b2), n1, n2, p, q, ad), (mm_up I 92 s1.toNatClampNeg s0), J))))) : mm_w Q (mm_wc (d)) bk_43 69 [some (.ref 81), some (.int a1), some (.int a2), some (.int a3)] [.int s0, .int s1, .ref 92] (((mm_fl b0 true b2), n1, n2, p, q, ad), I, J) := by
  refine mm_go [7, 69, 98, 134, 162] 80 ?_
  show vp_in s1 320 ∧ _
  refine ⟨h.1, ?_⟩
  show mm_b _ _ _ _ _ [some (.ref 81), some (.int a1), some (.int a2), some (.int a3)] [] (((mm_fl b0 true b2), n1, n2, p, q, ad), (mm_up I 92 s1.toNatClampNeg s0), J)
  show (¬ (I 81 11) = (nI 0) → _) ∧ ((I 81 11) = (nI 0) → _)
  refine ⟨fun c0 => ?_, fun c0 => ?_⟩
  · show mm_u _ _ _ _ _ _ [some (.ref 81), some (.int a1), some (.int a2), some (.int a3)] [.int (I 81 9), .ref 93] (((mm_fl b0 true b2), n1, n2, p, q, ad), (mm_up I 92 s1.toNatClampNeg s0), J)
    show vp_in a1 320 ∧ _
    refine ⟨(h.2.1 c0).1, ?_⟩
    exact (h.2.1 c0).2
  · exact (h.2.2 c0)
theorem fx_43k_98 {d : Nat} {a1 : Int32} {a2 : Int32} {a3 : Int32} {s0 : Int32} {s1 : Int32} {b0 b2 : Bool} {n1 n2 : Nat} {p q : Bool} {ad : Nat → Nat} {I : mmI} {J : mmJ} {Q : mmQ} (h : (vp_in s1 320 ∧ ((¬ (I 81 12) = (nI 0) → (vp_in (a3 + ((a2 + (nI 1)) - (a2 + (nI 1)) / (nI 16) * (nI 16))) 320 ∧ mm_w Q (mm_wc d) bk_43 134 [some (.ref 81), some (.int a1), none, none] [.int (I 8 ((a3 + ((a2 + (nI 1)) - (a2 + (nI 1)) / (nI 16) * (nI 16)))).toNatClampNeg), .int (I 81 9), .ref 94] (((mm_fl b0 true b2), n1, n2, p, q, ad), (mm_up I 93 s1.toNatClampNeg s0), J))) ∧ ((I 81 12) = (nI 0) → mm_w Q (mm_wc d) bk_43 134 [some (.ref 81), some (.int a1), none, none] [.int (nI 0), .int (I 81 9), .ref 94] (((mm_fl b0 true b2), n1, n2, p, q, ad), (mm_up I 93 s1.toNatClampNeg s0), J))))) : mm_w Q (mm_wc (d)) bk_43 98 [some (.ref 81), some (.int a1), some (.int a2), some (.int a3)] [.int s0, .int s1, .ref 93] (((mm_fl b0 true b2), n1, n2, p, q, ad), I, J) := by
  refine mm_go [7, 69, 98, 134, 162] 80 ?_
  show vp_in s1 320 ∧ _
  refine ⟨h.1, ?_⟩
  show mm_b _ _ _ _ _ [some (.ref 81), some (.int a1), some (.int a2), some (.int a3)] [] (((mm_fl b0 true b2), n1, n2, p, q, ad), (mm_up I 93 s1.toNatClampNeg s0), J)
  show (¬ (I 81 12) = (nI 0) → _) ∧ ((I 81 12) = (nI 0) → _)
  refine ⟨fun c0 => ?_, fun c0 => ?_⟩
  · show mm_u _ _ _ _ _ _ [some (.ref 81), some (.int a1), some (.int a2), some (.int a3)] [.int (I 81 9), .ref 94] (((mm_fl b0 true b2), n1, n2, p, q, ad), (mm_up I 93 s1.toNatClampNeg s0), J)
    show (¬ ((nI 16) : Int32) = 0) ∧ _
    refine ⟨(by decide), ?_⟩
    show mm_b _ _ _ _ _ [some (.ref 81), some (.int a1), some (.int a2), some (.int a3)] [.int ((a2 + (nI 1)) - (a2 + (nI 1)) / (nI 16) * (nI 16)), .int a3, .ref 8, .int (I 81 9), .ref 94] (((mm_fl b0 true b2), n1, n2, p, q, ad), (mm_up I 93 s1.toNatClampNeg s0), J)
    show vp_in (a3 + ((a2 + (nI 1)) - (a2 + (nI 1)) / (nI 16) * (nI 16))) 320 ∧ _
    refine ⟨(h.2.1 c0).1, ?_⟩
    exact (h.2.1 c0).2
  · exact (h.2.2 c0)
theorem fx_43k_134 {d : Nat} {a1 : Int32} {s0 : Int32} {s1 : Int32} {b0 b2 : Bool} {n1 n2 : Nat} {p q : Bool} {ad : Nat → Nat} {I : mmI} {J : mmJ} {Q : mmQ} (h : (vp_in s1 320 ∧ mm_wc d 44 [.ref 81] (((mm_fl b0 true b2), 0, 0, p, q, ad), (mm_up I 94 s1.toNatClampNeg s0), J) (fun v τ => ∃ r1 I1 J1, v = some (.int r1) ∧ τ = (((mm_fl b0 true b2), 0, 0, p, q, ad), I1, J1) ∧ ((r1 = (nI 0) → mm_w Q (mm_wc d) bk_43 162 [some (.ref 81), some (.int a1), none, none] [] (((mm_fl b0 true b2), n1, n2, p, q, ad), I1, J1)) ∧ (¬ r1 = (nI 0) → (vp_in (I1 81 9) 320 ∧ mm_w Q (mm_wc d) bk_43 162 [some (.ref 81), some (.int a1), none, none] [] (((mm_fl b0 true b2), n1, n2, p, q, ad), (mm_up (mm_up I1 95 ((I1 81 9)).toNatClampNeg a1) 81 9 ((I1 81 9) + (nI 1))), J1))))))) : mm_w Q (mm_wc (d)) bk_43 134 [some (.ref 81), some (.int a1), none, none] [.int s0, .int s1, .ref 94] (((mm_fl b0 true b2), n1, n2, p, q, ad), I, J) := by
  refine mm_go [7, 69, 98, 134, 162] 80 ?_
  show vp_in s1 320 ∧ _
  refine ⟨h.1, ?_⟩
  show mm_b _ _ _ _ _ [some (.ref 81), some (.int a1), none, none] [] (((mm_fl b0 true b2), n1, n2, p, q, ad), (mm_up I 94 s1.toNatClampNeg s0), J)
  show mm_wc d 44 [.ref 81] (((mm_fl b0 true b2), 0, 0, p, q, ad), (mm_up I 94 s1.toNatClampNeg s0), J) _
  refine mm_wcm (h.2) ?_
  rintro v τ ⟨r1, I1, J1, rfl, rfl, h1⟩
  refine mm_r1' ⟨rfl, ?_⟩
  show mm_b _ _ _ _ _ [some (.ref 81), some (.int a1), none, none] [.int r1] (((mm_fl b0 true b2), n1, n2, p, q, ad), I1, J1)
  show (r1 = (nI 0) → _) ∧ (¬ r1 = (nI 0) → _)
  refine ⟨fun c0 => ?_, fun c0 => ?_⟩
  · exact (h1.1 c0)
  · show mm_b _ _ _ _ _ [some (.ref 81), some (.int a1), none, none] [] (((mm_fl b0 true b2), n1, n2, p, q, ad), I1, J1)
    show vp_in (I1 81 9) 320 ∧ _
    refine ⟨(h1.2 c0).1, ?_⟩
    exact (h1.2 c0).2
theorem fx_43k_162 {d : Nat} {a1 : Int32} {b0 b2 : Bool} {n1 n2 : Nat} {p q : Bool} {ad : Nat → Nat} {I : mmI} {J : mmJ} {Q : mmQ} (h : mm_w Q (mm_wc d) bk_43 7 [some (.ref 81), some (.int (a1 + (nI 1))), none, none] [] (((mm_fl b0 true b2), n1, n2, p, q, ad), I, J)) : mm_w Q (mm_wc (d)) bk_43 162 [some (.ref 81), some (.int a1), none, none] [] (((mm_fl b0 true b2), n1, n2, p, q, ad), I, J) := by
  refine mm_go [7, 69, 98, 134, 162] 80 ?_
  exact h
/- 250 ThreeBreathsModel walk -/
theorem fx_250k {d : Nat} {x0 : Int32} {x1 : Int32} {fl : Nat → Bool} {n1 n2 : Nat} {p q : Bool} {ad : Nat → Nat} {I : mmI} {J : mmJ} {Q : mmQ} (h : mm_wc d 166 [.ref 46] ((fl, 0, 0, p, q, ad), I, J) (fun v τ => ∃ I1 J1, v = none ∧ τ = ((fl, 0, 0, p, q, ad), I1, J1) ∧ mm_wc d 203 [.ref 46, .int x0] ((fl, 0, 0, p, q, ad), I1, J1) (fun v τ => ∃ r2 I2 J2, v = some (.int r2) ∧ τ = ((fl, 0, 0, p, q, ad), I2, J2) ∧ ((r2 = (nI 0) → mm_w Q (mm_wc d) bk_250 20 [some (.ref 46), none, none, none, none, none, none, none, none, none, none, none, none] [] ((fl, n1, n2, p, q, ad), I2, J2)) ∧ (¬ r2 = (nI 0) → mm_wc d 202 [.ref 46, .int x1] ((fl, 0, 0, p, q, ad), I2, J2) (fun v τ => ∃ r3 I3 J3, v = some (.int r3) ∧ τ = ((fl, 0, 0, p, q, ad), I3, J3) ∧ ((¬ r3 = (nI 0) → mm_wc d 234 [.ref 46, .int x0, .int (-1), .int (-1), .int (-1), .int (nI 1)] ((fl, 0, 0, p, q, ad), I3, J3) (fun v τ => ∃ I4 J4, v = none ∧ τ = ((fl, 0, 0, p, q, ad), I4, J4) ∧ mm_wc d 240 [.ref 46] ((fl, 0, 0, p, q, ad), I4, J4) (fun v τ => ∃ r5 I5 J5, v = some (.int r5) ∧ τ = ((fl, 0, 0, p, q, ad), I5, J5) ∧ ((r5 = (-2) → mm_w Q (mm_wc d) bk_250 50 [none, none, none, some (.int r5), none, none, none, none, none, none, none, none, none] [] ((fl, n1, n2, p, q, ad), I5, J5)) ∧ (¬ r5 = (-2) → ((¬ r5 = (nI 0) → mm_w Q (mm_wc d) bk_250 55 [some (.ref 46), none, some (.int x1), some (.int r5), some (.int (nI 0)), none, none, none, none, none, none, none, none] [] ((fl, n1, n2, p, q, ad), I5, J5)) ∧ (r5 = (nI 0) → mm_w Q (mm_wc d) bk_250 50 [none, none, none, some (.int r5), none, none, none, none, none, none, none, none, none] [] ((fl, n1, n2, p, q, ad), I5, J5)))))))) ∧ (r3 = (nI 0) → mm_w Q (mm_wc d) bk_250 20 [some (.ref 46), none, none, none, none, none, none, none, none, none, none, none, none] [] ((fl, n1, n2, p, q, ad), I3, J3))))))))) : mm_wc (d + 1) 250 [.ref 46, .int x0, .int x1] ((fl, n1, n2, p, q, ad), I, J) Q := by
  refine mm_call (c := 250) rfl rfl ?_
  refine mm_go [20, 50, 55, 96, 117, 181, 188, 193, 196, 312, 321, 327] 80 ?_
  show mm_wc d 166 [.ref 46] ((fl, 0, 0, p, q, ad), I, J) _
  refine mm_wcm h ?_
  rintro v τ ⟨I1, J1, rfl, rfl, h1⟩
  refine mm_r0' ⟨rfl, ?_⟩
  show mm_b _ _ _ _ _ [some (.ref 46), some (.int x0), some (.int x1), none, none, none, none, none, none, none, none, none, none] [] ((fl, n1, n2, p, q, ad), I1, J1)
  show mm_wc d 203 [.ref 46, .int x0] ((fl, 0, 0, p, q, ad), I1, J1) _
  refine mm_wcm h1 ?_
  rintro v τ ⟨r2, I2, J2, rfl, rfl, h2⟩
  refine mm_r1' ⟨rfl, ?_⟩
  show mm_b _ _ _ _ _ [some (.ref 46), some (.int x0), some (.int x1), none, none, none, none, none, none, none, none, none, none] [.int r2] ((fl, n1, n2, p, q, ad), I2, J2)
  show (r2 = (nI 0) → _) ∧ (¬ r2 = (nI 0) → _)
  refine ⟨fun c0 => ?_, fun c0 => ?_⟩
  · exact (h2.1 c0)
  · show mm_b _ _ _ _ _ [some (.ref 46), some (.int x0), some (.int x1), none, none, none, none, none, none, none, none, none, none] [] ((fl, n1, n2, p, q, ad), I2, J2)
    show mm_wc d 202 [.ref 46, .int x1] ((fl, 0, 0, p, q, ad), I2, J2) _
    refine mm_wcm (h2.2 c0) ?_
    rintro v τ ⟨r3, I3, J3, rfl, rfl, h3⟩
    refine mm_r1' ⟨rfl, ?_⟩
    show mm_b _ _ _ _ _ [some (.ref 46), some (.int x0), some (.int x1), none, none, none, none, none, none, none, none, none, none] [.int r3] ((fl, n1, n2, p, q, ad), I3, J3)
    show (¬ r3 = (nI 0) → _) ∧ (r3 = (nI 0) → _)
    refine ⟨fun c1 => ?_, fun c1 => ?_⟩
    · show mm_u _ _ _ _ _ _ [some (.ref 46), some (.int x0), some (.int x1), none, none, none, none, none, none, none, none, none, none] [] ((fl, n1, n2, p, q, ad), I3, J3)
      show mm_wc d 234 [.ref 46, .int x0, .int (-1), .int (-1), .int (-1), .int (nI 1)] ((fl, 0, 0, p, q, ad), I3, J3) _
      refine mm_wcm (h3.1 c1) ?_
      rintro v τ ⟨I4, J4, rfl, rfl, h4⟩
      refine mm_r0' ⟨rfl, ?_⟩
      show mm_b _ _ _ _ _ [some (.ref 46), some (.int x0), some (.int x1), none, none, none, none, none, none, none, none, none, none] [] ((fl, n1, n2, p, q, ad), I4, J4)
      show mm_wc d 240 [.ref 46] ((fl, 0, 0, p, q, ad), I4, J4) _
      refine mm_wcm h4 ?_
      rintro v τ ⟨r5, I5, J5, rfl, rfl, h5⟩
      refine mm_r1' ⟨rfl, ?_⟩
      show mm_b _ _ _ _ _ [some (.ref 46), some (.int x0), some (.int x1), none, none, none, none, none, none, none, none, none, none] [.int r5] ((fl, n1, n2, p, q, ad), I5, J5)
      show (r5 = (-2) → _) ∧ (¬ r5 = (-2) → _)
      refine ⟨fun c2 => ?_, fun c2 => ?_⟩
      · exact (h5.1 c2)
      · show mm_b _ _ _ _ _ [some (.ref 46), some (.int x0), some (.int x1), some (.int r5), none, none, none, none, none, none, none, none, none] [] ((fl, n1, n2, p, q, ad), I5, J5)
        show (¬ r5 = (nI 0) → _) ∧ (r5 = (nI 0) → _)
        refine ⟨fun c3 => ?_, fun c3 => ?_⟩
        · exact ((h5.2 c2).1 c3)
        · exact ((h5.2 c2).2 c3)
    · exact (h3.2 c1)
theorem fx_250k_20 {d : Nat} {fl : Nat → Bool} {n1 n2 : Nat} {p q : Bool} {ad : Nat → Nat} {I : mmI} {J : mmJ} {Q : mmQ} (h : mm_wc d 167 [.ref 46, .int (nI 1)] ((fl, 0, 0, p, q, ad), I, J) (fun v τ => ∃ r1 I1 J1, v = some (.int r1) ∧ τ = ((fl, 0, 0, p, q, ad), I1, J1) ∧ Q (some (.int r1)) ((fl, n1, n2, p, q, ad), I1, J1))) : mm_w Q (mm_wc (d)) bk_250 20 [some (.ref 46), none, none, none, none, none, none, none, none, none, none, none, none] [] ((fl, n1, n2, p, q, ad), I, J) := by
  refine mm_go [20, 50, 55, 96, 117, 181, 188, 193, 196, 312, 321, 327] 80 ?_
  show mm_wc d 167 [.ref 46, .int (nI 1)] ((fl, 0, 0, p, q, ad), I, J) _
  refine mm_wcm h ?_
  rintro v τ ⟨r1, I1, J1, rfl, rfl, h1⟩
  refine mm_r1' ⟨rfl, ?_⟩
  exact h1
theorem fx_250k_50 {d : Nat} {a3 : Int32} {fl : Nat → Bool} {n1 n2 : Nat} {p q : Bool} {ad : Nat → Nat} {I : mmI} {J : mmJ} {Q : mmQ} (h : Q (some (.int a3)) ((fl, n1, n2, p, q, ad), I, J)) : mm_w Q (mm_wc (d)) bk_250 50 [none, none, none, some (.int a3), none, none, none, none, none, none, none, none, none] [] ((fl, n1, n2, p, q, ad), I, J) := by
  refine mm_go [20, 50, 55, 96, 117, 181, 188, 193, 196, 312, 321, 327] 80 ?_
  exact h
theorem fx_250k_55 {d : Nat} {a2 : Int32} {a3 : Int32} {a4 : Int32} {fl : Nat → Bool} {n1 n2 : Nat} {p q : Bool} {ad : Nat → Nat} {I : mmI} {J : mmJ} {Q : mmQ} (h : (((nI 81920) ≤ a4 → (vp_in (((nI 5) * (I 46 34)) + a2) 81920 ∧ mm_w Q (mm_wc d) bk_250 96 [some (.ref 46), none, none, some (.int a3), some (.int (-1)), some (.int (nI 0)), none, none, none, none, none, none, none] [] ((fl, n1, n2, p, q, ad), (mm_up I 61 ((((nI 5) * (I 46 34)) + a2)).toNatClampNeg (nI 0)), J))) ∧ (¬ (nI 81920) ≤ a4 → (vp_in a4 81920 ∧ mm_w Q (mm_wc d) bk_250 55 [some (.ref 46), none, some (.int a2), some (.int a3), some (.int (a4 + (nI 1))), none, none, none, none, none, none, none, none] [] ((fl, n1, n2, p, q, ad), (mm_up I 61 a4.toNatClampNeg (-1)), J))))) : mm_w Q (mm_wc (d)) bk_250 55 [some (.ref 46), none, some (.int a2), some (.int a3), some (.int a4), none, none, none, none, none, none, none, none] [] ((fl, n1, n2, p, q, ad), I, J) := by
  refine mm_go [20, 50, 55, 96, 117, 181, 188, 193, 196, 312, 321, 327] 80 ?_
  show ((nI 81920) ≤ a4 → _) ∧ (¬ (nI 81920) ≤ a4 → _)
  refine ⟨fun c0 => ?_, fun c0 => ?_⟩
  · show mm_u _ _ _ _ _ _ [some (.ref 46), none, some (.int a2), some (.int a3), some (.int a4), none, none, none, none, none, none, none, none] [] ((fl, n1, n2, p, q, ad), I, J)
    show vp_in (((nI 5) * (I 46 34)) + a2) 81920 ∧ _
    refine ⟨(h.1 c0).1, ?_⟩
    exact (h.1 c0).2
  · show mm_b _ _ _ _ _ [some (.ref 46), none, some (.int a2), some (.int a3), some (.int a4), none, none, none, none, none, none, none, none] [] ((fl, n1, n2, p, q, ad), I, J)
    show vp_in a4 81920 ∧ _
    refine ⟨(h.2 c0).1, ?_⟩
    exact (h.2 c0).2
theorem fx_250k_96 {d : Nat} {a3 : Int32} {a4 : Int32} {a5 : Int32} {fl : Nat → Bool} {n1 n2 : Nat} {p q : Bool} {ad : Nat → Nat} {I : mmI} {J : mmJ} {Q : mmQ} (h : (((I 46 33) ≤ a5 → Q (some (.int a4)) ((fl, n1, n2, p, q, ad), I, J)) ∧ (¬ (I 46 33) ≤ a5 → (vp_in a5 16384 ∧ mm_w Q (mm_wc d) bk_250 117 [some (.ref 46), none, none, some (.int a3), some (.int a4), some (.int a5), some (.int (I 59 a5.toNatClampNeg)), some (.int (nI 0)), none, none, none, none, none] [] ((fl, n1, n2, p, q, ad), I, J))))) : mm_w Q (mm_wc (d)) bk_250 96 [some (.ref 46), none, none, some (.int a3), some (.int a4), some (.int a5), none, none, none, none, none, none, none] [] ((fl, n1, n2, p, q, ad), I, J) := by
  refine mm_go [20, 50, 55, 96, 117, 181, 188, 193, 196, 312, 321, 327] 80 ?_
  show ((I 46 33) ≤ a5 → _) ∧ (¬ (I 46 33) ≤ a5 → _)
  refine ⟨fun c0 => ?_, fun c0 => ?_⟩
  · exact (h.1 c0)
  · show mm_b _ _ _ _ _ [some (.ref 46), none, none, some (.int a3), some (.int a4), some (.int a5), none, none, none, none, none, none, none] [] ((fl, n1, n2, p, q, ad), I, J)
    show vp_in a5 16384 ∧ _
    refine ⟨(h.2 c0).1, ?_⟩
    exact (h.2 c0).2
theorem fx_250k_117 {d : Nat} {a3 : Int32} {a4 : Int32} {a5 : Int32} {a6 : Int32} {a7 : Int32} {fl : Nat → Bool} {n1 n2 : Nat} {p q : Bool} {ad : Nat → Nat} {I : mmI} {J : mmJ} {Q : mmQ} (h : (((I 49 4) ≤ a7 → mm_w Q (mm_wc d) bk_250 96 [some (.ref 46), none, none, some (.int a3), some (.int a4), some (.int (a5 + (nI 1))), none, none, none, none, none, none, none] [] ((fl, n1, n2, p, q, ad), I, J)) ∧ (¬ (I 49 4) ≤ a7 → (vp_in (((nI 5) * a6) + a7) 81920 ∧ (((nI 0) ≤ (I 61 ((((nI 5) * a6) + a7)).toNatClampNeg) → mm_wc d 237 [.int a6] ((fl, 0, 0, p, q, ad), I, J) (fun v τ => ∃ r1 I1 J1, v = some (.int r1) ∧ τ = ((fl, 0, 0, p, q, ad), I1, J1) ∧ ((¬ r1 = (nI 0) → mm_w Q (mm_wc d) bk_250 193 [some (.ref 46), none, none, some (.int a3), some (.int a4), some (.int a5), some (.int a6), some (.int a7), some (.int (I 61 ((((nI 5) * a6) + a7)).toNatClampNeg)), none, none, none, none] [] ((fl, n1, n2, p, q, ad), I1, J1)) ∧ (r1 = (nI 0) → (vp_in a6 16384 ∧ ((¬ (I1 58 a6.toNatClampNeg) = a3 → mm_w Q (mm_wc d) bk_250 193 [some (.ref 46), none, none, some (.int a3), some (.int a4), some (.int a5), some (.int a6), some (.int a7), some (.int (I 61 ((((nI 5) * a6) + a7)).toNatClampNeg)), none, none, none, none] [] ((fl, n1, n2, p, q, ad), I1, J1)) ∧ ((I1 58 a6.toNatClampNeg) = a3 → ((a4 < (nI 0) → mm_w Q (mm_wc d) bk_250 181 [some (.ref 46), none, none, some (.int a3), none, some (.int a5), some (.int a6), some (.int a7), some (.int (I 61 ((((nI 5) * a6) + a7)).toNatClampNeg)), none, none, none, none] [] ((fl, n1, n2, p, q, ad), I1, J1)) ∧ (¬ a4 < (nI 0) → ((a4 ≤ (I 61 ((((nI 5) * a6) + a7)).toNatClampNeg) → mm_w Q (mm_wc d) bk_250 188 [some (.ref 46), none, none, some (.int a3), none, some (.int a5), some (.int a6), some (.int a7), none, none, none, none, none] [.int a4] ((fl, n1, n2, p, q, ad), I1, J1)) ∧ (¬ a4 ≤ (I 61 ((((nI 5) * a6) + a7)).toNatClampNeg) → mm_w Q (mm_wc d) bk_250 181 [some (.ref 46), none, none, some (.int a3), none, some (.int a5), some (.int a6), some (.int a7), some (.int (I 61 ((((nI 5) * a6) + a7)).toNatClampNeg)), none, none, none, none] [] ((fl, n1, n2, p, q, ad), I1, J1)))))))))))) ∧ (¬ (nI 0) ≤ (I 61 ((((nI 5) * a6) + a7)).toNatClampNeg) → mm_w Q (mm_wc d) bk_250 327 [some (.ref 46), none, none, some (.int a3), some (.int a4), some (.int a5), some (.int a6), some (.int a7), none, none, none, none, none] [] ((fl, n1, n2, p, q, ad), I, J))))))) : mm_w Q (mm_wc (d)) bk_250 117 [some (.ref 46), none, none, some (.int a3), some (.int a4), some (.int a5), some (.int a6), some (.int a7), none, none, none, none, none] [] ((fl, n1, n2, p, q, ad), I, J) := by
  refine mm_go [20, 50, 55, 96, 117, 181, 188, 193, 196, 312, 321, 327] 80 ?_
  show (vp_in (nI 4) 279) ∧ _
  refine ⟨(mm_inl (by decide)), ?_⟩
  show mm_b _ _ _ _ _ [some (.ref 46), none, none, some (.int a3), some (.int a4), some (.int a5), some (.int a6), some (.int a7), none, none, none, none, none] [.int (I 49 4), .int a7] ((fl, n1, n2, p, q, ad), I, J)
  show ((I 49 4) ≤ a7 → _) ∧ (¬ (I 49 4) ≤ a7 → _)
  refine ⟨fun c0 => ?_, fun c0 => ?_⟩
  · exact (h.1 c0)
  · show mm_b _ _ _ _ _ [some (.ref 46), none, none, some (.int a3), some (.int a4), some (.int a5), some (.int a6), some (.int a7), none, none, none, none, none] [] ((fl, n1, n2, p, q, ad), I, J)
    show vp_in (((nI 5) * a6) + a7) 81920 ∧ _
    refine ⟨(h.2 c0).1, ?_⟩
    show mm_b _ _ _ _ _ [some (.ref 46), none, none, some (.int a3), some (.int a4), some (.int a5), some (.int a6), some (.int a7), none, none, none, none, none] [.int (I 61 ((((nI 5) * a6) + a7)).toNatClampNeg)] ((fl, n1, n2, p, q, ad), I, J)
    show ((nI 0) ≤ (I 61 ((((nI 5) * a6) + a7)).toNatClampNeg) → _) ∧ (¬ (nI 0) ≤ (I 61 ((((nI 5) * a6) + a7)).toNatClampNeg) → _)
    refine ⟨fun c1 => ?_, fun c1 => ?_⟩
    · show mm_u _ _ _ _ _ _ [some (.ref 46), none, none, some (.int a3), some (.int a4), some (.int a5), some (.int a6), some (.int a7), some (.int (I 61 ((((nI 5) * a6) + a7)).toNatClampNeg)), none, none, none, none] [] ((fl, n1, n2, p, q, ad), I, J)
      show mm_wc d 237 [.int a6] ((fl, 0, 0, p, q, ad), I, J) _
      refine mm_wcm ((h.2 c0).2.1 c1) ?_
      rintro v τ ⟨r1, I1, J1, rfl, rfl, h1⟩
      refine mm_r1' ⟨rfl, ?_⟩
      show mm_b _ _ _ _ _ [some (.ref 46), none, none, some (.int a3), some (.int a4), some (.int a5), some (.int a6), some (.int a7), some (.int (I 61 ((((nI 5) * a6) + a7)).toNatClampNeg)), none, none, none, none] [.int r1] ((fl, n1, n2, p, q, ad), I1, J1)
      show (¬ r1 = (nI 0) → _) ∧ (r1 = (nI 0) → _)
      refine ⟨fun c2 => ?_, fun c2 => ?_⟩
      · exact (h1.1 c2)
      · show mm_b _ _ _ _ _ [some (.ref 46), none, none, some (.int a3), some (.int a4), some (.int a5), some (.int a6), some (.int a7), some (.int (I 61 ((((nI 5) * a6) + a7)).toNatClampNeg)), none, none, none, none] [] ((fl, n1, n2, p, q, ad), I1, J1)
        show vp_in a6 16384 ∧ _
        refine ⟨(h1.2 c2).1, ?_⟩
        show mm_b _ _ _ _ _ [some (.ref 46), none, none, some (.int a3), some (.int a4), some (.int a5), some (.int a6), some (.int a7), some (.int (I 61 ((((nI 5) * a6) + a7)).toNatClampNeg)), none, none, none, none] [.int (I1 58 a6.toNatClampNeg)] ((fl, n1, n2, p, q, ad), I1, J1)
        show (¬ (I1 58 a6.toNatClampNeg) = a3 → _) ∧ ((I1 58 a6.toNatClampNeg) = a3 → _)
        refine ⟨fun c3 => ?_, fun c3 => ?_⟩
        · exact ((h1.2 c2).2.1 c3)
        · show mm_b _ _ _ _ _ [some (.ref 46), none, none, some (.int a3), some (.int a4), some (.int a5), some (.int a6), some (.int a7), some (.int (I 61 ((((nI 5) * a6) + a7)).toNatClampNeg)), none, none, none, none] [] ((fl, n1, n2, p, q, ad), I1, J1)
          show (a4 < (nI 0) → _) ∧ (¬ a4 < (nI 0) → _)
          refine ⟨fun c4 => ?_, fun c4 => ?_⟩
          · exact (((h1.2 c2).2.2 c3).1 c4)
          · show mm_b _ _ _ _ _ [some (.ref 46), none, none, some (.int a3), some (.int a4), some (.int a5), some (.int a6), some (.int a7), some (.int (I 61 ((((nI 5) * a6) + a7)).toNatClampNeg)), none, none, none, none] [] ((fl, n1, n2, p, q, ad), I1, J1)
            show (a4 ≤ (I 61 ((((nI 5) * a6) + a7)).toNatClampNeg) → _) ∧ (¬ a4 ≤ (I 61 ((((nI 5) * a6) + a7)).toNatClampNeg) → _)
            refine ⟨fun c5 => ?_, fun c5 => ?_⟩
            · exact ((((h1.2 c2).2.2 c3).2 c4).1 c5)
            · exact ((((h1.2 c2).2.2 c3).2 c4).2 c5)
    · exact ((h.2 c0).2.2 c1)
theorem fx_250k_193 {d : Nat} {a3 : Int32} {a4 : Int32} {a5 : Int32} {a6 : Int32} {a7 : Int32} {a8 : Int32} {fl : Nat → Bool} {n1 n2 : Nat} {p q : Bool} {ad : Nat → Nat} {I : mmI} {J : mmJ} {Q : mmQ} (h : mm_w Q (mm_wc d) bk_250 196 [some (.ref 46), none, none, some (.int a3), some (.int a4), some (.int a5), some (.int a6), some (.int a7), some (.int a8), some (.int (nI 0)), none, none, none] [] ((fl, n1, n2, p, q, ad), I, J)) : mm_w Q (mm_wc (d)) bk_250 193 [some (.ref 46), none, none, some (.int a3), some (.int a4), some (.int a5), some (.int a6), some (.int a7), some (.int a8), none, none, none, none] [] ((fl, n1, n2, p, q, ad), I, J) := by
  refine mm_go [20, 50, 55, 96, 117, 181, 188, 193, 196, 312, 321, 327] 80 ?_
  exact h
theorem fx_250k_181 {d : Nat} {a3 : Int32} {a5 : Int32} {a6 : Int32} {a7 : Int32} {a8 : Int32} {fl : Nat → Bool} {n1 n2 : Nat} {p q : Bool} {ad : Nat → Nat} {I : mmI} {J : mmJ} {Q : mmQ} (h : mm_w Q (mm_wc d) bk_250 188 [some (.ref 46), none, none, some (.int a3), none, some (.int a5), some (.int a6), some (.int a7), none, none, none, none, none] [.int a8] ((fl, n1, n2, p, q, ad), I, J)) : mm_w Q (mm_wc (d)) bk_250 181 [some (.ref 46), none, none, some (.int a3), none, some (.int a5), some (.int a6), some (.int a7), some (.int a8), none, none, none, none] [] ((fl, n1, n2, p, q, ad), I, J) := by
  refine mm_go [20, 50, 55, 96, 117, 181, 188, 193, 196, 312, 321, 327] 80 ?_
  exact h
theorem fx_250k_188 {d : Nat} {a3 : Int32} {a5 : Int32} {a6 : Int32} {a7 : Int32} {s0 : Int32} {fl : Nat → Bool} {n1 n2 : Nat} {p q : Bool} {ad : Nat → Nat} {I : mmI} {J : mmJ} {Q : mmQ} (h : mm_w Q (mm_wc d) bk_250 327 [some (.ref 46), none, none, some (.int a3), some (.int s0), some (.int a5), some (.int a6), some (.int a7), none, none, none, none, none] [] ((fl, n1, n2, p, q, ad), I, J)) : mm_w Q (mm_wc (d)) bk_250 188 [some (.ref 46), none, none, some (.int a3), none, some (.int a5), some (.int a6), some (.int a7), none, none, none, none, none] [.int s0] ((fl, n1, n2, p, q, ad), I, J) := by
  refine mm_go [20, 50, 55, 96, 117, 181, 188, 193, 196, 312, 321, 327] 80 ?_
  exact h
theorem fx_250k_327 {d : Nat} {a3 : Int32} {a4 : Int32} {a5 : Int32} {a6 : Int32} {a7 : Int32} {fl : Nat → Bool} {n1 n2 : Nat} {p q : Bool} {ad : Nat → Nat} {I : mmI} {J : mmJ} {Q : mmQ} (h : mm_w Q (mm_wc d) bk_250 117 [some (.ref 46), none, none, some (.int a3), some (.int a4), some (.int a5), some (.int a6), some (.int (a7 + (nI 1))), none, none, none, none, none] [] ((fl, n1, n2, p, q, ad), I, J)) : mm_w Q (mm_wc (d)) bk_250 327 [some (.ref 46), none, none, some (.int a3), some (.int a4), some (.int a5), some (.int a6), some (.int a7), none, none, none, none, none] [] ((fl, n1, n2, p, q, ad), I, J) := by
  refine mm_go [20, 50, 55, 96, 117, 181, 188, 193, 196, 312, 321, 327] 80 ?_
  exact h
theorem fx_250k_196 {d : Nat} {a3 : Int32} {a4 : Int32} {a5 : Int32} {a6 : Int32} {a7 : Int32} {a8 : Int32} {a9 : Int32} {fl : Nat → Bool} {n1 n2 : Nat} {p q : Bool} {ad : Nat → Nat} {I : mmI} {J : mmJ} {Q : mmQ} (h : (((I 46 32) ≤ a9 → mm_w Q (mm_wc d) bk_250 327 [some (.ref 46), none, none, some (.int a3), some (.int a4), some (.int a5), some (.int a6), some (.int a7), none, none, none, none, none] [] ((fl, n1, n2, p, q, ad), I, J)) ∧ (¬ (I 46 32) ≤ a9 → (vp_in a6 16384 ∧ ((a3 ≤ (I 58 a6.toNatClampNeg) → mm_w Q (mm_wc d) bk_250 327 [some (.ref 46), none, none, some (.int a3), some (.int a4), some (.int a5), some (.int a6), some (.int a7), none, none, none, none, none] [] ((fl, n1, n2, p, q, ad), I, J)) ∧ (¬ a3 ≤ (I 58 a6.toNatClampNeg) → (vp_in a9 320 ∧ mm_wc d 238 [.ref 46, .int a6, .int (I 57 a9.toNatClampNeg)] ((fl, 0, 0, p, q, ad), I, J) (fun v τ => ∃ r1 I1 J1, v = some (.int r1) ∧ τ = ((fl, 0, 0, p, q, ad), I1, J1) ∧ (vp_in a9 320 ∧ mm_wc d 208 [.ref 46, .int (I1 57 a9.toNatClampNeg)] ((fl, 0, 0, p, q, ad), I1, J1) (fun v τ => ∃ r2 I2 J2, v = some (.int r2) ∧ τ = ((fl, 0, 0, p, q, ad), I2, J2) ∧ (vp_in a9 320 ∧ mm_wc d 208 [.ref 46, .int (I2 57 a9.toNatClampNeg)] ((fl, 0, 0, p, q, ad), I2, J2) (fun v τ => ∃ r3 I3 J3, v = some (.int r3) ∧ τ = ((fl, 0, 0, p, q, ad), I3, J3) ∧ mm_wc d 249 [.ref 46, .int a7, .int r3] ((fl, 0, 0, p, q, ad), I3, J3) (fun v τ => ∃ r4 I4 J4, v = some (.int r4) ∧ τ = ((fl, 0, 0, p, q, ad), I4, J4) ∧ (vp_in r1 16384 ∧ (vp_in a6 16384 ∧ ((¬ (I4 58 r1.toNatClampNeg) = ((I4 58 a6.toNatClampNeg) + (nI 1)) → mm_w Q (mm_wc d) bk_250 321 [some (.ref 46), none, none, some (.int a3), some (.int a4), some (.int a5), some (.int a6), some (.int a7), some (.int a8), some (.int a9), none, none, none] [] ((fl, n1, n2, p, q, ad), I4, J4)) ∧ ((I4 58 r1.toNatClampNeg) = ((I4 58 a6.toNatClampNeg) + (nI 1)) → (vp_in (((nI 5) * r1) + r2) 81920 ∧ (((I4 61 ((((nI 5) * r1) + r2)).toNatClampNeg) < (nI 0) → mm_w Q (mm_wc d) bk_250 312 [some (.ref 46), none, none, some (.int a3), some (.int a4), some (.int a5), some (.int a6), some (.int a7), some (.int a8), some (.int a9), none, some (.int (((nI 5) * r1) + r2)), some (.int (a8 + r4))] [] ((fl, n1, n2, p, q, ad), I4, J4)) ∧ (¬ (I4 61 ((((nI 5) * r1) + r2)).toNatClampNeg) < (nI 0) → (vp_in (((nI 5) * r1) + r2) 81920 ∧ (((I4 61 ((((nI 5) * r1) + r2)).toNatClampNeg) ≤ (a8 + r4) → mm_w Q (mm_wc d) bk_250 321 [some (.ref 46), none, none, some (.int a3), some (.int a4), some (.int a5), some (.int a6), some (.int a7), some (.int a8), some (.int a9), none, none, none] [] ((fl, n1, n2, p, q, ad), I4, J4)) ∧ (¬ (I4 61 ((((nI 5) * r1) + r2)).toNatClampNeg) ≤ (a8 + r4) → mm_w Q (mm_wc d) bk_250 312 [some (.ref 46), none, none, some (.int a3), some (.int a4), some (.int a5), some (.int a6), some (.int a7), some (.int a8), some (.int a9), none, some (.int (((nI 5) * r1) + r2)), some (.int (a8 + r4))] [] ((fl, n1, n2, p, q, ad), I4, J4)))))))))))))))))))))))) : mm_w Q (mm_wc (d)) bk_250 196 [some (.ref 46), none, none, some (.int a3), some (.int a4), some (.int a5), some (.int a6), some (.int a7), some (.int a8), some (.int a9), none, none, none] [] ((fl, n1, n2, p, q, ad), I, J) := by
  refine mm_go [20, 50, 55, 96, 117, 181, 188, 193, 196, 312, 321, 327] 80 ?_
  show ((I 46 32) ≤ a9 → _) ∧ (¬ (I 46 32) ≤ a9 → _)
  refine ⟨fun c0 => ?_, fun c0 => ?_⟩
  · exact (h.1 c0)
  · show mm_b _ _ _ _ _ [some (.ref 46), none, none, some (.int a3), some (.int a4), some (.int a5), some (.int a6), some (.int a7), some (.int a8), some (.int a9), none, none, none] [] ((fl, n1, n2, p, q, ad), I, J)
    show vp_in a6 16384 ∧ _
    refine ⟨(h.2 c0).1, ?_⟩
    show mm_b _ _ _ _ _ [some (.ref 46), none, none, some (.int a3), some (.int a4), some (.int a5), some (.int a6), some (.int a7), some (.int a8), some (.int a9), none, none, none] [.int (I 58 a6.toNatClampNeg)] ((fl, n1, n2, p, q, ad), I, J)
    show (a3 ≤ (I 58 a6.toNatClampNeg) → _) ∧ (¬ a3 ≤ (I 58 a6.toNatClampNeg) → _)
    refine ⟨fun c1 => ?_, fun c1 => ?_⟩
    · exact ((h.2 c0).2.1 c1)
    · show mm_b _ _ _ _ _ [some (.ref 46), none, none, some (.int a3), some (.int a4), some (.int a5), some (.int a6), some (.int a7), some (.int a8), some (.int a9), none, none, none] [] ((fl, n1, n2, p, q, ad), I, J)
      show vp_in a9 320 ∧ _
      refine ⟨((h.2 c0).2.2 c1).1, ?_⟩
      show mm_b _ _ _ _ _ [some (.ref 46), none, none, some (.int a3), some (.int a4), some (.int a5), some (.int a6), some (.int a7), some (.int a8), some (.int a9), none, none, none] [.int (I 57 a9.toNatClampNeg), .int a6, .ref 46] ((fl, n1, n2, p, q, ad), I, J)
      show mm_wc d 238 [.ref 46, .int a6, .int (I 57 a9.toNatClampNeg)] ((fl, 0, 0, p, q, ad), I, J) _
      refine mm_wcm (((h.2 c0).2.2 c1).2) ?_
      rintro v τ ⟨r1, I1, J1, rfl, rfl, h1⟩
      refine mm_r1' ⟨rfl, ?_⟩
      show mm_b _ _ _ _ _ [some (.ref 46), none, none, some (.int a3), some (.int a4), some (.int a5), some (.int a6), some (.int a7), some (.int a8), some (.int a9), none, none, none] [.int r1] ((fl, n1, n2, p, q, ad), I1, J1)
      show vp_in a9 320 ∧ _
      refine ⟨h1.1, ?_⟩
      show mm_b _ _ _ _ _ [some (.ref 46), none, none, some (.int a3), some (.int a4), some (.int a5), some (.int a6), some (.int a7), some (.int a8), some (.int a9), some (.int r1), none, none] [.int (I1 57 a9.toNatClampNeg), .ref 46, .int ((nI 5) * r1)] ((fl, n1, n2, p, q, ad), I1, J1)
      show mm_wc d 208 [.ref 46, .int (I1 57 a9.toNatClampNeg)] ((fl, 0, 0, p, q, ad), I1, J1) _
      refine mm_wcm (h1.2) ?_
      rintro v τ ⟨r2, I2, J2, rfl, rfl, h2⟩
      refine mm_r1' ⟨rfl, ?_⟩
      show mm_b _ _ _ _ _ [some (.ref 46), none, none, some (.int a3), some (.int a4), some (.int a5), some (.int a6), some (.int a7), some (.int a8), some (.int a9), some (.int r1), none, none] [.int r2, .int ((nI 5) * r1)] ((fl, n1, n2, p, q, ad), I2, J2)
      show vp_in a9 320 ∧ _
      refine ⟨h2.1, ?_⟩
      show mm_b _ _ _ _ _ [some (.ref 46), none, none, some (.int a3), some (.int a4), some (.int a5), some (.int a6), some (.int a7), some (.int a8), some (.int a9), some (.int r1), some (.int (((nI 5) * r1) + r2)), none] [.int (I2 57 a9.toNatClampNeg), .ref 46, .int a7, .ref 46, .int a8] ((fl, n1, n2, p, q, ad), I2, J2)
      show mm_wc d 208 [.ref 46, .int (I2 57 a9.toNatClampNeg)] ((fl, 0, 0, p, q, ad), I2, J2) _
      refine mm_wcm (h2.2) ?_
      rintro v τ ⟨r3, I3, J3, rfl, rfl, h3⟩
      refine mm_r1' ⟨rfl, ?_⟩
      show mm_b _ _ _ _ _ [some (.ref 46), none, none, some (.int a3), some (.int a4), some (.int a5), some (.int a6), some (.int a7), some (.int a8), some (.int a9), some (.int r1), some (.int (((nI 5) * r1) + r2)), none] [.int r3, .int a7, .ref 46, .int a8] ((fl, n1, n2, p, q, ad), I3, J3)
      show mm_wc d 249 [.ref 46, .int a7, .int r3] ((fl, 0, 0, p, q, ad), I3, J3) _
      refine mm_wcm h3 ?_
      rintro v τ ⟨r4, I4, J4, rfl, rfl, h4⟩
      refine mm_r1' ⟨rfl, ?_⟩
      show mm_b _ _ _ _ _ [some (.ref 46), none, none, some (.int a3), some (.int a4), some (.int a5), some (.int a6), some (.int a7), some (.int a8), some (.int a9), some (.int r1), some (.int (((nI 5) * r1) + r2)), none] [.int r4, .int a8] ((fl, n1, n2, p, q, ad), I4, J4)
      show vp_in r1 16384 ∧ _
      refine ⟨h4.1, ?_⟩
      show mm_b _ _ _ _ _ [some (.ref 46), none, none, some (.int a3), some (.int a4), some (.int a5), some (.int a6), some (.int a7), some (.int a8), some (.int a9), some (.int r1), some (.int (((nI 5) * r1) + r2)), some (.int (a8 + r4))] [.int (I4 58 r1.toNatClampNeg)] ((fl, n1, n2, p, q, ad), I4, J4)
      show vp_in a6 16384 ∧ _
      refine ⟨h4.2.1, ?_⟩
      show mm_b _ _ _ _ _ [some (.ref 46), none, none, some (.int a3), some (.int a4), some (.int a5), some (.int a6), some (.int a7), some (.int a8), some (.int a9), some (.int r1), some (.int (((nI 5) * r1) + r2)), some (.int (a8 + r4))] [.int (I4 58 a6.toNatClampNeg), .int (I4 58 r1.toNatClampNeg)] ((fl, n1, n2, p, q, ad), I4, J4)
      show (¬ (I4 58 r1.toNatClampNeg) = ((I4 58 a6.toNatClampNeg) + (nI 1)) → _) ∧ ((I4 58 r1.toNatClampNeg) = ((I4 58 a6.toNatClampNeg) + (nI 1)) → _)
      refine ⟨fun c2 => ?_, fun c2 => ?_⟩
      · exact (h4.2.2.1 c2)
      · show mm_b _ _ _ _ _ [some (.ref 46), none, none, some (.int a3), some (.int a4), some (.int a5), some (.int a6), some (.int a7), some (.int a8), some (.int a9), some (.int r1), some (.int (((nI 5) * r1) + r2)), some (.int (a8 + r4))] [] ((fl, n1, n2, p, q, ad), I4, J4)
        show vp_in (((nI 5) * r1) + r2) 81920 ∧ _
        refine ⟨(h4.2.2.2 c2).1, ?_⟩
        show mm_b _ _ _ _ _ [some (.ref 46), none, none, some (.int a3), some (.int a4), some (.int a5), some (.int a6), some (.int a7), some (.int a8), some (.int a9), some (.int r1), some (.int (((nI 5) * r1) + r2)), some (.int (a8 + r4))] [.int (I4 61 ((((nI 5) * r1) + r2)).toNatClampNeg)] ((fl, n1, n2, p, q, ad), I4, J4)
        show ((I4 61 ((((nI 5) * r1) + r2)).toNatClampNeg) < (nI 0) → _) ∧ (¬ (I4 61 ((((nI 5) * r1) + r2)).toNatClampNeg) < (nI 0) → _)
        refine ⟨fun c3 => ?_, fun c3 => ?_⟩
        · exact ((h4.2.2.2 c2).2.1 c3)
        · show mm_b _ _ _ _ _ [some (.ref 46), none, none, some (.int a3), some (.int a4), some (.int a5), some (.int a6), some (.int a7), some (.int a8), some (.int a9), some (.int r1), some (.int (((nI 5) * r1) + r2)), some (.int (a8 + r4))] [] ((fl, n1, n2, p, q, ad), I4, J4)
          show vp_in (((nI 5) * r1) + r2) 81920 ∧ _
          refine ⟨((h4.2.2.2 c2).2.2 c3).1, ?_⟩
          show mm_b _ _ _ _ _ [some (.ref 46), none, none, some (.int a3), some (.int a4), some (.int a5), some (.int a6), some (.int a7), some (.int a8), some (.int a9), some (.int r1), some (.int (((nI 5) * r1) + r2)), some (.int (a8 + r4))] [.int (I4 61 ((((nI 5) * r1) + r2)).toNatClampNeg), .int (a8 + r4)] ((fl, n1, n2, p, q, ad), I4, J4)
          show ((I4 61 ((((nI 5) * r1) + r2)).toNatClampNeg) ≤ (a8 + r4) → _) ∧ (¬ (I4 61 ((((nI 5) * r1) + r2)).toNatClampNeg) ≤ (a8 + r4) → _)
          refine ⟨fun c4 => ?_, fun c4 => ?_⟩
          · exact (((h4.2.2.2 c2).2.2 c3).2.1 c4)
          · exact (((h4.2.2.2 c2).2.2 c3).2.2 c4)
theorem fx_250k_321 {d : Nat} {a3 : Int32} {a4 : Int32} {a5 : Int32} {a6 : Int32} {a7 : Int32} {a8 : Int32} {a9 : Int32} {fl : Nat → Bool} {n1 n2 : Nat} {p q : Bool} {ad : Nat → Nat} {I : mmI} {J : mmJ} {Q : mmQ} (h : mm_w Q (mm_wc d) bk_250 196 [some (.ref 46), none, none, some (.int a3), some (.int a4), some (.int a5), some (.int a6), some (.int a7), some (.int a8), some (.int (a9 + (nI 1))), none, none, none] [] ((fl, n1, n2, p, q, ad), I, J)) : mm_w Q (mm_wc (d)) bk_250 321 [some (.ref 46), none, none, some (.int a3), some (.int a4), some (.int a5), some (.int a6), some (.int a7), some (.int a8), some (.int a9), none, none, none] [] ((fl, n1, n2, p, q, ad), I, J) := by
  refine mm_go [20, 50, 55, 96, 117, 181, 188, 193, 196, 312, 321, 327] 80 ?_
  exact h
theorem fx_250k_312 {d : Nat} {a3 : Int32} {a4 : Int32} {a5 : Int32} {a6 : Int32} {a7 : Int32} {a8 : Int32} {a9 : Int32} {a11 : Int32} {a12 : Int32} {fl : Nat → Bool} {n1 n2 : Nat} {p q : Bool} {ad : Nat → Nat} {I : mmI} {J : mmJ} {Q : mmQ} (h : (vp_in a11 81920 ∧ mm_w Q (mm_wc d) bk_250 321 [some (.ref 46), none, none, some (.int a3), some (.int a4), some (.int a5), some (.int a6), some (.int a7), some (.int a8), some (.int a9), none, none, none] [] ((fl, n1, n2, p, q, ad), (mm_up I 61 a11.toNatClampNeg a12), J))) : mm_w Q (mm_wc (d)) bk_250 312 [some (.ref 46), none, none, some (.int a3), some (.int a4), some (.int a5), some (.int a6), some (.int a7), some (.int a8), some (.int a9), none, some (.int a11), some (.int a12)] [] ((fl, n1, n2, p, q, ad), I, J) := by
  refine mm_go [20, 50, 55, 96, 117, 181, 188, 193, 196, 312, 321, 327] 80 ?_
  show vp_in a11 81920 ∧ _
  refine ⟨h.1, ?_⟩
  exact h.2
/- 268 ThreeBreathsModel fitOf -/
theorem fx_268k {d : Nat} {x0 : Int32} {x1 : Int32} {fl : Nat → Bool} {n1 n2 : Nat} {p q : Bool} {ad : Nat → Nat} {I : mmI} {J : mmJ} {Q : mmQ} (h : mm_wc d 224 [.ref 46] ((fl, 0, 0, p, q, ad), I, J) (fun v τ => ∃ I1 J1, v = none ∧ τ = ((fl, 0, 0, p, q, ad), I1, J1) ∧ mm_wc d 205 [.ref 46] ((fl, 0, 0, p, q, ad), I1, J1) (fun v τ => ∃ r2 I2 J2, v = some (.int r2) ∧ τ = ((fl, 0, 0, p, q, ad), I2, J2) ∧ mm_wc d 235 [.ref 46, .int r2, .int (nI 0)] ((fl, 0, 0, p, q, ad), I2, J2) (fun v τ => ∃ r3 I3 J3, v = some (.int r3) ∧ τ = ((fl, 0, 0, p, q, ad), I3, J3) ∧ mm_w Q (mm_wc d) bk_268 20 [some (.ref 46), some (.int x0), some (.int x1), some (.int r3), some (.int (nI 0)), some (.int (nI 0)), none, none] [] ((fl, n1, n2, p, q, ad), I3, J3))))) : mm_wc (d + 1) 268 [.ref 46, .int x0, .int x1] ((fl, n1, n2, p, q, ad), I, J) Q := by
  refine mm_call (c := 268) rfl rfl ?_
  refine mm_go [20, 41, 56, 77, 105] 80 ?_
  show mm_wc d 224 [.ref 46] ((fl, 0, 0, p, q, ad), I, J) _
  refine mm_wcm h ?_
  rintro v τ ⟨I1, J1, rfl, rfl, h1⟩
  refine mm_r0' ⟨rfl, ?_⟩
  show mm_b _ _ _ _ _ [some (.ref 46), some (.int x0), some (.int x1), none, none, none, none, none] [] ((fl, n1, n2, p, q, ad), I1, J1)
  show mm_wc d 205 [.ref 46] ((fl, 0, 0, p, q, ad), I1, J1) _
  refine mm_wcm h1 ?_
  rintro v τ ⟨r2, I2, J2, rfl, rfl, h2⟩
  refine mm_r1' ⟨rfl, ?_⟩
  show mm_b _ _ _ _ _ [some (.ref 46), some (.int x0), some (.int x1), none, none, none, none, none] [.int r2, .ref 46] ((fl, n1, n2, p, q, ad), I2, J2)
  show mm_wc d 235 [.ref 46, .int r2, .int (nI 0)] ((fl, 0, 0, p, q, ad), I2, J2) _
  refine mm_wcm h2 ?_
  rintro v τ ⟨r3, I3, J3, rfl, rfl, h3⟩
  refine mm_r1' ⟨rfl, ?_⟩
  exact h3
theorem fx_268k_20 {d : Nat} {a1 : Int32} {a2 : Int32} {a3 : Int32} {a4 : Int32} {a5 : Int32} {fl : Nat → Bool} {n1 n2 : Nat} {p q : Bool} {ad : Nat → Nat} {I : mmI} {J : mmJ} {Q : mmQ} (h : mm_wc d 206 [.ref 46] ((fl, 0, 0, p, q, ad), I, J) (fun v τ => ∃ r1 I1 J1, v = some (.int r1) ∧ τ = ((fl, 0, 0, p, q, ad), I1, J1) ∧ ((r1 ≤ a5 → Q (some (.int (a4 - (nI 1000000)))) ((fl, n1, n2, p, q, ad), I1, J1)) ∧ (¬ r1 ≤ a5 → mm_wc d 238 [.ref 46, .int a3, .int a5] ((fl, 0, 0, p, q, ad), I1, J1) (fun v τ => ∃ r2 I2 J2, v = some (.int r2) ∧ τ = ((fl, 0, 0, p, q, ad), I2, J2) ∧ mm_w Q (mm_wc d) bk_268 41 [some (.ref 46), some (.int a1), some (.int a2), some (.int a3), some (.int a4), some (.int a5), some (.int r2), some (.int (nI 0))] [] ((fl, n1, n2, p, q, ad), I2, J2)))))) : mm_w Q (mm_wc (d)) bk_268 20 [some (.ref 46), some (.int a1), some (.int a2), some (.int a3), some (.int a4), some (.int a5), none, none] [] ((fl, n1, n2, p, q, ad), I, J) := by
  refine mm_go [20, 41, 56, 77, 105] 80 ?_
  show mm_wc d 206 [.ref 46] ((fl, 0, 0, p, q, ad), I, J) _
  refine mm_wcm h ?_
  rintro v τ ⟨r1, I1, J1, rfl, rfl, h1⟩
  refine mm_r1' ⟨rfl, ?_⟩
  show mm_b _ _ _ _ _ [some (.ref 46), some (.int a1), some (.int a2), some (.int a3), some (.int a4), some (.int a5), none, none] [.int r1, .int a5] ((fl, n1, n2, p, q, ad), I1, J1)
  show (r1 ≤ a5 → _) ∧ (¬ r1 ≤ a5 → _)
  refine ⟨fun c0 => ?_, fun c0 => ?_⟩
  · exact (h1.1 c0)
  · show mm_b _ _ _ _ _ [some (.ref 46), some (.int a1), some (.int a2), some (.int a3), some (.int a4), some (.int a5), none, none] [] ((fl, n1, n2, p, q, ad), I1, J1)
    show mm_wc d 238 [.ref 46, .int a3, .int a5] ((fl, 0, 0, p, q, ad), I1, J1) _
    refine mm_wcm (h1.2 c0) ?_
    rintro v τ ⟨r2, I2, J2, rfl, rfl, h2⟩
    refine mm_r1' ⟨rfl, ?_⟩
    exact h2
theorem fx_268k_41 {d : Nat} {a1 : Int32} {a2 : Int32} {a3 : Int32} {a4 : Int32} {a5 : Int32} {a6 : Int32} {a7 : Int32} {fl : Nat → Bool} {n1 n2 : Nat} {p q : Bool} {ad : Nat → Nat} {I : mmI} {J : mmJ} {Q : mmQ} (h : ((¬ a1 = (nI 1) → mm_wc d 206 [.ref 46] ((fl, 0, 0, p, q, ad), I, J) (fun v τ => ∃ r1 I1 J1, v = some (.int r1) ∧ τ = ((fl, 0, 0, p, q, ad), I1, J1) ∧ mm_w Q (mm_wc d) bk_268 56 [some (.ref 46), some (.int a1), some (.int a2), some (.int a3), some (.int a4), some (.int a5), some (.int a6), some (.int a7)] [.int r1, .int a7] ((fl, n1, n2, p, q, ad), I1, J1))) ∧ (a1 = (nI 1) → mm_w Q (mm_wc d) bk_268 56 [some (.ref 46), some (.int a1), some (.int a2), some (.int a3), some (.int a4), some (.int a5), some (.int a6), some (.int a7)] [.int (nI 1), .int a7] ((fl, n1, n2, p, q, ad), I, J)))) : mm_w Q (mm_wc (d)) bk_268 41 [some (.ref 46), some (.int a1), some (.int a2), some (.int a3), some (.int a4), some (.int a5), some (.int a6), some (.int a7)] [] ((fl, n1, n2, p, q, ad), I, J) := by
  refine mm_go [20, 41, 56, 77, 105] 80 ?_
  show (¬ a1 = (nI 1) → _) ∧ (a1 = (nI 1) → _)
  refine ⟨fun c0 => ?_, fun c0 => ?_⟩
  · show mm_u _ _ _ _ _ _ [some (.ref 46), some (.int a1), some (.int a2), some (.int a3), some (.int a4), some (.int a5), some (.int a6), some (.int a7)] [.int a7] ((fl, n1, n2, p, q, ad), I, J)
    show mm_wc d 206 [.ref 46] ((fl, 0, 0, p, q, ad), I, J) _
    refine mm_wcm (h.1 c0) ?_
    rintro v τ ⟨r1, I1, J1, rfl, rfl, h1⟩
    refine mm_r1' ⟨rfl, ?_⟩
    exact h1
  · exact (h.2 c0)
theorem fx_268k_56 {d : Nat} {a1 : Int32} {a2 : Int32} {a3 : Int32} {a4 : Int32} {a5 : Int32} {a6 : Int32} {a7 : Int32} {s0 : Int32} {s1 : Int32} {fl : Nat → Bool} {n1 n2 : Nat} {p q : Bool} {ad : Nat → Nat} {I : mmI} {J : mmJ} {Q : mmQ} (h : ((s0 ≤ s1 → mm_w Q (mm_wc d) bk_268 20 [some (.ref 46), some (.int a1), some (.int a2), some (.int a3), some (.int a4), some (.int (a5 + (nI 1))), none, none] [] ((fl, n1, n2, p, q, ad), I, J)) ∧ (¬ s0 ≤ s1 → ((¬ a1 = (nI 1) → mm_wc d 238 [.ref 46, .int a6, .int a7] ((fl, 0, 0, p, q, ad), I, J) (fun v τ => ∃ r1 I1 J1, v = some (.int r1) ∧ τ = ((fl, 0, 0, p, q, ad), I1, J1) ∧ mm_w Q (mm_wc d) bk_268 77 [some (.ref 46), some (.int a1), some (.int a2), some (.int a3), some (.int a4), some (.int a5), some (.int a6), some (.int a7)] [.int r1] ((fl, n1, n2, p, q, ad), I1, J1))) ∧ (a1 = (nI 1) → mm_w Q (mm_wc d) bk_268 77 [some (.ref 46), some (.int a1), some (.int a2), some (.int a3), some (.int a4), some (.int a5), some (.int a6), some (.int a7)] [.int a6] ((fl, n1, n2, p, q, ad), I, J)))))) : mm_w Q (mm_wc (d)) bk_268 56 [some (.ref 46), some (.int a1), some (.int a2), some (.int a3), some (.int a4), some (.int a5), some (.int a6), some (.int a7)] [.int s0, .int s1] ((fl, n1, n2, p, q, ad), I, J) := by
  refine mm_go [20, 41, 56, 77, 105] 80 ?_
  show (s0 ≤ s1 → _) ∧ (¬ s0 ≤ s1 → _)
  refine ⟨fun c0 => ?_, fun c0 => ?_⟩
  · exact (h.1 c0)
  · show mm_b _ _ _ _ _ [some (.ref 46), some (.int a1), some (.int a2), some (.int a3), some (.int a4), some (.int a5), some (.int a6), some (.int a7)] [] ((fl, n1, n2, p, q, ad), I, J)
    show (¬ a1 = (nI 1) → _) ∧ (a1 = (nI 1) → _)
    refine ⟨fun c1 => ?_, fun c1 => ?_⟩
    · show mm_u _ _ _ _ _ _ [some (.ref 46), some (.int a1), some (.int a2), some (.int a3), some (.int a4), some (.int a5), some (.int a6), some (.int a7)] [] ((fl, n1, n2, p, q, ad), I, J)
      show mm_wc d 238 [.ref 46, .int a6, .int a7] ((fl, 0, 0, p, q, ad), I, J) _
      refine mm_wcm ((h.2 c0).1 c1) ?_
      rintro v τ ⟨r1, I1, J1, rfl, rfl, h1⟩
      refine mm_r1' ⟨rfl, ?_⟩
      exact h1
    · exact ((h.2 c0).2 c1)
theorem fx_268k_77 {d : Nat} {a1 : Int32} {a2 : Int32} {a3 : Int32} {a4 : Int32} {a5 : Int32} {a6 : Int32} {a7 : Int32} {s0 : Int32} {fl : Nat → Bool} {n1 n2 : Nat} {p q : Bool} {ad : Nat → Nat} {I : mmI} {J : mmJ} {Q : mmQ} (h : mm_wc d 237 [.int s0] ((fl, 0, 0, p, q, ad), I, J) (fun v τ => ∃ r1 I1 J1, v = some (.int r1) ∧ τ = ((fl, 0, 0, p, q, ad), I1, J1) ∧ ((r1 = (I1 49 9) → ((¬ a4 = a2 → mm_w Q (mm_wc d) bk_268 105 [some (.ref 46), some (.int a1), some (.int a2), some (.int a3), some (.int (a4 + (nI 1))), some (.int a5), some (.int a6), some (.int a7)] [] ((fl, n1, n2, p, q, ad), I1, J1)) ∧ (a4 = a2 → Q (some (.int a5)) ((fl, n1, n2, p, q, ad), I1, J1)))) ∧ (¬ r1 = (I1 49 9) → mm_w Q (mm_wc d) bk_268 105 [some (.ref 46), some (.int a1), some (.int a2), some (.int a3), some (.int a4), some (.int a5), some (.int a6), some (.int a7)] [] ((fl, n1, n2, p, q, ad), I1, J1))))) : mm_w Q (mm_wc (d)) bk_268 77 [some (.ref 46), some (.int a1), some (.int a2), some (.int a3), some (.int a4), some (.int a5), some (.int a6), some (.int a7)] [.int s0] ((fl, n1, n2, p, q, ad), I, J) := by
  refine mm_go [20, 41, 56, 77, 105] 80 ?_
  show mm_wc d 237 [.int s0] ((fl, 0, 0, p, q, ad), I, J) _
  refine mm_wcm h ?_
  rintro v τ ⟨r1, I1, J1, rfl, rfl, h1⟩
  refine mm_r1' ⟨rfl, ?_⟩
  show mm_b _ _ _ _ _ [some (.ref 46), some (.int a1), some (.int a2), some (.int a3), some (.int a4), some (.int a5), some (.int a6), some (.int a7)] [.int r1] ((fl, n1, n2, p, q, ad), I1, J1)
  show (vp_in (nI 9) 279) ∧ _
  refine ⟨(mm_inl (by decide)), ?_⟩
  show mm_b _ _ _ _ _ [some (.ref 46), some (.int a1), some (.int a2), some (.int a3), some (.int a4), some (.int a5), some (.int a6), some (.int a7)] [.int (I1 49 9), .int r1] ((fl, n1, n2, p, q, ad), I1, J1)
  show (r1 = (I1 49 9) → _) ∧ (¬ r1 = (I1 49 9) → _)
  refine ⟨fun c0 => ?_, fun c0 => ?_⟩
  · show mm_u _ _ _ _ _ _ [some (.ref 46), some (.int a1), some (.int a2), some (.int a3), some (.int a4), some (.int a5), some (.int a6), some (.int a7)] [] ((fl, n1, n2, p, q, ad), I1, J1)
    show (¬ a4 = a2 → _) ∧ (a4 = a2 → _)
    refine ⟨fun c1 => ?_, fun c1 => ?_⟩
    · exact ((h1.1 c0).1 c1)
    · exact ((h1.1 c0).2 c1)
  · exact (h1.2 c0)
theorem fx_268k_105 {d : Nat} {a1 : Int32} {a2 : Int32} {a3 : Int32} {a4 : Int32} {a5 : Int32} {a6 : Int32} {a7 : Int32} {fl : Nat → Bool} {n1 n2 : Nat} {p q : Bool} {ad : Nat → Nat} {I : mmI} {J : mmJ} {Q : mmQ} (h : mm_w Q (mm_wc d) bk_268 41 [some (.ref 46), some (.int a1), some (.int a2), some (.int a3), some (.int a4), some (.int a5), some (.int a6), some (.int (a7 + (nI 1)))] [] ((fl, n1, n2, p, q, ad), I, J)) : mm_w Q (mm_wc (d)) bk_268 105 [some (.ref 46), some (.int a1), some (.int a2), some (.int a3), some (.int a4), some (.int a5), some (.int a6), some (.int a7)] [] ((fl, n1, n2, p, q, ad), I, J) := by
  refine mm_go [20, 41, 56, 77, 105] 80 ?_
  exact h
/- 242 ThreeBreathsModel row -/
theorem fx_242k {d : Nat} {x0 : Int32} {fl : Nat → Bool} {n1 n2 : Nat} {p q : Bool} {ad : Nat → Nat} {I : mmI} {J : mmJ} {Q : mmQ} (h : mm_wc d 166 [.ref 46] ((fl, 0, 0, p, q, ad), I, J) (fun v τ => ∃ I1 J1, v = none ∧ τ = ((fl, 0, 0, p, q, ad), I1, J1) ∧ (((I1 46 14) = (nI 0) → mm_w Q (mm_wc d) bk_242 15 [some (.ref 46), none, none, none, none] [] ((fl, n1, n2, p, q, ad), I1, J1)) ∧ (¬ (I1 46 14) = (nI 0) → (((nI 0) ≤ x0 → mm_wc d 234 [.ref 46, .int (-1), .int (-1), .int (-1), .int (-1), .int (nI 0)] ((fl, 0, 0, p, q, ad), I1, J1) (fun v τ => ∃ I2 J2, v = none ∧ τ = ((fl, 0, 0, p, q, ad), I2, J2) ∧ mm_wc d 240 [.ref 46] ((fl, 0, 0, p, q, ad), I2, J2) (fun v τ => ∃ r3 I3 J3, v = some (.int r3) ∧ τ = ((fl, 0, 0, p, q, ad), I3, J3) ∧ ((¬ r3 = (-2) → ((x0 < (I3 46 35) → mm_w Q (mm_wc d) bk_242 67 [some (.ref 46), some (.int x0), some (.int ((I3 46 33) - (nI 1))), none, none] [] ((fl, n1, n2, p, q, ad), I3, J3)) ∧ (¬ x0 < (I3 46 35) → mm_wc d 167 [.ref 46, .int (nI 1)] ((fl, 0, 0, p, q, ad), I3, J3) (fun v τ => ∃ r4 I4 J4, v = some (.int r4) ∧ τ = ((fl, 0, 0, p, q, ad), I4, J4) ∧ Q (some (.int r4)) ((fl, n1, n2, p, q, ad), I4, J4))))) ∧ (r3 = (-2) → mm_wc d 167 [.ref 46, .int (nI 6)] ((fl, 0, 0, p, q, ad), I3, J3) (fun v τ => ∃ r5 I5 J5, v = some (.int r5) ∧ τ = ((fl, 0, 0, p, q, ad), I5, J5) ∧ Q (some (.int r5)) ((fl, n1, n2, p, q, ad), I5, J5))))))) ∧ (¬ (nI 0) ≤ x0 → mm_w Q (mm_wc d) bk_242 15 [some (.ref 46), none, none, none, none] [] ((fl, n1, n2, p, q, ad), I1, J1))))))) : mm_wc (d + 1) 242 [.ref 46, .int x0] ((fl, n1, n2, p, q, ad), I, J) Q := by
  refine mm_call (c := 242) rfl rfl ?_
  refine mm_go [15, 67, 107, 108, 112, 172, 185, 188] 80 ?_
  show mm_wc d 166 [.ref 46] ((fl, 0, 0, p, q, ad), I, J) _
  refine mm_wcm h ?_
  rintro v τ ⟨I1, J1, rfl, rfl, h1⟩
  refine mm_r0' ⟨rfl, ?_⟩
  show mm_b _ _ _ _ _ [some (.ref 46), some (.int x0), none, none, none] [] ((fl, n1, n2, p, q, ad), I1, J1)
  show ((I1 46 14) = (nI 0) → _) ∧ (¬ (I1 46 14) = (nI 0) → _)
  refine ⟨fun c0 => ?_, fun c0 => ?_⟩
  · exact (h1.1 c0)
  · show mm_b _ _ _ _ _ [some (.ref 46), some (.int x0), none, none, none] [] ((fl, n1, n2, p, q, ad), I1, J1)
    show ((nI 0) ≤ x0 → _) ∧ (¬ (nI 0) ≤ x0 → _)
    refine ⟨fun c1 => ?_, fun c1 => ?_⟩
    · show mm_u _ _ _ _ _ _ [some (.ref 46), some (.int x0), none, none, none] [] ((fl, n1, n2, p, q, ad), I1, J1)
      show mm_wc d 234 [.ref 46, .int (-1), .int (-1), .int (-1), .int (-1), .int (nI 0)] ((fl, 0, 0, p, q, ad), I1, J1) _
      refine mm_wcm ((h1.2 c0).1 c1) ?_
      rintro v τ ⟨I2, J2, rfl, rfl, h2⟩
      refine mm_r0' ⟨rfl, ?_⟩
      show mm_b _ _ _ _ _ [some (.ref 46), some (.int x0), none, none, none] [] ((fl, n1, n2, p, q, ad), I2, J2)
      show mm_wc d 240 [.ref 46] ((fl, 0, 0, p, q, ad), I2, J2) _
      refine mm_wcm h2 ?_
      rintro v τ ⟨r3, I3, J3, rfl, rfl, h3⟩
      refine mm_r1' ⟨rfl, ?_⟩
      show mm_b _ _ _ _ _ [some (.ref 46), some (.int x0), none, none, none] [.int r3] ((fl, n1, n2, p, q, ad), I3, J3)
      show (¬ r3 = (-2) → _) ∧ (r3 = (-2) → _)
      refine ⟨fun c2 => ?_, fun c2 => ?_⟩
      · show mm_u _ _ _ _ _ _ [some (.ref 46), some (.int x0), none, none, none] [] ((fl, n1, n2, p, q, ad), I3, J3)
        show (x0 < (I3 46 35) → _) ∧ (¬ x0 < (I3 46 35) → _)
        refine ⟨fun c3 => ?_, fun c3 => ?_⟩
        · exact ((h3.1 c2).1 c3)
        · show mm_b _ _ _ _ _ [some (.ref 46), some (.int x0), none, none, none] [] ((fl, n1, n2, p, q, ad), I3, J3)
          show mm_wc d 167 [.ref 46, .int (nI 1)] ((fl, 0, 0, p, q, ad), I3, J3) _
          refine mm_wcm ((h3.1 c2).2 c3) ?_
          rintro v τ ⟨r4, I4, J4, rfl, rfl, h4⟩
          refine mm_r1' ⟨rfl, ?_⟩
          exact h4
      · show mm_b _ _ _ _ _ [some (.ref 46), some (.int x0), none, none, none] [] ((fl, n1, n2, p, q, ad), I3, J3)
        show mm_wc d 167 [.ref 46, .int (nI 6)] ((fl, 0, 0, p, q, ad), I3, J3) _
        refine mm_wcm (h3.2 c2) ?_
        rintro v τ ⟨r5, I5, J5, rfl, rfl, h5⟩
        refine mm_r1' ⟨rfl, ?_⟩
        exact h5
    · exact ((h1.2 c0).2 c1)
theorem fx_242k_15 {d : Nat} {fl : Nat → Bool} {n1 n2 : Nat} {p q : Bool} {ad : Nat → Nat} {I : mmI} {J : mmJ} {Q : mmQ} (h : mm_wc d 167 [.ref 46, .int (nI 1)] ((fl, 0, 0, p, q, ad), I, J) (fun v τ => ∃ r1 I1 J1, v = some (.int r1) ∧ τ = ((fl, 0, 0, p, q, ad), I1, J1) ∧ Q (some (.int r1)) ((fl, n1, n2, p, q, ad), I1, J1))) : mm_w Q (mm_wc (d)) bk_242 15 [some (.ref 46), none, none, none, none] [] ((fl, n1, n2, p, q, ad), I, J) := by
  refine mm_go [15, 67, 107, 108, 112, 172, 185, 188] 80 ?_
  show mm_wc d 167 [.ref 46, .int (nI 1)] ((fl, 0, 0, p, q, ad), I, J) _
  refine mm_wcm h ?_
  rintro v τ ⟨r1, I1, J1, rfl, rfl, h1⟩
  refine mm_r1' ⟨rfl, ?_⟩
  exact h1
theorem fx_242k_67 {d : Nat} {a1 : Int32} {a2 : Int32} {fl : Nat → Bool} {n1 n2 : Nat} {p q : Bool} {ad : Nat → Nat} {I : mmI} {J : mmJ} {Q : mmQ} (h : ((a2 < (nI 0) → mm_w Q (mm_wc d) bk_242 185 [some (.ref 46), some (.int a1), some (.int (I 46 34)), some (.int (nI 0)), none] [] ((fl, n1, n2, p, q, ad), I, J)) ∧ (¬ a2 < (nI 0) → (vp_in a2 16384 ∧ (vp_in (I 59 a2.toNatClampNeg) 16384 ∧ ((¬ (I 58 ((I 59 a2.toNatClampNeg)).toNatClampNeg) = (I 46 35) → mm_w Q (mm_wc d) bk_242 107 [some (.ref 46), some (.int a1), some (.int a2), some (.int (I 59 a2.toNatClampNeg)), none] [.int (I 59 a2.toNatClampNeg), .ref 60] ((fl, n1, n2, p, q, ad), I, J)) ∧ ((I 58 ((I 59 a2.toNatClampNeg)).toNatClampNeg) = (I 46 35) → mm_wc d 237 [.int (I 59 a2.toNatClampNeg)] ((fl, 0, 0, p, q, ad), I, J) (fun v τ => ∃ r1 I1 J1, v = some (.int r1) ∧ τ = ((fl, 0, 0, p, q, ad), I1, J1) ∧ ((¬ r1 = (nI 0) → mm_w Q (mm_wc d) bk_242 107 [some (.ref 46), some (.int a1), some (.int a2), some (.int (I 59 a2.toNatClampNeg)), none] [.int (I 59 a2.toNatClampNeg), .ref 60] ((fl, n1, n2, p, q, ad), I1, J1)) ∧ (r1 = (nI 0) → mm_w Q (mm_wc d) bk_242 108 [some (.ref 46), some (.int a1), some (.int a2), some (.int (I 59 a2.toNatClampNeg)), none] [.int (nI 1), .int (I 59 a2.toNatClampNeg), .ref 60] ((fl, n1, n2, p, q, ad), I1, J1))))))))))) : mm_w Q (mm_wc (d)) bk_242 67 [some (.ref 46), some (.int a1), some (.int a2), none, none] [] ((fl, n1, n2, p, q, ad), I, J) := by
  refine mm_go [15, 67, 107, 108, 112, 172, 185, 188] 80 ?_
  show (a2 < (nI 0) → _) ∧ (¬ a2 < (nI 0) → _)
  refine ⟨fun c0 => ?_, fun c0 => ?_⟩
  · exact (h.1 c0)
  · show mm_b _ _ _ _ _ [some (.ref 46), some (.int a1), some (.int a2), none, none] [] ((fl, n1, n2, p, q, ad), I, J)
    show vp_in a2 16384 ∧ _
    refine ⟨(h.2 c0).1, ?_⟩
    show mm_b _ _ _ _ _ [some (.ref 46), some (.int a1), some (.int a2), none, none] [.int (I 59 a2.toNatClampNeg)] ((fl, n1, n2, p, q, ad), I, J)
    show vp_in (I 59 a2.toNatClampNeg) 16384 ∧ _
    refine ⟨(h.2 c0).2.1, ?_⟩
    show mm_b _ _ _ _ _ [some (.ref 46), some (.int a1), some (.int a2), some (.int (I 59 a2.toNatClampNeg)), none] [.int (I 58 ((I 59 a2.toNatClampNeg)).toNatClampNeg), .int (I 59 a2.toNatClampNeg), .ref 60] ((fl, n1, n2, p, q, ad), I, J)
    show (¬ (I 58 ((I 59 a2.toNatClampNeg)).toNatClampNeg) = (I 46 35) → _) ∧ ((I 58 ((I 59 a2.toNatClampNeg)).toNatClampNeg) = (I 46 35) → _)
    refine ⟨fun c1 => ?_, fun c1 => ?_⟩
    · exact ((h.2 c0).2.2.1 c1)
    · show mm_b _ _ _ _ _ [some (.ref 46), some (.int a1), some (.int a2), some (.int (I 59 a2.toNatClampNeg)), none] [.int (I 59 a2.toNatClampNeg), .ref 60] ((fl, n1, n2, p, q, ad), I, J)
      show mm_wc d 237 [.int (I 59 a2.toNatClampNeg)] ((fl, 0, 0, p, q, ad), I, J) _
      refine mm_wcm ((h.2 c0).2.2.2 c1) ?_
      rintro v τ ⟨r1, I1, J1, rfl, rfl, h1⟩
      refine mm_r1' ⟨rfl, ?_⟩
      show mm_b _ _ _ _ _ [some (.ref 46), some (.int a1), some (.int a2), some (.int (I 59 a2.toNatClampNeg)), none] [.int r1, .int (I 59 a2.toNatClampNeg), .ref 60] ((fl, n1, n2, p, q, ad), I1, J1)
      show (¬ r1 = (nI 0) → _) ∧ (r1 = (nI 0) → _)
      refine ⟨fun c2 => ?_, fun c2 => ?_⟩
      · exact (h1.1 c2)
      · exact (h1.2 c2)
theorem fx_242k_185 {d : Nat} {a1 : Int32} {a2 : Int32} {a3 : Int32} {fl : Nat → Bool} {n1 n2 : Nat} {p q : Bool} {ad : Nat → Nat} {I : mmI} {J : mmJ} {Q : mmQ} (h : mm_w Q (mm_wc d) bk_242 188 [some (.ref 46), some (.int a1), some (.int a2), some (.int a3), some (.int (nI 0))] [] ((fl, n1, n2, p, q, ad), I, J)) : mm_w Q (mm_wc (d)) bk_242 185 [some (.ref 46), some (.int a1), some (.int a2), some (.int a3), none] [] ((fl, n1, n2, p, q, ad), I, J) := by
  refine mm_go [15, 67, 107, 108, 112, 172, 185, 188] 80 ?_
  exact h
theorem fx_242k_107 {d : Nat} {a1 : Int32} {a2 : Int32} {a3 : Int32} {s0 : Int32} {fl : Nat → Bool} {n1 n2 : Nat} {p q : Bool} {ad : Nat → Nat} {I : mmI} {J : mmJ} {Q : mmQ} (h : mm_w Q (mm_wc d) bk_242 108 [some (.ref 46), some (.int a1), some (.int a2), some (.int a3), none] [.int (nI 0), .int s0, .ref 60] ((fl, n1, n2, p, q, ad), I, J)) : mm_w Q (mm_wc (d)) bk_242 107 [some (.ref 46), some (.int a1), some (.int a2), some (.int a3), none] [.int s0, .ref 60] ((fl, n1, n2, p, q, ad), I, J) := by
  refine mm_go [15, 67, 107, 108, 112, 172, 185, 188] 80 ?_
  exact h
theorem fx_242k_108 {d : Nat} {a1 : Int32} {a2 : Int32} {a3 : Int32} {s0 : Int32} {s1 : Int32} {fl : Nat → Bool} {n1 n2 : Nat} {p q : Bool} {ad : Nat → Nat} {I : mmI} {J : mmJ} {Q : mmQ} (h : ((s0 = 0 ∨ s0 = 1) ∧ (vp_in s1 16384 ∧ mm_w Q (mm_wc d) bk_242 112 [some (.ref 46), some (.int a1), some (.int a2), some (.int a3), some (.int (nI 0))] [] ((fl, n1, n2, p, q, ad), (mm_up I 60 s1.toNatClampNeg s0), J)))) : mm_w Q (mm_wc (d)) bk_242 108 [some (.ref 46), some (.int a1), some (.int a2), some (.int a3), none] [.int s0, .int s1, .ref 60] ((fl, n1, n2, p, q, ad), I, J) := by
  refine mm_go [15, 67, 107, 108, 112, 172, 185, 188] 80 ?_
  show (s0 = 0 ∨ s0 = 1) ∧ _
  refine ⟨h.1, ?_⟩
  show vp_in s1 16384 ∧ _
  refine ⟨h.2.1, ?_⟩
  exact h.2.2
theorem fx_242k_188 {d : Nat} {a1 : Int32} {a2 : Int32} {a3 : Int32} {a4 : Int32} {fl : Nat → Bool} {n1 n2 : Nat} {p q : Bool} {ad : Nat → Nat} {I : mmI} {J : mmJ} {Q : mmQ} (h : (vp_in a4 320 ∧ mm_wc d 238 [.ref 46, .int a2, .int (I 57 a4.toNatClampNeg)] ((fl, 0, 0, p, q, ad), I, J) (fun v τ => ∃ r1 I1 J1, v = some (.int r1) ∧ τ = ((fl, 0, 0, p, q, ad), I1, J1) ∧ mm_wc d 243 [.ref 46, .int a2, .int r1] ((fl, 0, 0, p, q, ad), I1, J1) (fun v τ => ∃ r2 I2 J2, v = some (.int r2) ∧ τ = ((fl, 0, 0, p, q, ad), I2, J2) ∧ ((¬ r2 = (nI 0) → ((¬ a3 = a1 → (vp_in a4 320 ∧ mm_wc d 238 [.ref 46, .int a2, .int (I2 57 a4.toNatClampNeg)] ((fl, 0, 0, p, q, ad), I2, J2) (fun v τ => ∃ r3 I3 J3, v = some (.int r3) ∧ τ = ((fl, 0, 0, p, q, ad), I3, J3) ∧ mm_w Q (mm_wc d) bk_242 185 [some (.ref 46), some (.int a1), some (.int r3), some (.int (a3 + (nI 1))), none] [] ((fl, n1, n2, p, q, ad), I3, J3)))) ∧ (a3 = a1 → (vp_in a4 320 ∧ Q (some (.int (I2 57 a4.toNatClampNeg))) ((fl, n1, n2, p, q, ad), I2, J2))))) ∧ (r2 = (nI 0) → mm_w Q (mm_wc d) bk_242 188 [some (.ref 46), some (.int a1), some (.int a2), some (.int a3), some (.int (a4 + (nI 1)))] [] ((fl, n1, n2, p, q, ad), I2, J2))))))) : mm_w Q (mm_wc (d)) bk_242 188 [some (.ref 46), some (.int a1), some (.int a2), some (.int a3), some (.int a4)] [] ((fl, n1, n2, p, q, ad), I, J) := by
  refine mm_go [15, 67, 107, 108, 112, 172, 185, 188] 80 ?_
  show vp_in a4 320 ∧ _
  refine ⟨h.1, ?_⟩
  show mm_b _ _ _ _ _ [some (.ref 46), some (.int a1), some (.int a2), some (.int a3), some (.int a4)] [.int (I 57 a4.toNatClampNeg), .int a2, .ref 46, .int a2, .ref 46] ((fl, n1, n2, p, q, ad), I, J)
  show mm_wc d 238 [.ref 46, .int a2, .int (I 57 a4.toNatClampNeg)] ((fl, 0, 0, p, q, ad), I, J) _
  refine mm_wcm (h.2) ?_
  rintro v τ ⟨r1, I1, J1, rfl, rfl, h1⟩
  refine mm_r1' ⟨rfl, ?_⟩
  show mm_b _ _ _ _ _ [some (.ref 46), some (.int a1), some (.int a2), some (.int a3), some (.int a4)] [.int r1, .int a2, .ref 46] ((fl, n1, n2, p, q, ad), I1, J1)
  show mm_wc d 243 [.ref 46, .int a2, .int r1] ((fl, 0, 0, p, q, ad), I1, J1) _
  refine mm_wcm h1 ?_
  rintro v τ ⟨r2, I2, J2, rfl, rfl, h2⟩
  refine mm_r1' ⟨rfl, ?_⟩
  show mm_b _ _ _ _ _ [some (.ref 46), some (.int a1), some (.int a2), some (.int a3), some (.int a4)] [.int r2] ((fl, n1, n2, p, q, ad), I2, J2)
  show (¬ r2 = (nI 0) → _) ∧ (r2 = (nI 0) → _)
  refine ⟨fun c0 => ?_, fun c0 => ?_⟩
  · show mm_u _ _ _ _ _ _ [some (.ref 46), some (.int a1), some (.int a2), some (.int a3), some (.int a4)] [] ((fl, n1, n2, p, q, ad), I2, J2)
    show (¬ a3 = a1 → _) ∧ (a3 = a1 → _)
    refine ⟨fun c1 => ?_, fun c1 => ?_⟩
    · show mm_u _ _ _ _ _ _ [some (.ref 46), some (.int a1), some (.int a2), some (.int a3), some (.int a4)] [] ((fl, n1, n2, p, q, ad), I2, J2)
      show vp_in a4 320 ∧ _
      refine ⟨((h2.1 c0).1 c1).1, ?_⟩
      show mm_b _ _ _ _ _ [some (.ref 46), some (.int a1), some (.int a2), some (.int a3), some (.int a4)] [.int (I2 57 a4.toNatClampNeg), .int a2, .ref 46] ((fl, n1, n2, p, q, ad), I2, J2)
      show mm_wc d 238 [.ref 46, .int a2, .int (I2 57 a4.toNatClampNeg)] ((fl, 0, 0, p, q, ad), I2, J2) _
      refine mm_wcm (((h2.1 c0).1 c1).2) ?_
      rintro v τ ⟨r3, I3, J3, rfl, rfl, h3⟩
      refine mm_r1' ⟨rfl, ?_⟩
      exact h3
    · show mm_b _ _ _ _ _ [some (.ref 46), some (.int a1), some (.int a2), some (.int a3), some (.int a4)] [] ((fl, n1, n2, p, q, ad), I2, J2)
      show vp_in a4 320 ∧ _
      refine ⟨((h2.1 c0).2 c1).1, ?_⟩
      exact ((h2.1 c0).2 c1).2
  · exact (h2.2 c0)
theorem fx_242k_112 {d : Nat} {a1 : Int32} {a2 : Int32} {a3 : Int32} {a4 : Int32} {fl : Nat → Bool} {n1 n2 : Nat} {p q : Bool} {ad : Nat → Nat} {I : mmI} {J : mmJ} {Q : mmQ} (h : (((I 46 32) ≤ a4 → mm_w Q (mm_wc d) bk_242 172 [some (.ref 46), some (.int a1), some (.int a2), none, none] [] ((fl, n1, n2, p, q, ad), I, J)) ∧ (¬ (I 46 32) ≤ a4 → (vp_in a3 16384 ∧ (((I 46 35) ≤ (I 58 a3.toNatClampNeg) → mm_w Q (mm_wc d) bk_242 172 [some (.ref 46), some (.int a1), some (.int a2), none, none] [] ((fl, n1, n2, p, q, ad), I, J)) ∧ (¬ (I 46 35) ≤ (I 58 a3.toNatClampNeg) → (vp_in a3 16384 ∧ ((¬ (I 60 a3.toNatClampNeg) = (nI 0) → mm_w Q (mm_wc d) bk_242 172 [some (.ref 46), some (.int a1), some (.int a2), none, none] [] ((fl, n1, n2, p, q, ad), I, J)) ∧ ((I 60 a3.toNatClampNeg) = (nI 0) → (vp_in a4 320 ∧ mm_wc d 238 [.ref 46, .int a3, .int (I 57 a4.toNatClampNeg)] ((fl, 0, 0, p, q, ad), I, J) (fun v τ => ∃ r1 I1 J1, v = some (.int r1) ∧ τ = ((fl, 0, 0, p, q, ad), I1, J1) ∧ mm_wc d 243 [.ref 46, .int a3, .int r1] ((fl, 0, 0, p, q, ad), I1, J1) (fun v τ => ∃ r2 I2 J2, v = some (.int r2) ∧ τ = ((fl, 0, 0, p, q, ad), I2, J2) ∧ ((r2 = 0 ∨ r2 = 1) ∧ (vp_in a3 16384 ∧ mm_w Q (mm_wc d) bk_242 112 [some (.ref 46), some (.int a1), some (.int a2), some (.int a3), some (.int (a4 + (nI 1)))] [] ((fl, n1, n2, p, q, ad), (mm_up I2 60 a3.toNatClampNeg r2), J2))))))))))))))) : mm_w Q (mm_wc (d)) bk_242 112 [some (.ref 46), some (.int a1), some (.int a2), some (.int a3), some (.int a4)] [] ((fl, n1, n2, p, q, ad), I, J) := by
  refine mm_go [15, 67, 107, 108, 112, 172, 185, 188] 80 ?_
  show ((I 46 32) ≤ a4 → _) ∧ (¬ (I 46 32) ≤ a4 → _)
  refine ⟨fun c0 => ?_, fun c0 => ?_⟩
  · exact (h.1 c0)
  · show mm_b _ _ _ _ _ [some (.ref 46), some (.int a1), some (.int a2), some (.int a3), some (.int a4)] [] ((fl, n1, n2, p, q, ad), I, J)
    show vp_in a3 16384 ∧ _
    refine ⟨(h.2 c0).1, ?_⟩
    show mm_b _ _ _ _ _ [some (.ref 46), some (.int a1), some (.int a2), some (.int a3), some (.int a4)] [.int (I 58 a3.toNatClampNeg)] ((fl, n1, n2, p, q, ad), I, J)
    show ((I 46 35) ≤ (I 58 a3.toNatClampNeg) → _) ∧ (¬ (I 46 35) ≤ (I 58 a3.toNatClampNeg) → _)
    refine ⟨fun c1 => ?_, fun c1 => ?_⟩
    · exact ((h.2 c0).2.1 c1)
    · show mm_b _ _ _ _ _ [some (.ref 46), some (.int a1), some (.int a2), some (.int a3), some (.int a4)] [] ((fl, n1, n2, p, q, ad), I, J)
      show vp_in a3 16384 ∧ _
      refine ⟨((h.2 c0).2.2 c1).1, ?_⟩
      show mm_b _ _ _ _ _ [some (.ref 46), some (.int a1), some (.int a2), some (.int a3), some (.int a4)] [.int (I 60 a3.toNatClampNeg)] ((fl, n1, n2, p, q, ad), I, J)
      show (¬ (I 60 a3.toNatClampNeg) = (nI 0) → _) ∧ ((I 60 a3.toNatClampNeg) = (nI 0) → _)
      refine ⟨fun c2 => ?_, fun c2 => ?_⟩
      · exact (((h.2 c0).2.2 c1).2.1 c2)
      · show mm_b _ _ _ _ _ [some (.ref 46), some (.int a1), some (.int a2), some (.int a3), some (.int a4)] [] ((fl, n1, n2, p, q, ad), I, J)
        show vp_in a4 320 ∧ _
        refine ⟨(((h.2 c0).2.2 c1).2.2 c2).1, ?_⟩
        show mm_b _ _ _ _ _ [some (.ref 46), some (.int a1), some (.int a2), some (.int a3), some (.int a4)] [.int (I 57 a4.toNatClampNeg), .int a3, .ref 46, .int a3, .ref 46, .int a3, .ref 60] ((fl, n1, n2, p, q, ad), I, J)
        show mm_wc d 238 [.ref 46, .int a3, .int (I 57 a4.toNatClampNeg)] ((fl, 0, 0, p, q, ad), I, J) _
        refine mm_wcm ((((h.2 c0).2.2 c1).2.2 c2).2) ?_
        rintro v τ ⟨r1, I1, J1, rfl, rfl, h1⟩
        refine mm_r1' ⟨rfl, ?_⟩
        show mm_b _ _ _ _ _ [some (.ref 46), some (.int a1), some (.int a2), some (.int a3), some (.int a4)] [.int r1, .int a3, .ref 46, .int a3, .ref 60] ((fl, n1, n2, p, q, ad), I1, J1)
        show mm_wc d 243 [.ref 46, .int a3, .int r1] ((fl, 0, 0, p, q, ad), I1, J1) _
        refine mm_wcm h1 ?_
        rintro v τ ⟨r2, I2, J2, rfl, rfl, h2⟩
        refine mm_r1' ⟨rfl, ?_⟩
        show mm_b _ _ _ _ _ [some (.ref 46), some (.int a1), some (.int a2), some (.int a3), some (.int a4)] [.int r2, .int a3, .ref 60] ((fl, n1, n2, p, q, ad), I2, J2)
        show (r2 = 0 ∨ r2 = 1) ∧ _
        refine ⟨h2.1, ?_⟩
        show vp_in a3 16384 ∧ _
        refine ⟨h2.2.1, ?_⟩
        exact h2.2.2
theorem fx_242k_172 {d : Nat} {a1 : Int32} {a2 : Int32} {fl : Nat → Bool} {n1 n2 : Nat} {p q : Bool} {ad : Nat → Nat} {I : mmI} {J : mmJ} {Q : mmQ} (h : mm_w Q (mm_wc d) bk_242 67 [some (.ref 46), some (.int a1), some (.int (a2 + (-1))), none, none] [] ((fl, n1, n2, p, q, ad), I, J)) : mm_w Q (mm_wc (d)) bk_242 172 [some (.ref 46), some (.int a1), some (.int a2), none, none] [] ((fl, n1, n2, p, q, ad), I, J) := by
  refine mm_go [15, 67, 107, 108, 112, 172, 185, 188] 80 ?_
  exact h
/- 193 ThreeBreathsModel candleLine -/
theorem fx_193k {d : Nat} {fl : Nat → Bool} {n1 n2 : Nat} {p q : Bool} {ad : Nat → Nat} {I : mmI} {J : mmJ} {Q : mmQ} (h : (((I 46 13) = (nI 0) → mm_wc d 183 [.ref 46, .int (I 50 3)] ((fl, 0, 0, p, q, ad), I, J) (fun v τ => ∃ I1 J1, v = none ∧ τ = ((fl, 0, 0, p, q, ad), I1, J1) ∧ (((I1 46 13) = (nI 0) → mm_wc d 192 [.ref 46, .int ((nI 13) + (I 50 3)), .int ((nI 24) + (I 50 3))] ((fl, 0, 0, p, q, ad), I1, J1) (fun v τ => ∃ I2 J2, v = none ∧ τ = ((fl, 0, 0, p, q, ad), I2, J2) ∧ (((I2 46 13) = (nI 0) → mm_wc d 178 [.ref 46, .ref 109] ((fl, 0, 0, p, q, ad), I2, J2) (fun v τ => ∃ r3 I3 J3, v = some (.int r3) ∧ τ = ((fl, 0, 0, p, q, ad), I3, J3) ∧ ((r3 = (nI 0) → mm_wc d 178 [.ref 46, .ref 110] ((fl, 0, 0, p, q, ad), I3, J3) (fun v τ => ∃ r4 I4 J4, v = some (.int r4) ∧ τ = ((fl, 0, 0, p, q, ad), I4, J4) ∧ ((r4 = (nI 0) → mm_wc d 178 [.ref 46, .ref 111] ((fl, 0, 0, p, q, ad), I4, J4) (fun v τ => ∃ r5 I5 J5, v = some (.int r5) ∧ τ = ((fl, 0, 0, p, q, ad), I5, J5) ∧ ((r5 = (nI 0) → mm_wc d 178 [.ref 46, .ref 112] ((fl, 0, 0, p, q, ad), I5, J5) (fun v τ => ∃ r6 I6 J6, v = some (.int r6) ∧ τ = ((fl, 0, 0, p, q, ad), I6, J6) ∧ ((r6 = (nI 0) → mm_w Q (mm_wc d) bk_193 103 [some (.ref 46), some (.int (I 50 3)), none, none, none] [.int (-1)] ((fl, n1, n2, p, q, ad), I6, J6)) ∧ (¬ r6 = (nI 0) → mm_w Q (mm_wc d) bk_193 103 [some (.ref 46), some (.int (I 50 3)), none, none, none] [.int (nI 3)] ((fl, n1, n2, p, q, ad), I6, J6))))) ∧ (¬ r5 = (nI 0) → mm_w Q (mm_wc d) bk_193 103 [some (.ref 46), some (.int (I 50 3)), none, none, none] [.int (nI 2)] ((fl, n1, n2, p, q, ad), I5, J5))))) ∧ (¬ r4 = (nI 0) → mm_w Q (mm_wc d) bk_193 103 [some (.ref 46), some (.int (I 50 3)), none, none, none] [.int (nI 1)] ((fl, n1, n2, p, q, ad), I4, J4))))) ∧ (¬ r3 = (nI 0) → mm_w Q (mm_wc d) bk_193 103 [some (.ref 46), some (.int (I 50 3)), none, none, none] [.int (nI 0)] ((fl, n1, n2, p, q, ad), I3, J3))))) ∧ (¬ (I2 46 13) = (nI 0) → Q none ((fl, n1, n2, p, q, ad), I2, J2))))) ∧ (¬ (I1 46 13) = (nI 0) → Q none ((fl, n1, n2, p, q, ad), I1, J1))))) ∧ (¬ (I 46 13) = (nI 0) → Q none ((fl, n1, n2, p, q, ad), I, J)))) : mm_wc (d + 1) 193 [.ref 46] ((fl, n1, n2, p, q, ad), I, J) Q := by
  refine mm_call (c := 193) rfl rfl ?_
  refine mm_go [103, 117, 122, 148, 175] 80 ?_
  show ((I 46 13) = (nI 0) → _) ∧ (¬ (I 46 13) = (nI 0) → _)
  refine ⟨fun c0 => ?_, fun c0 => ?_⟩
  · show mm_u _ _ _ _ _ _ [some (.ref 46), none, none, none, none] [] ((fl, n1, n2, p, q, ad), I, J)
    show (vp_in (nI 3) 279) ∧ _
    refine ⟨(mm_inl (by decide)), ?_⟩
    show mm_b _ _ _ _ _ [some (.ref 46), none, none, none, none] [.int (I 50 3)] ((fl, n1, n2, p, q, ad), I, J)
    show mm_wc d 183 [.ref 46, .int (I 50 3)] ((fl, 0, 0, p, q, ad), I, J) _
    refine mm_wcm (h.1 c0) ?_
    rintro v τ ⟨I1, J1, rfl, rfl, h1⟩
    refine mm_r0' ⟨rfl, ?_⟩
    show mm_b _ _ _ _ _ [some (.ref 46), some (.int (I 50 3)), none, none, none] [] ((fl, n1, n2, p, q, ad), I1, J1)
    show ((I1 46 13) = (nI 0) → _) ∧ (¬ (I1 46 13) = (nI 0) → _)
    refine ⟨fun c1 => ?_, fun c1 => ?_⟩
    · show mm_u _ _ _ _ _ _ [some (.ref 46), some (.int (I 50 3)), none, none, none] [] ((fl, n1, n2, p, q, ad), I1, J1)
      show mm_wc d 192 [.ref 46, .int ((nI 13) + (I 50 3)), .int ((nI 24) + (I 50 3))] ((fl, 0, 0, p, q, ad), I1, J1) _
      refine mm_wcm (h1.1 c1) ?_
      rintro v τ ⟨I2, J2, rfl, rfl, h2⟩
      refine mm_r0' ⟨rfl, ?_⟩
      show mm_b _ _ _ _ _ [some (.ref 46), some (.int (I 50 3)), none, none, none] [] ((fl, n1, n2, p, q, ad), I2, J2)
      show ((I2 46 13) = (nI 0) → _) ∧ (¬ (I2 46 13) = (nI 0) → _)
      refine ⟨fun c2 => ?_, fun c2 => ?_⟩
      · show mm_u _ _ _ _ _ _ [some (.ref 46), some (.int (I 50 3)), none, none, none] [] ((fl, n1, n2, p, q, ad), I2, J2)
        show mm_wc d 178 [.ref 46, .ref 109] ((fl, 0, 0, p, q, ad), I2, J2) _
        refine mm_wcm (h2.1 c2) ?_
        rintro v τ ⟨r3, I3, J3, rfl, rfl, h3⟩
        refine mm_r1' ⟨rfl, ?_⟩
        show mm_b _ _ _ _ _ [some (.ref 46), some (.int (I 50 3)), none, none, none] [.int r3] ((fl, n1, n2, p, q, ad), I3, J3)
        show (r3 = (nI 0) → _) ∧ (¬ r3 = (nI 0) → _)
        refine ⟨fun c3 => ?_, fun c3 => ?_⟩
        · show mm_u _ _ _ _ _ _ [some (.ref 46), some (.int (I 50 3)), none, none, none] [] ((fl, n1, n2, p, q, ad), I3, J3)
          show mm_wc d 178 [.ref 46, .ref 110] ((fl, 0, 0, p, q, ad), I3, J3) _
          refine mm_wcm (h3.1 c3) ?_
          rintro v τ ⟨r4, I4, J4, rfl, rfl, h4⟩
          refine mm_r1' ⟨rfl, ?_⟩
          show mm_b _ _ _ _ _ [some (.ref 46), some (.int (I 50 3)), none, none, none] [.int r4] ((fl, n1, n2, p, q, ad), I4, J4)
          show (r4 = (nI 0) → _) ∧ (¬ r4 = (nI 0) → _)
          refine ⟨fun c4 => ?_, fun c4 => ?_⟩
          · show mm_u _ _ _ _ _ _ [some (.ref 46), some (.int (I 50 3)), none, none, none] [] ((fl, n1, n2, p, q, ad), I4, J4)
            show mm_wc d 178 [.ref 46, .ref 111] ((fl, 0, 0, p, q, ad), I4, J4) _
            refine mm_wcm (h4.1 c4) ?_
            rintro v τ ⟨r5, I5, J5, rfl, rfl, h5⟩
            refine mm_r1' ⟨rfl, ?_⟩
            show mm_b _ _ _ _ _ [some (.ref 46), some (.int (I 50 3)), none, none, none] [.int r5] ((fl, n1, n2, p, q, ad), I5, J5)
            show (r5 = (nI 0) → _) ∧ (¬ r5 = (nI 0) → _)
            refine ⟨fun c5 => ?_, fun c5 => ?_⟩
            · show mm_u _ _ _ _ _ _ [some (.ref 46), some (.int (I 50 3)), none, none, none] [] ((fl, n1, n2, p, q, ad), I5, J5)
              show mm_wc d 178 [.ref 46, .ref 112] ((fl, 0, 0, p, q, ad), I5, J5) _
              refine mm_wcm (h5.1 c5) ?_
              rintro v τ ⟨r6, I6, J6, rfl, rfl, h6⟩
              refine mm_r1' ⟨rfl, ?_⟩
              show mm_b _ _ _ _ _ [some (.ref 46), some (.int (I 50 3)), none, none, none] [.int r6] ((fl, n1, n2, p, q, ad), I6, J6)
              show (r6 = (nI 0) → _) ∧ (¬ r6 = (nI 0) → _)
              refine ⟨fun c6 => ?_, fun c6 => ?_⟩
              · exact (h6.1 c6)
              · exact (h6.2 c6)
            · exact (h5.2 c5)
          · exact (h4.2 c4)
        · exact (h3.2 c3)
      · exact (h2.2 c2)
    · exact (h1.2 c1)
  · exact (h.2 c0)
theorem fx_193k_103 {d : Nat} {a1 : Int32} {s0 : Int32} {fl : Nat → Bool} {n1 n2 : Nat} {p q : Bool} {ad : Nat → Nat} {I : mmI} {J : mmJ} {Q : mmQ} (h : (((nI 0) ≤ s0 → mm_w Q (mm_wc d) bk_193 117 [some (.ref 46), some (.int a1), some (.int s0), none, none] [] ((fl, n1, n2, p, q, ad), I, J)) ∧ (¬ (nI 0) ≤ s0 → mm_wc d 177 [.ref 46, .int (nI 1), .int (I 46 4)] ((fl, 0, 0, p, q, ad), I, J) (fun v τ => ∃ I1 J1, v = none ∧ τ = ((fl, 0, 0, p, q, ad), I1, J1) ∧ mm_w Q (mm_wc d) bk_193 117 [some (.ref 46), some (.int a1), some (.int s0), none, none] [] ((fl, n1, n2, p, q, ad), I1, J1))))) : mm_w Q (mm_wc (d)) bk_193 103 [some (.ref 46), some (.int a1), none, none, none] [.int s0] ((fl, n1, n2, p, q, ad), I, J) := by
  refine mm_go [103, 117, 122, 148, 175] 80 ?_
  show ((nI 0) ≤ s0 → _) ∧ (¬ (nI 0) ≤ s0 → _)
  refine ⟨fun c0 => ?_, fun c0 => ?_⟩
  · exact (h.1 c0)
  · show mm_b _ _ _ _ _ [some (.ref 46), some (.int a1), some (.int s0), none, none] [] ((fl, n1, n2, p, q, ad), I, J)
    show mm_wc d 177 [.ref 46, .int (nI 1), .int (I 46 4)] ((fl, 0, 0, p, q, ad), I, J) _
    refine mm_wcm (h.2 c0) ?_
    rintro v τ ⟨I1, J1, rfl, rfl, h1⟩
    refine mm_r0' ⟨rfl, ?_⟩
    exact h1
theorem fx_193k_117 {d : Nat} {a1 : Int32} {a2 : Int32} {fl : Nat → Bool} {n1 n2 : Nat} {p q : Bool} {ad : Nat → Nat} {I : mmI} {J : mmJ} {Q : mmQ} (h : mm_w Q (mm_wc d) bk_193 122 [some (.ref 46), some (.int a1), some (.int a2), some (.int (nI 0)), some (.int (nI 0))] [] ((fl, n1, n2, p, q, ad), I, J)) : mm_w Q (mm_wc (d)) bk_193 117 [some (.ref 46), some (.int a1), some (.int a2), none, none] [] ((fl, n1, n2, p, q, ad), I, J) := by
  refine mm_go [103, 117, 122, 148, 175] 80 ?_
  exact h
theorem fx_193k_122 {d : Nat} {a1 : Int32} {a2 : Int32} {a3 : Int32} {a4 : Int32} {fl : Nat → Bool} {n1 n2 : Nat} {p q : Bool} {ad : Nat → Nat} {I : mmI} {J : mmJ} {Q : mmQ} (h : ((a1 ≤ a4 → ((¬ a2 = (nI 3) → mm_w Q (mm_wc d) bk_193 175 [some (.ref 46), some (.int a1), some (.int a2), none, none] [] ((fl, n1, n2, p, q, ad), I, J)) ∧ (a2 = (nI 3) → ((¬ a3 = (nI 3) → mm_w Q (mm_wc d) bk_193 175 [some (.ref 46), some (.int a1), some (.int a2), none, none] [] ((fl, n1, n2, p, q, ad), I, J)) ∧ (a3 = (nI 3) → mm_wc d 177 [.ref 46, .int (nI 5), .int (I 46 4)] ((fl, 0, 0, p, q, ad), I, J) (fun v τ => ∃ I1 J1, v = none ∧ τ = ((fl, 0, 0, p, q, ad), I1, J1) ∧ mm_w Q (mm_wc d) bk_193 175 [some (.ref 46), some (.int a1), some (.int a2), none, none] [] ((fl, n1, n2, p, q, ad), I1, J1))))))) ∧ (¬ a1 ≤ a4 → (vp_in ((nI 35) + a4) 279 ∧ ((¬ (I 50 (((nI 35) + a4)).toNatClampNeg) = (nI 3) → mm_w Q (mm_wc d) bk_193 148 [some (.ref 46), some (.int a1), some (.int a2), none, some (.int a4)] [.int (nI 0), .int a3] ((fl, n1, n2, p, q, ad), I, J)) ∧ ((I 50 (((nI 35) + a4)).toNatClampNeg) = (nI 3) → mm_w Q (mm_wc d) bk_193 148 [some (.ref 46), some (.int a1), some (.int a2), none, some (.int a4)] [.int (nI 1), .int a3] ((fl, n1, n2, p, q, ad), I, J))))))) : mm_w Q (mm_wc (d)) bk_193 122 [some (.ref 46), some (.int a1), some (.int a2), some (.int a3), some (.int a4)] [] ((fl, n1, n2, p, q, ad), I, J) := by
  refine mm_go [103, 117, 122, 148, 175] 80 ?_
  show (a1 ≤ a4 → _) ∧ (¬ a1 ≤ a4 → _)
  refine ⟨fun c0 => ?_, fun c0 => ?_⟩
  · show mm_u _ _ _ _ _ _ [some (.ref 46), some (.int a1), some (.int a2), some (.int a3), some (.int a4)] [] ((fl, n1, n2, p, q, ad), I, J)
    show (¬ a2 = (nI 3) → _) ∧ (a2 = (nI 3) → _)
    refine ⟨fun c1 => ?_, fun c1 => ?_⟩
    · exact ((h.1 c0).1 c1)
    · show mm_b _ _ _ _ _ [some (.ref 46), some (.int a1), some (.int a2), some (.int a3), none] [] ((fl, n1, n2, p, q, ad), I, J)
      show (¬ a3 = (nI 3) → _) ∧ (a3 = (nI 3) → _)
      refine ⟨fun c2 => ?_, fun c2 => ?_⟩
      · exact (((h.1 c0).2 c1).1 c2)
      · show mm_b _ _ _ _ _ [some (.ref 46), some (.int a1), some (.int a2), some (.int a3), none] [] ((fl, n1, n2, p, q, ad), I, J)
        show mm_wc d 177 [.ref 46, .int (nI 5), .int (I 46 4)] ((fl, 0, 0, p, q, ad), I, J) _
        refine mm_wcm (((h.1 c0).2 c1).2 c2) ?_
        rintro v τ ⟨I1, J1, rfl, rfl, h1⟩
        refine mm_r0' ⟨rfl, ?_⟩
        exact h1
  · show mm_b _ _ _ _ _ [some (.ref 46), some (.int a1), some (.int a2), some (.int a3), some (.int a4)] [] ((fl, n1, n2, p, q, ad), I, J)
    show vp_in ((nI 35) + a4) 279 ∧ _
    refine ⟨(h.2 c0).1, ?_⟩
    show mm_b _ _ _ _ _ [some (.ref 46), some (.int a1), some (.int a2), some (.int a3), some (.int a4)] [.int (I 50 (((nI 35) + a4)).toNatClampNeg), .int a3] ((fl, n1, n2, p, q, ad), I, J)
    show (¬ (I 50 (((nI 35) + a4)).toNatClampNeg) = (nI 3) → _) ∧ ((I 50 (((nI 35) + a4)).toNatClampNeg) = (nI 3) → _)
    refine ⟨fun c1 => ?_, fun c1 => ?_⟩
    · exact ((h.2 c0).2.1 c1)
    · exact ((h.2 c0).2.2 c1)
theorem fx_193k_175 {d : Nat} {a1 : Int32} {a2 : Int32} {fl : Nat → Bool} {n1 n2 : Nat} {p q : Bool} {ad : Nat → Nat} {I : mmI} {J : mmJ} {Q : mmQ} (h : (((I 46 13) = (nI 0) → mm_wc d 176 [.ref 46] ((fl, 0, 0, p, q, ad), I, J) (fun v τ => ∃ I1 J1, v = none ∧ τ = ((fl, 0, 0, p, q, ad), I1, J1) ∧ (vp_in ((nI 35) + a1) 279 ∧ Q none ((fl, n1, n2, p, q, ad), (mm_up (mm_up I1 50 (((nI 35) + a1)).toNatClampNeg a2) 50 3 (((mm_up I1 50 (((nI 35) + a1)).toNatClampNeg a2) 50 3) + (nI 1))), J1)))) ∧ (¬ (I 46 13) = (nI 0) → Q none ((fl, n1, n2, p, q, ad), I, J)))) : mm_w Q (mm_wc (d)) bk_193 175 [some (.ref 46), some (.int a1), some (.int a2), none, none] [] ((fl, n1, n2, p, q, ad), I, J) := by
  refine mm_go [103, 117, 122, 148, 175] 80 ?_
  show ((I 46 13) = (nI 0) → _) ∧ (¬ (I 46 13) = (nI 0) → _)
  refine ⟨fun c0 => ?_, fun c0 => ?_⟩
  · show mm_u _ _ _ _ _ _ [some (.ref 46), some (.int a1), some (.int a2), none, none] [] ((fl, n1, n2, p, q, ad), I, J)
    show mm_wc d 176 [.ref 46] ((fl, 0, 0, p, q, ad), I, J) _
    refine mm_wcm (h.1 c0) ?_
    rintro v τ ⟨I1, J1, rfl, rfl, h1⟩
    refine mm_r0' ⟨rfl, ?_⟩
    show mm_b _ _ _ _ _ [some (.ref 46), some (.int a1), some (.int a2), none, none] [] ((fl, n1, n2, p, q, ad), I1, J1)
    show vp_in ((nI 35) + a1) 279 ∧ _
    refine ⟨h1.1, ?_⟩
    show mm_b _ _ _ _ _ [some (.ref 46), some (.int a1), some (.int a2), none, none] [] ((fl, n1, n2, p, q, ad), (mm_up I1 50 (((nI 35) + a1)).toNatClampNeg a2), J1)
    show (vp_in (nI 3) 279) ∧ _
    refine ⟨(mm_inl (by decide)), ?_⟩
    show mm_b _ _ _ _ _ [some (.ref 46), some (.int a1), some (.int a2), none, none] [.int ((mm_up I1 50 (((nI 35) + a1)).toNatClampNeg a2) 50 3), .int (nI 3), .ref 50] ((fl, n1, n2, p, q, ad), (mm_up I1 50 (((nI 35) + a1)).toNatClampNeg a2), J1)
    show (vp_in (nI 3) 279) ∧ _
    refine ⟨(mm_inl (by decide)), ?_⟩
    exact h1.2
  · exact (h.2 c0)
theorem fx_193k_148 {d : Nat} {a1 : Int32} {a2 : Int32} {a4 : Int32} {s0 : Int32} {s1 : Int32} {fl : Nat → Bool} {n1 n2 : Nat} {p q : Bool} {ad : Nat → Nat} {I : mmI} {J : mmJ} {Q : mmQ} (h : mm_w Q (mm_wc d) bk_193 122 [some (.ref 46), some (.int a1), some (.int a2), some (.int (s1 + s0)), some (.int (a4 + (nI 1)))] [] ((fl, n1, n2, p, q, ad), I, J)) : mm_w Q (mm_wc (d)) bk_193 148 [some (.ref 46), some (.int a1), some (.int a2), none, some (.int a4)] [.int s0, .int s1] ((fl, n1, n2, p, q, ad), I, J) := by
  refine mm_go [103, 117, 122, 148, 175] 80 ?_
  exact h
/- 176 ThreeBreathsModel next -/
theorem fx_176k {d : Nat} {fl : Nat → Bool} {n1 n2 : Nat} {p q : Bool} {ad : Nat → Nat} {I : mmI} {J : mmJ} {Q : mmQ} (h : mm_w Q (mm_wc d) bk_176 5 [some (.ref 46), some (.int (I 46 5)), none, none] [] ((fl, n1, n2, p, q, ad), I, J)) : mm_wc (d + 1) 176 [.ref 46] ((fl, n1, n2, p, q, ad), I, J) Q := by
  refine mm_call (c := 176) rfl rfl ?_
  refine mm_go [5, 67, 101, 137, 152, 188, 213, 239, 244, 247] 80 ?_
  exact h
theorem fx_176k_5 {d : Nat} {a1 : Int32} {fl : Nat → Bool} {n1 n2 : Nat} {p q : Bool} {ad : Nat → Nat} {I : mmI} {J : mmJ} {Q : mmQ} (h : mm_wc d 173 [.ref 46, .int a1] ((fl, 0, 0, p, q, ad), I, J) (fun v τ => ∃ r1 I1 J1, v = some (.int r1) ∧ τ = ((fl, 0, 0, p, q, ad), I1, J1) ∧ ((¬ r1 = (nI 32) → mm_wc d 173 [.ref 46, .int a1] ((fl, 0, 0, p, q, ad), (mm_up I1 46 4 a1), J1) (fun v τ => ∃ r2 I2 J2, v = some (.int r2) ∧ τ = ((fl, 0, 0, p, q, ad), I2, J2) ∧ ((¬ r2 = (-1) → mm_wc d 174 [.int r2] ((fl, 0, 0, p, q, ad), (mm_up (mm_up I2 46 8 (nI 0)) 46 7 (nI 0)), J2) (fun v τ => ∃ r3 I3 J3, v = some (.int r3) ∧ τ = ((fl, 0, 0, p, q, ad), I3, J3) ∧ ((r3 = (nI 0) → mm_wc d 175 [.int r2] ((fl, 0, 0, p, q, ad), I3, J3) (fun v τ => ∃ r4 I4 J4, v = some (.int r4) ∧ τ = ((fl, 0, 0, p, q, ad), I4, J4) ∧ ((r4 = (nI 0) → ((r2 = (nI 59) → mm_w Q (mm_wc d) bk_176 239 [none, none, some (.int r2), none] [.ref 46] ((fl, n1, n2, p, q, ad), (mm_up I4 46 5 (a1 + (nI 1))), J4)) ∧ (¬ r2 = (nI 59) → ((¬ r2 = (nI 44) → mm_w Q (mm_wc d) bk_176 244 [none, none, none, none] [.int (nI 1), .ref 46] ((fl, n1, n2, p, q, ad), (mm_up I4 46 5 (a1 + (nI 1))), J4)) ∧ (r2 = (nI 44) → mm_w Q (mm_wc d) bk_176 239 [none, none, some (.int r2), none] [.ref 46] ((fl, n1, n2, p, q, ad), (mm_up I4 46 5 (a1 + (nI 1))), J4)))))) ∧ (¬ r4 = (nI 0) → mm_w Q (mm_wc d) bk_176 152 [some (.ref 46), some (.int a1), none, some (.int (nI 0))] [] ((fl, n1, n2, p, q, ad), I4, J4))))) ∧ (¬ r3 = (nI 0) → mm_w Q (mm_wc d) bk_176 67 [some (.ref 46), some (.int a1), none, none] [] ((fl, n1, n2, p, q, ad), I3, J3))))) ∧ (r2 = (-1) → mm_w Q (mm_wc d) bk_176 247 [none, none, none, none] [] ((fl, n1, n2, p, q, ad), (mm_up (mm_up (mm_up (mm_up I2 46 8 (nI 0)) 46 7 (nI 0)) 46 6 (nI 0)) 46 5 a1), J2))))) ∧ (r1 = (nI 32) → mm_w Q (mm_wc d) bk_176 5 [some (.ref 46), some (.int (a1 + (nI 1))), none, none] [] ((fl, n1, n2, p, q, ad), I1, J1))))) : mm_w Q (mm_wc (d)) bk_176 5 [some (.ref 46), some (.int a1), none, none] [] ((fl, n1, n2, p, q, ad), I, J) := by
  refine mm_go [5, 67, 101, 137, 152, 188, 213, 239, 244, 247] 80 ?_
  show mm_wc d 173 [.ref 46, .int a1] ((fl, 0, 0, p, q, ad), I, J) _
  refine mm_wcm h ?_
  rintro v τ ⟨r1, I1, J1, rfl, rfl, h1⟩
  refine mm_r1' ⟨rfl, ?_⟩
  show mm_b _ _ _ _ _ [some (.ref 46), some (.int a1), none, none] [.int r1] ((fl, n1, n2, p, q, ad), I1, J1)
  show (¬ r1 = (nI 32) → _) ∧ (r1 = (nI 32) → _)
  refine ⟨fun c0 => ?_, fun c0 => ?_⟩
  · show mm_u _ _ _ _ _ _ [some (.ref 46), some (.int a1), none, none] [] ((fl, n1, n2, p, q, ad), I1, J1)
    show mm_wc d 173 [.ref 46, .int a1] ((fl, 0, 0, p, q, ad), (mm_up I1 46 4 a1), J1) _
    refine mm_wcm (h1.1 c0) ?_
    rintro v τ ⟨r2, I2, J2, rfl, rfl, h2⟩
    refine mm_r1' ⟨rfl, ?_⟩
    show mm_b _ _ _ _ _ [some (.ref 46), some (.int a1), none, none] [.int r2] ((fl, n1, n2, p, q, ad), I2, J2)
    show (¬ r2 = (-1) → _) ∧ (r2 = (-1) → _)
    refine ⟨fun c1 => ?_, fun c1 => ?_⟩
    · show mm_u _ _ _ _ _ _ [some (.ref 46), some (.int a1), some (.int r2), none] [] ((fl, n1, n2, p, q, ad), (mm_up (mm_up I2 46 8 (nI 0)) 46 7 (nI 0)), J2)
      show mm_wc d 174 [.int r2] ((fl, 0, 0, p, q, ad), (mm_up (mm_up I2 46 8 (nI 0)) 46 7 (nI 0)), J2) _
      refine mm_wcm (h2.1 c1) ?_
      rintro v τ ⟨r3, I3, J3, rfl, rfl, h3⟩
      refine mm_r1' ⟨rfl, ?_⟩
      show mm_b _ _ _ _ _ [some (.ref 46), some (.int a1), some (.int r2), none] [.int r3] ((fl, n1, n2, p, q, ad), I3, J3)
      show (r3 = (nI 0) → _) ∧ (¬ r3 = (nI 0) → _)
      refine ⟨fun c2 => ?_, fun c2 => ?_⟩
      · show mm_u _ _ _ _ _ _ [some (.ref 46), some (.int a1), some (.int r2), none] [] ((fl, n1, n2, p, q, ad), I3, J3)
        show mm_wc d 175 [.int r2] ((fl, 0, 0, p, q, ad), I3, J3) _
        refine mm_wcm (h3.1 c2) ?_
        rintro v τ ⟨r4, I4, J4, rfl, rfl, h4⟩
        refine mm_r1' ⟨rfl, ?_⟩
        show mm_b _ _ _ _ _ [some (.ref 46), some (.int a1), some (.int r2), none] [.int r4] ((fl, n1, n2, p, q, ad), I4, J4)
        show (r4 = (nI 0) → _) ∧ (¬ r4 = (nI 0) → _)
        refine ⟨fun c3 => ?_, fun c3 => ?_⟩
        · show mm_u _ _ _ _ _ _ [some (.ref 46), some (.int a1), some (.int r2), none] [] ((fl, n1, n2, p, q, ad), I4, J4)
          show (r2 = (nI 59) → _) ∧ (¬ r2 = (nI 59) → _)
          refine ⟨fun c4 => ?_, fun c4 => ?_⟩
          · exact ((h4.1 c3).1 c4)
          · show mm_b _ _ _ _ _ [some (.ref 46), some (.int a1), some (.int r2), none] [.ref 46] ((fl, n1, n2, p, q, ad), (mm_up I4 46 5 (a1 + (nI 1))), J4)
            show (¬ r2 = (nI 44) → _) ∧ (r2 = (nI 44) → _)
            refine ⟨fun c5 => ?_, fun c5 => ?_⟩
            · exact (((h4.1 c3).2 c4).1 c5)
            · exact (((h4.1 c3).2 c4).2 c5)
        · exact (h4.2 c3)
      · exact (h3.2 c2)
    · exact (h2.2 c1)
  · exact (h1.2 c0)
theorem fx_176k_239 {d : Nat} {a2 : Int32} {fl : Nat → Bool} {n1 n2 : Nat} {p q : Bool} {ad : Nat → Nat} {I : mmI} {J : mmJ} {Q : mmQ} (h : mm_w Q (mm_wc d) bk_176 244 [none, none, none, none] [.int a2, .ref 46] ((fl, n1, n2, p, q, ad), I, J)) : mm_w Q (mm_wc (d)) bk_176 239 [none, none, some (.int a2), none] [.ref 46] ((fl, n1, n2, p, q, ad), I, J) := by
  refine mm_go [5, 67, 101, 137, 152, 188, 213, 239, 244, 247] 80 ?_
  exact h
theorem fx_176k_244 {d : Nat} {s0 : Int32} {fl : Nat → Bool} {n1 n2 : Nat} {p q : Bool} {ad : Nat → Nat} {I : mmI} {J : mmJ} {Q : mmQ} (h : mm_w Q (mm_wc d) bk_176 247 [none, none, none, none] [] ((fl, n1, n2, p, q, ad), (mm_up I 46 6 s0), J)) : mm_w Q (mm_wc (d)) bk_176 244 [none, none, none, none] [.int s0, .ref 46] ((fl, n1, n2, p, q, ad), I, J) := by
  refine mm_go [5, 67, 101, 137, 152, 188, 213, 239, 244, 247] 80 ?_
  exact h
theorem fx_176k_152 {d : Nat} {a1 : Int32} {a3 : Int32} {fl : Nat → Bool} {n1 n2 : Nat} {p q : Bool} {ad : Nat → Nat} {I : mmI} {J : mmJ} {Q : mmQ} (h : mm_wc d 173 [.ref 46, .int a1] ((fl, 0, 0, p, q, ad), I, J) (fun v τ => ∃ r1 I1 J1, v = some (.int r1) ∧ τ = ((fl, 0, 0, p, q, ad), I1, J1) ∧ mm_wc d 175 [.int r1] ((fl, 0, 0, p, q, ad), I1, J1) (fun v τ => ∃ r2 I2 J2, v = some (.int r2) ∧ τ = ((fl, 0, 0, p, q, ad), I2, J2) ∧ ((r2 = (nI 0) → ((a3 ≤ (nI 3) → mm_w Q (mm_wc d) bk_176 213 [none, none, none, none] [.int (nI 3), .ref 46] ((fl, n1, n2, p, q, ad), (mm_up I2 46 5 a1), J2)) ∧ (¬ a3 ≤ (nI 3) → mm_w Q (mm_wc d) bk_176 213 [none, none, none, none] [.int (nI 1), .ref 46] ((fl, n1, n2, p, q, ad), (mm_up I2 46 5 a1), J2)))) ∧ (¬ r2 = (nI 0) → (((nI 3) ≤ a3 → mm_w Q (mm_wc d) bk_176 188 [some (.ref 46), some (.int a1), none, some (.int a3)] [] ((fl, n1, n2, p, q, ad), I2, J2)) ∧ (¬ (nI 3) ≤ a3 → mm_wc d 173 [.ref 46, .int a1] ((fl, 0, 0, p, q, ad), I2, J2) (fun v τ => ∃ r3 I3 J3, v = some (.int r3) ∧ τ = ((fl, 0, 0, p, q, ad), I3, J3) ∧ mm_w Q (mm_wc d) bk_176 188 [some (.ref 46), some (.int a1), none, some (.int a3)] [] ((fl, n1, n2, p, q, ad), (mm_up I3 46 7 ((((nI 10) * (I2 46 7)) + r3) - (nI 48))), J3))))))))) : mm_w Q (mm_wc (d)) bk_176 152 [some (.ref 46), some (.int a1), none, some (.int a3)] [] ((fl, n1, n2, p, q, ad), I, J) := by
  refine mm_go [5, 67, 101, 137, 152, 188, 213, 239, 244, 247] 80 ?_
  show mm_wc d 173 [.ref 46, .int a1] ((fl, 0, 0, p, q, ad), I, J) _
  refine mm_wcm h ?_
  rintro v τ ⟨r1, I1, J1, rfl, rfl, h1⟩
  refine mm_r1' ⟨rfl, ?_⟩
  show mm_b _ _ _ _ _ [some (.ref 46), some (.int a1), none, some (.int a3)] [.int r1] ((fl, n1, n2, p, q, ad), I1, J1)
  show mm_wc d 175 [.int r1] ((fl, 0, 0, p, q, ad), I1, J1) _
  refine mm_wcm h1 ?_
  rintro v τ ⟨r2, I2, J2, rfl, rfl, h2⟩
  refine mm_r1' ⟨rfl, ?_⟩
  show mm_b _ _ _ _ _ [some (.ref 46), some (.int a1), none, some (.int a3)] [.int r2] ((fl, n1, n2, p, q, ad), I2, J2)
  show (r2 = (nI 0) → _) ∧ (¬ r2 = (nI 0) → _)
  refine ⟨fun c0 => ?_, fun c0 => ?_⟩
  · show mm_u _ _ _ _ _ _ [some (.ref 46), some (.int a1), none, some (.int a3)] [] ((fl, n1, n2, p, q, ad), I2, J2)
    show (a3 ≤ (nI 3) → _) ∧ (¬ a3 ≤ (nI 3) → _)
    refine ⟨fun c1 => ?_, fun c1 => ?_⟩
    · exact ((h2.1 c0).1 c1)
    · exact ((h2.1 c0).2 c1)
  · show mm_b _ _ _ _ _ [some (.ref 46), some (.int a1), none, some (.int a3)] [] ((fl, n1, n2, p, q, ad), I2, J2)
    show ((nI 3) ≤ a3 → _) ∧ (¬ (nI 3) ≤ a3 → _)
    refine ⟨fun c1 => ?_, fun c1 => ?_⟩
    · exact ((h2.2 c0).1 c1)
    · show mm_b _ _ _ _ _ [some (.ref 46), some (.int a1), none, some (.int a3)] [] ((fl, n1, n2, p, q, ad), I2, J2)
      show mm_wc d 173 [.ref 46, .int a1] ((fl, 0, 0, p, q, ad), I2, J2) _
      refine mm_wcm ((h2.2 c0).2 c1) ?_
      rintro v τ ⟨r3, I3, J3, rfl, rfl, h3⟩
      refine mm_r1' ⟨rfl, ?_⟩
      exact h3
theorem fx_176k_67 {d : Nat} {a1 : Int32} {fl : Nat → Bool} {n1 n2 : Nat} {p q : Bool} {ad : Nat → Nat} {I : mmI} {J : mmJ} {Q : mmQ} (h : mm_wc d 173 [.ref 46, .int a1] ((fl, 0, 0, p, q, ad), I, J) (fun v τ => ∃ r1 I1 J1, v = some (.int r1) ∧ τ = ((fl, 0, 0, p, q, ad), I1, J1) ∧ mm_wc d 174 [.int r1] ((fl, 0, 0, p, q, ad), I1, J1) (fun v τ => ∃ r2 I2 J2, v = some (.int r2) ∧ τ = ((fl, 0, 0, p, q, ad), I2, J2) ∧ ((r2 = (nI 0) → (((I2 46 8) ≤ (nI 8) → mm_w Q (mm_wc d) bk_176 137 [none, none, none, none] [.int (nI 2), .ref 46] ((fl, n1, n2, p, q, ad), (mm_up I2 46 5 a1), J2)) ∧ (¬ (I2 46 8) ≤ (nI 8) → mm_w Q (mm_wc d) bk_176 137 [none, none, none, none] [.int (nI 1), .ref 46] ((fl, n1, n2, p, q, ad), (mm_up I2 46 5 a1), J2)))) ∧ (¬ r2 = (nI 0) → (((nI 8) ≤ (I2 46 8) → mm_w Q (mm_wc d) bk_176 101 [some (.ref 46), some (.int a1), none, none] [] ((fl, n1, n2, p, q, ad), I2, J2)) ∧ (¬ (nI 8) ≤ (I2 46 8) → mm_wc d 173 [.ref 46, .int a1] ((fl, 0, 0, p, q, ad), I2, J2) (fun v τ => ∃ r3 I3 J3, v = some (.int r3) ∧ τ = ((fl, 0, 0, p, q, ad), I3, J3) ∧ (vp_in (I2 46 8) 8 ∧ mm_w Q (mm_wc d) bk_176 101 [some (.ref 46), some (.int a1), none, none] [] ((fl, n1, n2, p, q, ad), (mm_up I3 48 ((I2 46 8)).toNatClampNeg r3), J3)))))))))) : mm_w Q (mm_wc (d)) bk_176 67 [some (.ref 46), some (.int a1), none, none] [] ((fl, n1, n2, p, q, ad), I, J) := by
  refine mm_go [5, 67, 101, 137, 152, 188, 213, 239, 244, 247] 80 ?_
  show mm_wc d 173 [.ref 46, .int a1] ((fl, 0, 0, p, q, ad), I, J) _
  refine mm_wcm h ?_
  rintro v τ ⟨r1, I1, J1, rfl, rfl, h1⟩
  refine mm_r1' ⟨rfl, ?_⟩
  show mm_b _ _ _ _ _ [some (.ref 46), some (.int a1), none, none] [.int r1] ((fl, n1, n2, p, q, ad), I1, J1)
  show mm_wc d 174 [.int r1] ((fl, 0, 0, p, q, ad), I1, J1) _
  refine mm_wcm h1 ?_
  rintro v τ ⟨r2, I2, J2, rfl, rfl, h2⟩
  refine mm_r1' ⟨rfl, ?_⟩
  show mm_b _ _ _ _ _ [some (.ref 46), some (.int a1), none, none] [.int r2] ((fl, n1, n2, p, q, ad), I2, J2)
  show (r2 = (nI 0) → _) ∧ (¬ r2 = (nI 0) → _)
  refine ⟨fun c0 => ?_, fun c0 => ?_⟩
  · show mm_u _ _ _ _ _ _ [some (.ref 46), some (.int a1), none, none] [] ((fl, n1, n2, p, q, ad), I2, J2)
    show ((I2 46 8) ≤ (nI 8) → _) ∧ (¬ (I2 46 8) ≤ (nI 8) → _)
    refine ⟨fun c1 => ?_, fun c1 => ?_⟩
    · exact ((h2.1 c0).1 c1)
    · exact ((h2.1 c0).2 c1)
  · show mm_b _ _ _ _ _ [some (.ref 46), some (.int a1), none, none] [] ((fl, n1, n2, p, q, ad), I2, J2)
    show ((nI 8) ≤ (I2 46 8) → _) ∧ (¬ (nI 8) ≤ (I2 46 8) → _)
    refine ⟨fun c1 => ?_, fun c1 => ?_⟩
    · exact ((h2.2 c0).1 c1)
    · show mm_b _ _ _ _ _ [some (.ref 46), some (.int a1), none, none] [] ((fl, n1, n2, p, q, ad), I2, J2)
      show mm_wc d 173 [.ref 46, .int a1] ((fl, 0, 0, p, q, ad), I2, J2) _
      refine mm_wcm ((h2.2 c0).2 c1) ?_
      rintro v τ ⟨r3, I3, J3, rfl, rfl, h3⟩
      refine mm_r1' ⟨rfl, ?_⟩
      show mm_b _ _ _ _ _ [some (.ref 46), some (.int a1), none, none] [.int r3, .int (I2 46 8), .ref 48] ((fl, n1, n2, p, q, ad), I3, J3)
      show vp_in (I2 46 8) 8 ∧ _
      refine ⟨h3.1, ?_⟩
      exact h3.2
theorem fx_176k_247 {d : Nat} {fl : Nat → Bool} {n1 n2 : Nat} {p q : Bool} {ad : Nat → Nat} {I : mmI} {J : mmJ} {Q : mmQ} (h : Q none ((fl, n1, n2, p, q, ad), I, J)) : mm_w Q (mm_wc (d)) bk_176 247 [none, none, none, none] [] ((fl, n1, n2, p, q, ad), I, J) := by
  refine mm_go [5, 67, 101, 137, 152, 188, 213, 239, 244, 247] 80 ?_
  exact h
theorem fx_176k_213 {d : Nat} {s0 : Int32} {fl : Nat → Bool} {n1 n2 : Nat} {p q : Bool} {ad : Nat → Nat} {I : mmI} {J : mmJ} {Q : mmQ} (h : mm_w Q (mm_wc d) bk_176 247 [none, none, none, none] [] ((fl, n1, n2, p, q, ad), (mm_up I 46 6 s0), J)) : mm_w Q (mm_wc (d)) bk_176 213 [none, none, none, none] [.int s0, .ref 46] ((fl, n1, n2, p, q, ad), I, J) := by
  refine mm_go [5, 67, 101, 137, 152, 188, 213, 239, 244, 247] 80 ?_
  exact h
theorem fx_176k_188 {d : Nat} {a1 : Int32} {a3 : Int32} {fl : Nat → Bool} {n1 n2 : Nat} {p q : Bool} {ad : Nat → Nat} {I : mmI} {J : mmJ} {Q : mmQ} (h : mm_w Q (mm_wc d) bk_176 152 [some (.ref 46), some (.int (a1 + (nI 1))), none, some (.int (a3 + (nI 1)))] [] ((fl, n1, n2, p, q, ad), I, J)) : mm_w Q (mm_wc (d)) bk_176 188 [some (.ref 46), some (.int a1), none, some (.int a3)] [] ((fl, n1, n2, p, q, ad), I, J) := by
  refine mm_go [5, 67, 101, 137, 152, 188, 213, 239, 244, 247] 80 ?_
  exact h
theorem fx_176k_137 {d : Nat} {s0 : Int32} {fl : Nat → Bool} {n1 n2 : Nat} {p q : Bool} {ad : Nat → Nat} {I : mmI} {J : mmJ} {Q : mmQ} (h : mm_w Q (mm_wc d) bk_176 247 [none, none, none, none] [] ((fl, n1, n2, p, q, ad), (mm_up I 46 6 s0), J)) : mm_w Q (mm_wc (d)) bk_176 137 [none, none, none, none] [.int s0, .ref 46] ((fl, n1, n2, p, q, ad), I, J) := by
  refine mm_go [5, 67, 101, 137, 152, 188, 213, 239, 244, 247] 80 ?_
  exact h
theorem fx_176k_101 {d : Nat} {a1 : Int32} {fl : Nat → Bool} {n1 n2 : Nat} {p q : Bool} {ad : Nat → Nat} {I : mmI} {J : mmJ} {Q : mmQ} (h : mm_w Q (mm_wc d) bk_176 67 [some (.ref 46), some (.int (a1 + (nI 1))), none, none] [] ((fl, n1, n2, p, q, ad), (mm_up I 46 8 ((I 46 8) + (nI 1))), J)) : mm_w Q (mm_wc (d)) bk_176 101 [some (.ref 46), some (.int a1), none, none] [] ((fl, n1, n2, p, q, ad), I, J) := by
  refine mm_go [5, 67, 101, 137, 152, 188, 213, 239, 244, 247] 80 ?_
  exact h
/- 182 ThreeBreathsModel find -/
theorem fx_182k {d : Nat} {fl : Nat → Bool} {n1 n2 : Nat} {p q : Bool} {ad : Nat → Nat} {I : mmI} {J : mmJ} {Q : mmQ} (h : mm_w Q (mm_wc d) bk_182 2 [some (.ref 46), some (.int (nI 0)), none, none] [] ((fl, n1, n2, p, q, ad), I, J)) : mm_wc (d + 1) 182 [.ref 46] ((fl, n1, n2, p, q, ad), I, J) Q := by
  refine mm_call (c := 182) rfl rfl ?_
  refine mm_go [2, 40, 41, 44, 84, 91] 80 ?_
  exact h
theorem fx_182k_2 {d : Nat} {a1 : Int32} {fl : Nat → Bool} {n1 n2 : Nat} {p q : Bool} {ad : Nat → Nat} {I : mmI} {J : mmJ} {Q : mmQ} (h : (((nI 23) ≤ a1 → Q (some (.int (-1))) ((fl, n1, n2, p, q, ad), I, J)) ∧ (¬ (nI 23) ≤ a1 → (vp_in ((nI 72) + a1) 279 ∧ (((I 50 (((nI 72) + a1)).toNatClampNeg) ≤ (nI 0) → mm_w Q (mm_wc d) bk_182 40 [some (.ref 46), some (.int a1), none, none] [] ((fl, n1, n2, p, q, ad), I, J)) ∧ (¬ (I 50 (((nI 72) + a1)).toNatClampNeg) ≤ (nI 0) → (vp_in ((nI 72) + a1) 279 ∧ ((¬ (I 50 (((nI 72) + a1)).toNatClampNeg) = (I 46 8) → mm_w Q (mm_wc d) bk_182 40 [some (.ref 46), some (.int a1), none, none] [] ((fl, n1, n2, p, q, ad), I, J)) ∧ ((I 50 (((nI 72) + a1)).toNatClampNeg) = (I 46 8) → mm_w Q (mm_wc d) bk_182 41 [some (.ref 46), some (.int a1), none, none] [.int (nI 1)] ((fl, n1, n2, p, q, ad), I, J)))))))))) : mm_w Q (mm_wc (d)) bk_182 2 [some (.ref 46), some (.int a1), none, none] [] ((fl, n1, n2, p, q, ad), I, J) := by
  refine mm_go [2, 40, 41, 44, 84, 91] 80 ?_
  show ((nI 23) ≤ a1 → _) ∧ (¬ (nI 23) ≤ a1 → _)
  refine ⟨fun c0 => ?_, fun c0 => ?_⟩
  · exact (h.1 c0)
  · show mm_b _ _ _ _ _ [some (.ref 46), some (.int a1), none, none] [] ((fl, n1, n2, p, q, ad), I, J)
    show vp_in ((nI 72) + a1) 279 ∧ _
    refine ⟨(h.2 c0).1, ?_⟩
    show mm_b _ _ _ _ _ [some (.ref 46), some (.int a1), none, none] [.int (I 50 (((nI 72) + a1)).toNatClampNeg)] ((fl, n1, n2, p, q, ad), I, J)
    show ((I 50 (((nI 72) + a1)).toNatClampNeg) ≤ (nI 0) → _) ∧ (¬ (I 50 (((nI 72) + a1)).toNatClampNeg) ≤ (nI 0) → _)
    refine ⟨fun c1 => ?_, fun c1 => ?_⟩
    · exact ((h.2 c0).2.1 c1)
    · show mm_b _ _ _ _ _ [some (.ref 46), some (.int a1), none, none] [] ((fl, n1, n2, p, q, ad), I, J)
      show vp_in ((nI 72) + a1) 279 ∧ _
      refine ⟨((h.2 c0).2.2 c1).1, ?_⟩
      show mm_b _ _ _ _ _ [some (.ref 46), some (.int a1), none, none] [.int (I 50 (((nI 72) + a1)).toNatClampNeg)] ((fl, n1, n2, p, q, ad), I, J)
      show (¬ (I 50 (((nI 72) + a1)).toNatClampNeg) = (I 46 8) → _) ∧ ((I 50 (((nI 72) + a1)).toNatClampNeg) = (I 46 8) → _)
      refine ⟨fun c2 => ?_, fun c2 => ?_⟩
      · exact (((h.2 c0).2.2 c1).2.1 c2)
      · exact (((h.2 c0).2.2 c1).2.2 c2)
theorem fx_182k_40 {d : Nat} {a1 : Int32} {fl : Nat → Bool} {n1 n2 : Nat} {p q : Bool} {ad : Nat → Nat} {I : mmI} {J : mmJ} {Q : mmQ} (h : mm_w Q (mm_wc d) bk_182 41 [some (.ref 46), some (.int a1), none, none] [.int (nI 0)] ((fl, n1, n2, p, q, ad), I, J)) : mm_w Q (mm_wc (d)) bk_182 40 [some (.ref 46), some (.int a1), none, none] [] ((fl, n1, n2, p, q, ad), I, J) := by
  refine mm_go [2, 40, 41, 44, 84, 91] 80 ?_
  exact h
theorem fx_182k_41 {d : Nat} {a1 : Int32} {s0 : Int32} {fl : Nat → Bool} {n1 n2 : Nat} {p q : Bool} {ad : Nat → Nat} {I : mmI} {J : mmJ} {Q : mmQ} (h : mm_w Q (mm_wc d) bk_182 44 [some (.ref 46), some (.int a1), some (.int s0), some (.int (nI 0))] [] ((fl, n1, n2, p, q, ad), I, J)) : mm_w Q (mm_wc (d)) bk_182 41 [some (.ref 46), some (.int a1), none, none] [.int s0] ((fl, n1, n2, p, q, ad), I, J) := by
  refine mm_go [2, 40, 41, 44, 84, 91] 80 ?_
  exact h
theorem fx_182k_44 {d : Nat} {a1 : Int32} {a2 : Int32} {a3 : Int32} {fl : Nat → Bool} {n1 n2 : Nat} {p q : Bool} {ad : Nat → Nat} {I : mmI} {J : mmJ} {Q : mmQ} (h : (((I 46 8) ≤ a3 → mm_w Q (mm_wc d) bk_182 91 [some (.ref 46), some (.int a1), some (.int a2), none] [] ((fl, n1, n2, p, q, ad), I, J)) ∧ (¬ (I 46 8) ≤ a3 → ((a2 = (nI 0) → mm_w Q (mm_wc d) bk_182 91 [some (.ref 46), some (.int a1), some (.int a2), none] [] ((fl, n1, n2, p, q, ad), I, J)) ∧ (¬ a2 = (nI 0) → (vp_in (((nI 95) + ((nI 8) * a1)) + a3) 279 ∧ (vp_in a3 8 ∧ ((¬ (I 50 ((((nI 95) + ((nI 8) * a1)) + a3)).toNatClampNeg) = (I 48 a3.toNatClampNeg) → mm_w Q (mm_wc d) bk_182 84 [some (.ref 46), some (.int a1), none, some (.int a3)] [.int (nI 0)] ((fl, n1, n2, p, q, ad), I, J)) ∧ ((I 50 ((((nI 95) + ((nI 8) * a1)) + a3)).toNatClampNeg) = (I 48 a3.toNatClampNeg) → mm_w Q (mm_wc d) bk_182 84 [some (.ref 46), some (.int a1), none, some (.int a3)] [.int (nI 1)] ((fl, n1, n2, p, q, ad), I, J)))))))))) : mm_w Q (mm_wc (d)) bk_182 44 [some (.ref 46), some (.int a1), some (.int a2), some (.int a3)] [] ((fl, n1, n2, p, q, ad), I, J) := by
  refine mm_go [2, 40, 41, 44, 84, 91] 80 ?_
  show ((I 46 8) ≤ a3 → _) ∧ (¬ (I 46 8) ≤ a3 → _)
  refine ⟨fun c0 => ?_, fun c0 => ?_⟩
  · exact (h.1 c0)
  · show mm_b _ _ _ _ _ [some (.ref 46), some (.int a1), some (.int a2), some (.int a3)] [] ((fl, n1, n2, p, q, ad), I, J)
    show (a2 = (nI 0) → _) ∧ (¬ a2 = (nI 0) → _)
    refine ⟨fun c1 => ?_, fun c1 => ?_⟩
    · exact ((h.2 c0).1 c1)
    · show mm_b _ _ _ _ _ [some (.ref 46), some (.int a1), some (.int a2), some (.int a3)] [] ((fl, n1, n2, p, q, ad), I, J)
      show vp_in (((nI 95) + ((nI 8) * a1)) + a3) 279 ∧ _
      refine ⟨((h.2 c0).2 c1).1, ?_⟩
      show mm_b _ _ _ _ _ [some (.ref 46), some (.int a1), some (.int a2), some (.int a3)] [.int (I 50 ((((nI 95) + ((nI 8) * a1)) + a3)).toNatClampNeg)] ((fl, n1, n2, p, q, ad), I, J)
      show vp_in a3 8 ∧ _
      refine ⟨((h.2 c0).2 c1).2.1, ?_⟩
      show mm_b _ _ _ _ _ [some (.ref 46), some (.int a1), some (.int a2), some (.int a3)] [.int (I 48 a3.toNatClampNeg), .int (I 50 ((((nI 95) + ((nI 8) * a1)) + a3)).toNatClampNeg)] ((fl, n1, n2, p, q, ad), I, J)
      show (¬ (I 50 ((((nI 95) + ((nI 8) * a1)) + a3)).toNatClampNeg) = (I 48 a3.toNatClampNeg) → _) ∧ ((I 50 ((((nI 95) + ((nI 8) * a1)) + a3)).toNatClampNeg) = (I 48 a3.toNatClampNeg) → _)
      refine ⟨fun c2 => ?_, fun c2 => ?_⟩
      · exact (((h.2 c0).2 c1).2.2.1 c2)
      · exact (((h.2 c0).2 c1).2.2.2 c2)
theorem fx_182k_91 {d : Nat} {a1 : Int32} {a2 : Int32} {fl : Nat → Bool} {n1 n2 : Nat} {p q : Bool} {ad : Nat → Nat} {I : mmI} {J : mmJ} {Q : mmQ} (h : ((a2 = (nI 0) → mm_w Q (mm_wc d) bk_182 2 [some (.ref 46), some (.int (a1 + (nI 1))), none, none] [] ((fl, n1, n2, p, q, ad), I, J)) ∧ (¬ a2 = (nI 0) → Q (some (.int a1)) ((fl, n1, n2, p, q, ad), I, J)))) : mm_w Q (mm_wc (d)) bk_182 91 [some (.ref 46), some (.int a1), some (.int a2), none] [] ((fl, n1, n2, p, q, ad), I, J) := by
  refine mm_go [2, 40, 41, 44, 84, 91] 80 ?_
  show (a2 = (nI 0) → _) ∧ (¬ a2 = (nI 0) → _)
  refine ⟨fun c0 => ?_, fun c0 => ?_⟩
  · exact (h.1 c0)
  · exact (h.2 c0)
theorem fx_182k_84 {d : Nat} {a1 : Int32} {a3 : Int32} {s0 : Int32} {fl : Nat → Bool} {n1 n2 : Nat} {p q : Bool} {ad : Nat → Nat} {I : mmI} {J : mmJ} {Q : mmQ} (h : mm_w Q (mm_wc d) bk_182 44 [some (.ref 46), some (.int a1), some (.int s0), some (.int (a3 + (nI 1)))] [] ((fl, n1, n2, p, q, ad), I, J)) : mm_w Q (mm_wc (d)) bk_182 84 [some (.ref 46), some (.int a1), none, some (.int a3)] [.int s0] ((fl, n1, n2, p, q, ad), I, J) := by
  refine mm_go [2, 40, 41, 44, 84, 91] 80 ?_
  exact h
/- 258 ThreeBreathsModel chanceOf -/
theorem fx_258k {d : Nat} {x0 : Int32} {x1 : Int32} {fl : Nat → Bool} {n1 n2 : Nat} {p q : Bool} {ad : Nat → Nat} {I : mmI} {J : mmJ} {Q : mmQ} (h : mm_wc d 237 [.int x0] ((fl, 0, 0, p, q, ad), I, J) (fun v τ => ∃ r1 I1 J1, v = some (.int r1) ∧ τ = ((fl, 0, 0, p, q, ad), I1, J1) ∧ ((¬ r1 = (nI 0) → ((¬ x1 = (nI 0) → ((¬ x1 = (nI 1) → mm_w Q (mm_wc d) bk_258 42 [some (.ref 46), some (.int x0), some (.int x1), none, none, none, none, none] [] ((fl, n1, n2, p, q, ad), I1, J1)) ∧ (x1 = (nI 1) → (vp_in x0 16384 ∧ (((lg_cmp (J1 63 x0.toNatClampNeg) (lN 0)) < (nI 0) → mm_w Q (mm_wc d) bk_258 42 [some (.ref 46), some (.int x0), some (.int x1), none, none, none, none, none] [] ((fl, n1, n2, p, q, ad), I1, J1)) ∧ (¬ (lg_cmp (J1 63 x0.toNatClampNeg) (lN 0)) < (nI 0) → (vp_in x0 16384 ∧ Q (some (.long (J1 63 x0.toNatClampNeg))) ((fl, n1, n2, p, q, ad), I1, J1)))))))) ∧ (x1 = (nI 0) → Q (some (.long (lN 0))) ((fl, n1, n2, p, q, ad), I1, J1)))) ∧ (r1 = (nI 0) → mm_wc d 256 [.ref 46, .int x1] ((fl, 0, 0, p, q, ad), I1, J1) (fun v τ => ∃ r2 I2 J2, v = some (.long r2) ∧ τ = ((fl, 0, 0, p, q, ad), I2, J2) ∧ Q (some (.long r2)) ((fl, n1, n2, p, q, ad), I2, J2)))))) : mm_wc (d + 1) 258 [.ref 46, .int x0, .int x1] ((fl, n1, n2, p, q, ad), I, J) Q := by
  refine mm_call (c := 258) rfl rfl ?_
  refine mm_go [42, 65, 70, 102, 121, 133] 80 ?_
  show mm_wc d 237 [.int x0] ((fl, 0, 0, p, q, ad), I, J) _
  refine mm_wcm h ?_
  rintro v τ ⟨r1, I1, J1, rfl, rfl, h1⟩
  refine mm_r1' ⟨rfl, ?_⟩
  show mm_b _ _ _ _ _ [some (.ref 46), some (.int x0), some (.int x1), none, none, none, none, none] [.int r1] ((fl, n1, n2, p, q, ad), I1, J1)
  show (¬ r1 = (nI 0) → _) ∧ (r1 = (nI 0) → _)
  refine ⟨fun c0 => ?_, fun c0 => ?_⟩
  · show mm_u _ _ _ _ _ _ [some (.ref 46), some (.int x0), some (.int x1), none, none, none, none, none] [] ((fl, n1, n2, p, q, ad), I1, J1)
    show (¬ x1 = (nI 0) → _) ∧ (x1 = (nI 0) → _)
    refine ⟨fun c1 => ?_, fun c1 => ?_⟩
    · show mm_u _ _ _ _ _ _ [some (.ref 46), some (.int x0), some (.int x1), none, none, none, none, none] [] ((fl, n1, n2, p, q, ad), I1, J1)
      show (¬ x1 = (nI 1) → _) ∧ (x1 = (nI 1) → _)
      refine ⟨fun c2 => ?_, fun c2 => ?_⟩
      · exact (((h1.1 c0).1 c1).1 c2)
      · show mm_b _ _ _ _ _ [some (.ref 46), some (.int x0), some (.int x1), none, none, none, none, none] [] ((fl, n1, n2, p, q, ad), I1, J1)
        show vp_in x0 16384 ∧ _
        refine ⟨(((h1.1 c0).1 c1).2 c2).1, ?_⟩
        show mm_b _ _ _ _ _ [some (.ref 46), some (.int x0), some (.int x1), none, none, none, none, none] [.long (J1 63 x0.toNatClampNeg)] ((fl, n1, n2, p, q, ad), I1, J1)
        show ((lg_cmp (J1 63 x0.toNatClampNeg) (lN 0)) < (nI 0) → _) ∧ (¬ (lg_cmp (J1 63 x0.toNatClampNeg) (lN 0)) < (nI 0) → _)
        refine ⟨fun c3 => ?_, fun c3 => ?_⟩
        · exact ((((h1.1 c0).1 c1).2 c2).2.1 c3)
        · show mm_b _ _ _ _ _ [some (.ref 46), some (.int x0), some (.int x1), none, none, none, none, none] [] ((fl, n1, n2, p, q, ad), I1, J1)
          show vp_in x0 16384 ∧ _
          refine ⟨((((h1.1 c0).1 c1).2 c2).2.2 c3).1, ?_⟩
          exact ((((h1.1 c0).1 c1).2 c2).2.2 c3).2
    · exact ((h1.1 c0).2 c1)
  · show mm_b _ _ _ _ _ [some (.ref 46), some (.int x0), some (.int x1), none, none, none, none, none] [] ((fl, n1, n2, p, q, ad), I1, J1)
    show mm_wc d 256 [.ref 46, .int x1] ((fl, 0, 0, p, q, ad), I1, J1) _
    refine mm_wcm (h1.2 c0) ?_
    rintro v τ ⟨r2, I2, J2, rfl, rfl, h2⟩
    refine mm_r2' ⟨rfl, ?_⟩
    exact h2
theorem fx_258k_42 {d : Nat} {a1 : Int32} {a2 : Int32} {fl : Nat → Bool} {n1 n2 : Nat} {p q : Bool} {ad : Nat → Nat} {I : mmI} {J : mmJ} {Q : mmQ} (h : ((¬ a2 = (nI 2) → mm_w Q (mm_wc d) bk_258 65 [some (.ref 46), some (.int a1), some (.int a2), none, none, none, none, none] [] ((fl, n1, n2, p, q, ad), I, J)) ∧ (a2 = (nI 2) → (vp_in a1 16384 ∧ (((lg_cmp (J 64 a1.toNatClampNeg) (lN 0)) < (nI 0) → mm_w Q (mm_wc d) bk_258 65 [some (.ref 46), some (.int a1), some (.int a2), none, none, none, none, none] [] ((fl, n1, n2, p, q, ad), I, J)) ∧ (¬ (lg_cmp (J 64 a1.toNatClampNeg) (lN 0)) < (nI 0) → (vp_in a1 16384 ∧ Q (some (.long (J 64 a1.toNatClampNeg))) ((fl, n1, n2, p, q, ad), I, J)))))))) : mm_w Q (mm_wc (d)) bk_258 42 [some (.ref 46), some (.int a1), some (.int a2), none, none, none, none, none] [] ((fl, n1, n2, p, q, ad), I, J) := by
  refine mm_go [42, 65, 70, 102, 121, 133] 80 ?_
  show (¬ a2 = (nI 2) → _) ∧ (a2 = (nI 2) → _)
  refine ⟨fun c0 => ?_, fun c0 => ?_⟩
  · exact (h.1 c0)
  · show mm_b _ _ _ _ _ [some (.ref 46), some (.int a1), some (.int a2), none, none, none, none, none] [] ((fl, n1, n2, p, q, ad), I, J)
    show vp_in a1 16384 ∧ _
    refine ⟨(h.2 c0).1, ?_⟩
    show mm_b _ _ _ _ _ [some (.ref 46), some (.int a1), some (.int a2), none, none, none, none, none] [.long (J 64 a1.toNatClampNeg)] ((fl, n1, n2, p, q, ad), I, J)
    show ((lg_cmp (J 64 a1.toNatClampNeg) (lN 0)) < (nI 0) → _) ∧ (¬ (lg_cmp (J 64 a1.toNatClampNeg) (lN 0)) < (nI 0) → _)
    refine ⟨fun c1 => ?_, fun c1 => ?_⟩
    · exact ((h.2 c0).2.1 c1)
    · show mm_b _ _ _ _ _ [some (.ref 46), some (.int a1), some (.int a2), none, none, none, none, none] [] ((fl, n1, n2, p, q, ad), I, J)
      show vp_in a1 16384 ∧ _
      refine ⟨((h.2 c0).2.2 c1).1, ?_⟩
      exact ((h.2 c0).2.2 c1).2
theorem fx_258k_65 {d : Nat} {a1 : Int32} {a2 : Int32} {fl : Nat → Bool} {n1 n2 : Nat} {p q : Bool} {ad : Nat → Nat} {I : mmI} {J : mmJ} {Q : mmQ} (h : mm_w Q (mm_wc d) bk_258 70 [some (.ref 46), some (.int a1), some (.int a2), some (.long (lN 0)), none, some (.int (nI 0)), none, none] [] ((fl, n1, n2, p, q, ad), I, J)) : mm_w Q (mm_wc (d)) bk_258 65 [some (.ref 46), some (.int a1), some (.int a2), none, none, none, none, none] [] ((fl, n1, n2, p, q, ad), I, J) := by
  refine mm_go [42, 65, 70, 102, 121, 133] 80 ?_
  exact h
theorem fx_258k_70 {d : Nat} {a1 : Int32} {a2 : Int32} {a3 : Int64} {a5 : Int32} {fl : Nat → Bool} {n1 n2 : Nat} {p q : Bool} {ad : Nat → Nat} {I : mmI} {J : mmJ} {Q : mmQ} (h : mm_wc d 206 [.ref 46] ((fl, 0, 0, p, q, ad), I, J) (fun v τ => ∃ r1 I1 J1, v = some (.int r1) ∧ τ = ((fl, 0, 0, p, q, ad), I1, J1) ∧ ((r1 ≤ a5 → ((¬ a2 = (nI 1) → mm_w Q (mm_wc d) bk_258 121 [some (.ref 46), some (.int a1), some (.int a2), some (.long a3), none, none, none, none] [] ((fl, n1, n2, p, q, ad), I1, J1)) ∧ (a2 = (nI 1) → (vp_in a1 16384 ∧ mm_w Q (mm_wc d) bk_258 121 [some (.ref 46), some (.int a1), some (.int a2), some (.long a3), none, none, none, none] [] ((fl, n1, n2, p, q, ad), I1, (mm_upJ J1 63 a1.toNatClampNeg a3)))))) ∧ (¬ r1 ≤ a5 → mm_wc d 257 [.ref 46, .int a1, .int a5, .int a2] ((fl, 0, 0, p, q, ad), I1, J1) (fun v τ => ∃ r2 I2 J2, v = some (.long r2) ∧ τ = ((fl, 0, 0, p, q, ad), I2, J2) ∧ (((lg_cmp r2 a3) ≤ (nI 0) → mm_w Q (mm_wc d) bk_258 102 [some (.ref 46), some (.int a1), some (.int a2), none, none, some (.int a5), none, none] [.long a3] ((fl, n1, n2, p, q, ad), I2, J2)) ∧ (¬ (lg_cmp r2 a3) ≤ (nI 0) → mm_w Q (mm_wc d) bk_258 102 [some (.ref 46), some (.int a1), some (.int a2), none, none, some (.int a5), none, none] [.long r2] ((fl, n1, n2, p, q, ad), I2, J2)))))))) : mm_w Q (mm_wc (d)) bk_258 70 [some (.ref 46), some (.int a1), some (.int a2), some (.long a3), none, some (.int a5), none, none] [] ((fl, n1, n2, p, q, ad), I, J) := by
  refine mm_go [42, 65, 70, 102, 121, 133] 80 ?_
  show mm_wc d 206 [.ref 46] ((fl, 0, 0, p, q, ad), I, J) _
  refine mm_wcm h ?_
  rintro v τ ⟨r1, I1, J1, rfl, rfl, h1⟩
  refine mm_r1' ⟨rfl, ?_⟩
  show mm_b _ _ _ _ _ [some (.ref 46), some (.int a1), some (.int a2), some (.long a3), none, some (.int a5), none, none] [.int r1, .int a5] ((fl, n1, n2, p, q, ad), I1, J1)
  show (r1 ≤ a5 → _) ∧ (¬ r1 ≤ a5 → _)
  refine ⟨fun c0 => ?_, fun c0 => ?_⟩
  · show mm_u _ _ _ _ _ _ [some (.ref 46), some (.int a1), some (.int a2), some (.long a3), none, some (.int a5), none, none] [] ((fl, n1, n2, p, q, ad), I1, J1)
    show (¬ a2 = (nI 1) → _) ∧ (a2 = (nI 1) → _)
    refine ⟨fun c1 => ?_, fun c1 => ?_⟩
    · exact ((h1.1 c0).1 c1)
    · show mm_b _ _ _ _ _ [some (.ref 46), some (.int a1), some (.int a2), some (.long a3), none, none, none, none] [] ((fl, n1, n2, p, q, ad), I1, J1)
      show vp_in a1 16384 ∧ _
      refine ⟨((h1.1 c0).2 c1).1, ?_⟩
      exact ((h1.1 c0).2 c1).2
  · show mm_b _ _ _ _ _ [some (.ref 46), some (.int a1), some (.int a2), some (.long a3), none, some (.int a5), none, none] [] ((fl, n1, n2, p, q, ad), I1, J1)
    show mm_wc d 257 [.ref 46, .int a1, .int a5, .int a2] ((fl, 0, 0, p, q, ad), I1, J1) _
    refine mm_wcm (h1.2 c0) ?_
    rintro v τ ⟨r2, I2, J2, rfl, rfl, h2⟩
    refine mm_r2' ⟨rfl, ?_⟩
    show mm_b _ _ _ _ _ [some (.ref 46), some (.int a1), some (.int a2), some (.long a3), none, some (.int a5), none, none] [.long r2] ((fl, n1, n2, p, q, ad), I2, J2)
    show ((lg_cmp r2 a3) ≤ (nI 0) → _) ∧ (¬ (lg_cmp r2 a3) ≤ (nI 0) → _)
    refine ⟨fun c1 => ?_, fun c1 => ?_⟩
    · exact (h2.1 c1)
    · exact (h2.2 c1)
theorem fx_258k_121 {d : Nat} {a1 : Int32} {a2 : Int32} {a3 : Int64} {fl : Nat → Bool} {n1 n2 : Nat} {p q : Bool} {ad : Nat → Nat} {I : mmI} {J : mmJ} {Q : mmQ} (h : ((¬ a2 = (nI 2) → mm_w Q (mm_wc d) bk_258 133 [none, none, none, some (.long a3), none, none, none, none] [] ((fl, n1, n2, p, q, ad), I, J)) ∧ (a2 = (nI 2) → (vp_in a1 16384 ∧ mm_w Q (mm_wc d) bk_258 133 [none, none, none, some (.long a3), none, none, none, none] [] ((fl, n1, n2, p, q, ad), I, (mm_upJ J 64 a1.toNatClampNeg a3)))))) : mm_w Q (mm_wc (d)) bk_258 121 [some (.ref 46), some (.int a1), some (.int a2), some (.long a3), none, none, none, none] [] ((fl, n1, n2, p, q, ad), I, J) := by
  refine mm_go [42, 65, 70, 102, 121, 133] 80 ?_
  show (¬ a2 = (nI 2) → _) ∧ (a2 = (nI 2) → _)
  refine ⟨fun c0 => ?_, fun c0 => ?_⟩
  · exact (h.1 c0)
  · show mm_b _ _ _ _ _ [some (.ref 46), some (.int a1), some (.int a2), some (.long a3), none, none, none, none] [] ((fl, n1, n2, p, q, ad), I, J)
    show vp_in a1 16384 ∧ _
    refine ⟨(h.2 c0).1, ?_⟩
    exact (h.2 c0).2
theorem fx_258k_102 {d : Nat} {a1 : Int32} {a2 : Int32} {a5 : Int32} {s0 : Int64} {fl : Nat → Bool} {n1 n2 : Nat} {p q : Bool} {ad : Nat → Nat} {I : mmI} {J : mmJ} {Q : mmQ} (h : mm_w Q (mm_wc d) bk_258 70 [some (.ref 46), some (.int a1), some (.int a2), some (.long s0), none, some (.int (a5 + (nI 1))), none, none] [] ((fl, n1, n2, p, q, ad), I, J)) : mm_w Q (mm_wc (d)) bk_258 102 [some (.ref 46), some (.int a1), some (.int a2), none, none, some (.int a5), none, none] [.long s0] ((fl, n1, n2, p, q, ad), I, J) := by
  refine mm_go [42, 65, 70, 102, 121, 133] 80 ?_
  exact h
theorem fx_258k_133 {d : Nat} {a3 : Int64} {fl : Nat → Bool} {n1 n2 : Nat} {p q : Bool} {ad : Nat → Nat} {I : mmI} {J : mmJ} {Q : mmQ} (h : Q (some (.long a3)) ((fl, n1, n2, p, q, ad), I, J)) : mm_w Q (mm_wc (d)) bk_258 133 [none, none, none, some (.long a3), none, none, none, none] [] ((fl, n1, n2, p, q, ad), I, J) := by
  refine mm_go [42, 65, 70, 102, 121, 133] 80 ?_
  exact h
/- 264 ThreeBreathsModel contentOf -/
theorem fx_264k {d : Nat} {x0 : Int32} {x1 : Int32} {fl : Nat → Bool} {n1 n2 : Nat} {p q : Bool} {ad : Nat → Nat} {I : mmI} {J : mmJ} {Q : mmQ} (h : mm_wc d 237 [.int x0] ((fl, 0, 0, p, q, ad), I, J) (fun v τ => ∃ r1 I1 J1, v = some (.int r1) ∧ τ = ((fl, 0, 0, p, q, ad), I1, J1) ∧ mm_wc d 171 [.int r1] ((fl, 0, 0, p, q, ad), I1, J1) (fun v τ => ∃ r2 I2 J2, v = some (.int r2) ∧ τ = ((fl, 0, 0, p, q, ad), I2, J2) ∧ mm_wc d 256 [.ref 46, .int x1] ((fl, 0, 0, p, q, ad), I2, J2) (fun v τ => ∃ r3 I3 J3, v = some (.long r3) ∧ τ = ((fl, 0, 0, p, q, ad), I3, J3) ∧ ((x1 = (nI 0) → mm_w Q (mm_wc d) bk_264 25 [none, none, none, some (.long ((Int32.toInt64 r2) * r3)), none, none, none, none] [] ((fl, n1, n2, p, q, ad), I3, J3)) ∧ (¬ x1 = (nI 0) → ((¬ (lg_cmp ((Int32.toInt64 r2) * r3) (lN 0)) = (nI 0) → ((¬ x1 = (nI 1) → mm_w Q (mm_wc d) bk_264 50 [some (.ref 46), some (.int x0), some (.int x1), some (.long ((Int32.toInt64 r2) * r3)), none, none, none, none] [] ((fl, n1, n2, p, q, ad), I3, J3)) ∧ (x1 = (nI 1) → (vp_in x0 16384 ∧ (((lg_cmp (J3 63 x0.toNatClampNeg) (lN 0)) < (nI 0) → mm_w Q (mm_wc d) bk_264 50 [some (.ref 46), some (.int x0), some (.int x1), some (.long ((Int32.toInt64 r2) * r3)), none, none, none, none] [] ((fl, n1, n2, p, q, ad), I3, J3)) ∧ (¬ (lg_cmp (J3 63 x0.toNatClampNeg) (lN 0)) < (nI 0) → (vp_in x0 16384 ∧ Q (some (.long (J3 63 x0.toNatClampNeg))) ((fl, n1, n2, p, q, ad), I3, J3)))))))) ∧ ((lg_cmp ((Int32.toInt64 r2) * r3) (lN 0)) = (nI 0) → mm_w Q (mm_wc d) bk_264 25 [none, none, none, some (.long ((Int32.toInt64 r2) * r3)), none, none, none, none] [] ((fl, n1, n2, p, q, ad), I3, J3))))))))) : mm_wc (d + 1) 264 [.ref 46, .int x0, .int x1] ((fl, n1, n2, p, q, ad), I, J) Q := by
  refine mm_call (c := 264) rfl rfl ?_
  refine mm_go [25, 50, 73, 76, 108, 127, 139] 80 ?_
  show mm_wc d 237 [.int x0] ((fl, 0, 0, p, q, ad), I, J) _
  refine mm_wcm h ?_
  rintro v τ ⟨r1, I1, J1, rfl, rfl, h1⟩
  refine mm_r1' ⟨rfl, ?_⟩
  show mm_b _ _ _ _ _ [some (.ref 46), some (.int x0), some (.int x1), none, none, none, none, none] [.int r1] ((fl, n1, n2, p, q, ad), I1, J1)
  show mm_wc d 171 [.int r1] ((fl, 0, 0, p, q, ad), I1, J1) _
  refine mm_wcm h1 ?_
  rintro v τ ⟨r2, I2, J2, rfl, rfl, h2⟩
  refine mm_r1' ⟨rfl, ?_⟩
  show mm_b _ _ _ _ _ [some (.ref 46), some (.int x0), some (.int x1), none, none, none, none, none] [.int r2] ((fl, n1, n2, p, q, ad), I2, J2)
  show mm_wc d 256 [.ref 46, .int x1] ((fl, 0, 0, p, q, ad), I2, J2) _
  refine mm_wcm h2 ?_
  rintro v τ ⟨r3, I3, J3, rfl, rfl, h3⟩
  refine mm_r2' ⟨rfl, ?_⟩
  show mm_b _ _ _ _ _ [some (.ref 46), some (.int x0), some (.int x1), none, none, none, none, none] [.long r3, .long (Int32.toInt64 r2)] ((fl, n1, n2, p, q, ad), I3, J3)
  show (x1 = (nI 0) → _) ∧ (¬ x1 = (nI 0) → _)
  refine ⟨fun c0 => ?_, fun c0 => ?_⟩
  · exact (h3.1 c0)
  · show mm_b _ _ _ _ _ [some (.ref 46), some (.int x0), some (.int x1), some (.long ((Int32.toInt64 r2) * r3)), none, none, none, none] [] ((fl, n1, n2, p, q, ad), I3, J3)
    show (¬ (lg_cmp ((Int32.toInt64 r2) * r3) (lN 0)) = (nI 0) → _) ∧ ((lg_cmp ((Int32.toInt64 r2) * r3) (lN 0)) = (nI 0) → _)
    refine ⟨fun c1 => ?_, fun c1 => ?_⟩
    · show mm_u _ _ _ _ _ _ [some (.ref 46), some (.int x0), some (.int x1), some (.long ((Int32.toInt64 r2) * r3)), none, none, none, none] [] ((fl, n1, n2, p, q, ad), I3, J3)
      show (¬ x1 = (nI 1) → _) ∧ (x1 = (nI 1) → _)
      refine ⟨fun c2 => ?_, fun c2 => ?_⟩
      · exact (((h3.2 c0).1 c1).1 c2)
      · show mm_b _ _ _ _ _ [some (.ref 46), some (.int x0), some (.int x1), some (.long ((Int32.toInt64 r2) * r3)), none, none, none, none] [] ((fl, n1, n2, p, q, ad), I3, J3)
        show vp_in x0 16384 ∧ _
        refine ⟨(((h3.2 c0).1 c1).2 c2).1, ?_⟩
        show mm_b _ _ _ _ _ [some (.ref 46), some (.int x0), some (.int x1), some (.long ((Int32.toInt64 r2) * r3)), none, none, none, none] [.long (J3 63 x0.toNatClampNeg)] ((fl, n1, n2, p, q, ad), I3, J3)
        show ((lg_cmp (J3 63 x0.toNatClampNeg) (lN 0)) < (nI 0) → _) ∧ (¬ (lg_cmp (J3 63 x0.toNatClampNeg) (lN 0)) < (nI 0) → _)
        refine ⟨fun c3 => ?_, fun c3 => ?_⟩
        · exact ((((h3.2 c0).1 c1).2 c2).2.1 c3)
        · show mm_b _ _ _ _ _ [some (.ref 46), some (.int x0), some (.int x1), some (.long ((Int32.toInt64 r2) * r3)), none, none, none, none] [] ((fl, n1, n2, p, q, ad), I3, J3)
          show vp_in x0 16384 ∧ _
          refine ⟨((((h3.2 c0).1 c1).2 c2).2.2 c3).1, ?_⟩
          exact ((((h3.2 c0).1 c1).2 c2).2.2 c3).2
    · exact ((h3.2 c0).2 c1)
theorem fx_264k_25 {d : Nat} {a3 : Int64} {fl : Nat → Bool} {n1 n2 : Nat} {p q : Bool} {ad : Nat → Nat} {I : mmI} {J : mmJ} {Q : mmQ} (h : Q (some (.long a3)) ((fl, n1, n2, p, q, ad), I, J)) : mm_w Q (mm_wc (d)) bk_264 25 [none, none, none, some (.long a3), none, none, none, none] [] ((fl, n1, n2, p, q, ad), I, J) := by
  refine mm_go [25, 50, 73, 76, 108, 127, 139] 80 ?_
  exact h
theorem fx_264k_50 {d : Nat} {a1 : Int32} {a2 : Int32} {a3 : Int64} {fl : Nat → Bool} {n1 n2 : Nat} {p q : Bool} {ad : Nat → Nat} {I : mmI} {J : mmJ} {Q : mmQ} (h : ((¬ a2 = (nI 2) → mm_w Q (mm_wc d) bk_264 73 [some (.ref 46), some (.int a1), some (.int a2), some (.long a3), none, none, none, none] [] ((fl, n1, n2, p, q, ad), I, J)) ∧ (a2 = (nI 2) → (vp_in a1 16384 ∧ (((lg_cmp (J 64 a1.toNatClampNeg) (lN 0)) < (nI 0) → mm_w Q (mm_wc d) bk_264 73 [some (.ref 46), some (.int a1), some (.int a2), some (.long a3), none, none, none, none] [] ((fl, n1, n2, p, q, ad), I, J)) ∧ (¬ (lg_cmp (J 64 a1.toNatClampNeg) (lN 0)) < (nI 0) → (vp_in a1 16384 ∧ Q (some (.long (J 64 a1.toNatClampNeg))) ((fl, n1, n2, p, q, ad), I, J)))))))) : mm_w Q (mm_wc (d)) bk_264 50 [some (.ref 46), some (.int a1), some (.int a2), some (.long a3), none, none, none, none] [] ((fl, n1, n2, p, q, ad), I, J) := by
  refine mm_go [25, 50, 73, 76, 108, 127, 139] 80 ?_
  show (¬ a2 = (nI 2) → _) ∧ (a2 = (nI 2) → _)
  refine ⟨fun c0 => ?_, fun c0 => ?_⟩
  · exact (h.1 c0)
  · show mm_b _ _ _ _ _ [some (.ref 46), some (.int a1), some (.int a2), some (.long a3), none, none, none, none] [] ((fl, n1, n2, p, q, ad), I, J)
    show vp_in a1 16384 ∧ _
    refine ⟨(h.2 c0).1, ?_⟩
    show mm_b _ _ _ _ _ [some (.ref 46), some (.int a1), some (.int a2), some (.long a3), none, none, none, none] [.long (J 64 a1.toNatClampNeg)] ((fl, n1, n2, p, q, ad), I, J)
    show ((lg_cmp (J 64 a1.toNatClampNeg) (lN 0)) < (nI 0) → _) ∧ (¬ (lg_cmp (J 64 a1.toNatClampNeg) (lN 0)) < (nI 0) → _)
    refine ⟨fun c1 => ?_, fun c1 => ?_⟩
    · exact ((h.2 c0).2.1 c1)
    · show mm_b _ _ _ _ _ [some (.ref 46), some (.int a1), some (.int a2), some (.long a3), none, none, none, none] [] ((fl, n1, n2, p, q, ad), I, J)
      show vp_in a1 16384 ∧ _
      refine ⟨((h.2 c0).2.2 c1).1, ?_⟩
      exact ((h.2 c0).2.2 c1).2
theorem fx_264k_73 {d : Nat} {a1 : Int32} {a2 : Int32} {a3 : Int64} {fl : Nat → Bool} {n1 n2 : Nat} {p q : Bool} {ad : Nat → Nat} {I : mmI} {J : mmJ} {Q : mmQ} (h : mm_w Q (mm_wc d) bk_264 76 [some (.ref 46), some (.int a1), some (.int a2), some (.long a3), none, some (.int (nI 0)), none, none] [] ((fl, n1, n2, p, q, ad), I, J)) : mm_w Q (mm_wc (d)) bk_264 73 [some (.ref 46), some (.int a1), some (.int a2), some (.long a3), none, none, none, none] [] ((fl, n1, n2, p, q, ad), I, J) := by
  refine mm_go [25, 50, 73, 76, 108, 127, 139] 80 ?_
  exact h
theorem fx_264k_76 {d : Nat} {a1 : Int32} {a2 : Int32} {a3 : Int64} {a5 : Int32} {fl : Nat → Bool} {n1 n2 : Nat} {p q : Bool} {ad : Nat → Nat} {I : mmI} {J : mmJ} {Q : mmQ} (h : mm_wc d 206 [.ref 46] ((fl, 0, 0, p, q, ad), I, J) (fun v τ => ∃ r1 I1 J1, v = some (.int r1) ∧ τ = ((fl, 0, 0, p, q, ad), I1, J1) ∧ ((r1 ≤ a5 → ((¬ a2 = (nI 1) → mm_w Q (mm_wc d) bk_264 127 [some (.ref 46), some (.int a1), some (.int a2), some (.long a3), none, none, none, none] [] ((fl, n1, n2, p, q, ad), I1, J1)) ∧ (a2 = (nI 1) → (vp_in a1 16384 ∧ mm_w Q (mm_wc d) bk_264 127 [some (.ref 46), some (.int a1), some (.int a2), some (.long a3), none, none, none, none] [] ((fl, n1, n2, p, q, ad), I1, (mm_upJ J1 63 a1.toNatClampNeg a3)))))) ∧ (¬ r1 ≤ a5 → mm_wc d 263 [.ref 46, .int a1, .int a5, .int a2] ((fl, 0, 0, p, q, ad), I1, J1) (fun v τ => ∃ r2 I2 J2, v = some (.long r2) ∧ τ = ((fl, 0, 0, p, q, ad), I2, J2) ∧ (((nI 0) ≤ (lg_cmp r2 a3) → mm_w Q (mm_wc d) bk_264 108 [some (.ref 46), some (.int a1), some (.int a2), none, none, some (.int a5), none, none] [.long a3] ((fl, n1, n2, p, q, ad), I2, J2)) ∧ (¬ (nI 0) ≤ (lg_cmp r2 a3) → mm_w Q (mm_wc d) bk_264 108 [some (.ref 46), some (.int a1), some (.int a2), none, none, some (.int a5), none, none] [.long r2] ((fl, n1, n2, p, q, ad), I2, J2)))))))) : mm_w Q (mm_wc (d)) bk_264 76 [some (.ref 46), some (.int a1), some (.int a2), some (.long a3), none, some (.int a5), none, none] [] ((fl, n1, n2, p, q, ad), I, J) := by
  refine mm_go [25, 50, 73, 76, 108, 127, 139] 80 ?_
  show mm_wc d 206 [.ref 46] ((fl, 0, 0, p, q, ad), I, J) _
  refine mm_wcm h ?_
  rintro v τ ⟨r1, I1, J1, rfl, rfl, h1⟩
  refine mm_r1' ⟨rfl, ?_⟩
  show mm_b _ _ _ _ _ [some (.ref 46), some (.int a1), some (.int a2), some (.long a3), none, some (.int a5), none, none] [.int r1, .int a5] ((fl, n1, n2, p, q, ad), I1, J1)
  show (r1 ≤ a5 → _) ∧ (¬ r1 ≤ a5 → _)
  refine ⟨fun c0 => ?_, fun c0 => ?_⟩
  · show mm_u _ _ _ _ _ _ [some (.ref 46), some (.int a1), some (.int a2), some (.long a3), none, some (.int a5), none, none] [] ((fl, n1, n2, p, q, ad), I1, J1)
    show (¬ a2 = (nI 1) → _) ∧ (a2 = (nI 1) → _)
    refine ⟨fun c1 => ?_, fun c1 => ?_⟩
    · exact ((h1.1 c0).1 c1)
    · show mm_b _ _ _ _ _ [some (.ref 46), some (.int a1), some (.int a2), some (.long a3), none, none, none, none] [] ((fl, n1, n2, p, q, ad), I1, J1)
      show vp_in a1 16384 ∧ _
      refine ⟨((h1.1 c0).2 c1).1, ?_⟩
      exact ((h1.1 c0).2 c1).2
  · show mm_b _ _ _ _ _ [some (.ref 46), some (.int a1), some (.int a2), some (.long a3), none, some (.int a5), none, none] [] ((fl, n1, n2, p, q, ad), I1, J1)
    show mm_wc d 263 [.ref 46, .int a1, .int a5, .int a2] ((fl, 0, 0, p, q, ad), I1, J1) _
    refine mm_wcm (h1.2 c0) ?_
    rintro v τ ⟨r2, I2, J2, rfl, rfl, h2⟩
    refine mm_r2' ⟨rfl, ?_⟩
    show mm_b _ _ _ _ _ [some (.ref 46), some (.int a1), some (.int a2), some (.long a3), none, some (.int a5), none, none] [.long r2] ((fl, n1, n2, p, q, ad), I2, J2)
    show ((nI 0) ≤ (lg_cmp r2 a3) → _) ∧ (¬ (nI 0) ≤ (lg_cmp r2 a3) → _)
    refine ⟨fun c1 => ?_, fun c1 => ?_⟩
    · exact (h2.1 c1)
    · exact (h2.2 c1)
theorem fx_264k_127 {d : Nat} {a1 : Int32} {a2 : Int32} {a3 : Int64} {fl : Nat → Bool} {n1 n2 : Nat} {p q : Bool} {ad : Nat → Nat} {I : mmI} {J : mmJ} {Q : mmQ} (h : ((¬ a2 = (nI 2) → mm_w Q (mm_wc d) bk_264 139 [none, none, none, some (.long a3), none, none, none, none] [] ((fl, n1, n2, p, q, ad), I, J)) ∧ (a2 = (nI 2) → (vp_in a1 16384 ∧ mm_w Q (mm_wc d) bk_264 139 [none, none, none, some (.long a3), none, none, none, none] [] ((fl, n1, n2, p, q, ad), I, (mm_upJ J 64 a1.toNatClampNeg a3)))))) : mm_w Q (mm_wc (d)) bk_264 127 [some (.ref 46), some (.int a1), some (.int a2), some (.long a3), none, none, none, none] [] ((fl, n1, n2, p, q, ad), I, J) := by
  refine mm_go [25, 50, 73, 76, 108, 127, 139] 80 ?_
  show (¬ a2 = (nI 2) → _) ∧ (a2 = (nI 2) → _)
  refine ⟨fun c0 => ?_, fun c0 => ?_⟩
  · exact (h.1 c0)
  · show mm_b _ _ _ _ _ [some (.ref 46), some (.int a1), some (.int a2), some (.long a3), none, none, none, none] [] ((fl, n1, n2, p, q, ad), I, J)
    show vp_in a1 16384 ∧ _
    refine ⟨(h.2 c0).1, ?_⟩
    exact (h.2 c0).2
theorem fx_264k_108 {d : Nat} {a1 : Int32} {a2 : Int32} {a5 : Int32} {s0 : Int64} {fl : Nat → Bool} {n1 n2 : Nat} {p q : Bool} {ad : Nat → Nat} {I : mmI} {J : mmJ} {Q : mmQ} (h : mm_w Q (mm_wc d) bk_264 76 [some (.ref 46), some (.int a1), some (.int a2), some (.long s0), none, some (.int (a5 + (nI 1))), none, none] [] ((fl, n1, n2, p, q, ad), I, J)) : mm_w Q (mm_wc (d)) bk_264 108 [some (.ref 46), some (.int a1), some (.int a2), none, none, some (.int a5), none, none] [.long s0] ((fl, n1, n2, p, q, ad), I, J) := by
  refine mm_go [25, 50, 73, 76, 108, 127, 139] 80 ?_
  exact h
theorem fx_264k_139 {d : Nat} {a3 : Int64} {fl : Nat → Bool} {n1 n2 : Nat} {p q : Bool} {ad : Nat → Nat} {I : mmI} {J : mmJ} {Q : mmQ} (h : Q (some (.long a3)) ((fl, n1, n2, p, q, ad), I, J)) : mm_w Q (mm_wc (d)) bk_264 139 [none, none, none, some (.long a3), none, none, none, none] [] ((fl, n1, n2, p, q, ad), I, J) := by
  refine mm_go [25, 50, 73, 76, 108, 127, 139] 80 ?_
  exact h
/- 210 ThreeBreathsModel layFans -/
theorem fx_210k {d : Nat} {fl : Nat → Bool} {n1 n2 : Nat} {p q : Bool} {ad : Nat → Nat} {I : mmI} {J : mmJ} {Q : mmQ} (h : mm_w Q (mm_wc d) bk_210 2 [some (.ref 46), some (.int (nI 0)), none, none, none] [] ((fl, n1, n2, p, q, ad), I, J)) : mm_wc (d + 1) 210 [.ref 46] ((fl, n1, n2, p, q, ad), I, J) Q := by
  refine mm_call (c := 210) rfl rfl ?_
  refine mm_go [2, 19, 48, 64, 79, 169, 170] 80 ?_
  exact h
theorem fx_210k_2 {d : Nat} {a1 : Int32} {fl : Nat → Bool} {n1 n2 : Nat} {p q : Bool} {ad : Nat → Nat} {I : mmI} {J : mmJ} {Q : mmQ} (h : mm_wc d 206 [.ref 46] ((fl, 0, 0, p, q, ad), I, J) (fun v τ => ∃ r1 I1 J1, v = some (.int r1) ∧ τ = ((fl, 0, 0, p, q, ad), I1, J1) ∧ ((r1 ≤ a1 → mm_w Q (mm_wc d) bk_210 64 [some (.ref 46), some (.int (nI 0)), none, none, none] [] ((fl, n1, n2, p, q, ad), I1, J1)) ∧ (¬ r1 ≤ a1 → (vp_in a1 320 ∧ mm_w Q (mm_wc d) bk_210 19 [some (.ref 46), some (.int a1), some (.int (nI 0)), none, none] [] ((fl, n1, n2, p, q, ad), (mm_up I1 53 a1.toNatClampNeg (nI 0)), J1)))))) : mm_w Q (mm_wc (d)) bk_210 2 [some (.ref 46), some (.int a1), none, none, none] [] ((fl, n1, n2, p, q, ad), I, J) := by
  refine mm_go [2, 19, 48, 64, 79, 169, 170] 80 ?_
  show mm_wc d 206 [.ref 46] ((fl, 0, 0, p, q, ad), I, J) _
  refine mm_wcm h ?_
  rintro v τ ⟨r1, I1, J1, rfl, rfl, h1⟩
  refine mm_r1' ⟨rfl, ?_⟩
  show mm_b _ _ _ _ _ [some (.ref 46), some (.int a1), none, none, none] [.int r1, .int a1] ((fl, n1, n2, p, q, ad), I1, J1)
  show (r1 ≤ a1 → _) ∧ (¬ r1 ≤ a1 → _)
  refine ⟨fun c0 => ?_, fun c0 => ?_⟩
  · exact (h1.1 c0)
  · show mm_b _ _ _ _ _ [some (.ref 46), some (.int a1), none, none, none] [] ((fl, n1, n2, p, q, ad), I1, J1)
    show vp_in a1 320 ∧ _
    refine ⟨(h1.2 c0).1, ?_⟩
    exact (h1.2 c0).2
theorem fx_210k_64 {d : Nat} {a1 : Int32} {fl : Nat → Bool} {n1 n2 : Nat} {p q : Bool} {ad : Nat → Nat} {I : mmI} {J : mmJ} {Q : mmQ} (h : (((nI 11) ≤ a1 → Q none ((fl, n1, n2, p, q, ad), I, J)) ∧ (¬ (nI 11) ≤ a1 → (vp_in a1 11 ∧ mm_w Q (mm_wc d) bk_210 79 [some (.ref 46), some (.int a1), some (.int (nI 0)), none, none] [] ((fl, n1, n2, p, q, ad), (mm_up I 54 a1.toNatClampNeg (nI 0)), J))))) : mm_w Q (mm_wc (d)) bk_210 64 [some (.ref 46), some (.int a1), none, none, none] [] ((fl, n1, n2, p, q, ad), I, J) := by
  refine mm_go [2, 19, 48, 64, 79, 169, 170] 80 ?_
  show ((nI 11) ≤ a1 → _) ∧ (¬ (nI 11) ≤ a1 → _)
  refine ⟨fun c0 => ?_, fun c0 => ?_⟩
  · exact (h.1 c0)
  · show mm_b _ _ _ _ _ [some (.ref 46), some (.int a1), none, none, none] [] ((fl, n1, n2, p, q, ad), I, J)
    show vp_in a1 11 ∧ _
    refine ⟨(h.2 c0).1, ?_⟩
    exact (h.2 c0).2
theorem fx_210k_19 {d : Nat} {a1 : Int32} {a2 : Int32} {fl : Nat → Bool} {n1 n2 : Nat} {p q : Bool} {ad : Nat → Nat} {I : mmI} {J : mmJ} {Q : mmQ} (h : (((nI 11) ≤ a2 → mm_w Q (mm_wc d) bk_210 2 [some (.ref 46), some (.int (a1 + (nI 1))), none, none, none] [] ((fl, n1, n2, p, q, ad), I, J)) ∧ (¬ (nI 11) ≤ a2 → (vp_in a1 320 ∧ mm_wc d 209 [.ref 46, .int a1, .int a2] ((fl, 0, 0, p, q, ad), I, J) (fun v τ => ∃ r1 I1 J1, v = some (.int r1) ∧ τ = ((fl, 0, 0, p, q, ad), I1, J1) ∧ ((r1 = (nI 0) → mm_w Q (mm_wc d) bk_210 48 [some (.ref 46), some (.int a1), some (.int a2), none, none] [.int (nI 0), .int (I 53 a1.toNatClampNeg), .int a1, .ref 53] ((fl, n1, n2, p, q, ad), I1, J1)) ∧ (¬ r1 = (nI 0) → mm_w Q (mm_wc d) bk_210 48 [some (.ref 46), some (.int a1), some (.int a2), none, none] [.int ((nI 1) <<< (a2 &&& 31)), .int (I 53 a1.toNatClampNeg), .int a1, .ref 53] ((fl, n1, n2, p, q, ad), I1, J1)))))))) : mm_w Q (mm_wc (d)) bk_210 19 [some (.ref 46), some (.int a1), some (.int a2), none, none] [] ((fl, n1, n2, p, q, ad), I, J) := by
  refine mm_go [2, 19, 48, 64, 79, 169, 170] 80 ?_
  show ((nI 11) ≤ a2 → _) ∧ (¬ (nI 11) ≤ a2 → _)
  refine ⟨fun c0 => ?_, fun c0 => ?_⟩
  · exact (h.1 c0)
  · show mm_b _ _ _ _ _ [some (.ref 46), some (.int a1), some (.int a2), none, none] [] ((fl, n1, n2, p, q, ad), I, J)
    show vp_in a1 320 ∧ _
    refine ⟨(h.2 c0).1, ?_⟩
    show mm_b _ _ _ _ _ [some (.ref 46), some (.int a1), some (.int a2), none, none] [.int (I 53 a1.toNatClampNeg), .int a1, .ref 53] ((fl, n1, n2, p, q, ad), I, J)
    show mm_wc d 209 [.ref 46, .int a1, .int a2] ((fl, 0, 0, p, q, ad), I, J) _
    refine mm_wcm ((h.2 c0).2) ?_
    rintro v τ ⟨r1, I1, J1, rfl, rfl, h1⟩
    refine mm_r1' ⟨rfl, ?_⟩
    show mm_b _ _ _ _ _ [some (.ref 46), some (.int a1), some (.int a2), none, none] [.int r1, .int (I 53 a1.toNatClampNeg), .int a1, .ref 53] ((fl, n1, n2, p, q, ad), I1, J1)
    show (r1 = (nI 0) → _) ∧ (¬ r1 = (nI 0) → _)
    refine ⟨fun c1 => ?_, fun c1 => ?_⟩
    · exact (h1.1 c1)
    · exact (h1.2 c1)
theorem fx_210k_79 {d : Nat} {a1 : Int32} {a2 : Int32} {fl : Nat → Bool} {n1 n2 : Nat} {p q : Bool} {ad : Nat → Nat} {I : mmI} {J : mmJ} {Q : mmQ} (h : (((nI 11) ≤ a2 → mm_w Q (mm_wc d) bk_210 64 [some (.ref 46), some (.int (a1 + (nI 1))), none, none, none] [] ((fl, n1, n2, p, q, ad), I, J)) ∧ (¬ (nI 11) ≤ a2 → (vp_in ((nI 13) + a1) 279 ∧ (vp_in ((nI 13) + a2) 279 ∧ (vp_in ((nI 24) + a1) 279 ∧ (vp_in ((nI 24) + a2) 279 ∧ (vp_in a1 11 ∧ ((a1 = a2 → mm_w Q (mm_wc d) bk_210 169 [some (.ref 46), some (.int a1), some (.int a2), none, none] [.int (I 54 a1.toNatClampNeg), .int a1, .ref 54] ((fl, n1, n2, p, q, ad), I, J)) ∧ (¬ a1 = a2 → ((((I 49 1) * (I 49 1)) < ((((I 49 (((nI 13) + a1)).toNatClampNeg) - (I 49 (((nI 13) + a2)).toNatClampNeg)) * ((I 49 (((nI 13) + a1)).toNatClampNeg) - (I 49 (((nI 13) + a2)).toNatClampNeg))) + (((I 49 (((nI 24) + a1)).toNatClampNeg) - (I 49 (((nI 24) + a2)).toNatClampNeg)) * ((I 49 (((nI 24) + a1)).toNatClampNeg) - (I 49 (((nI 24) + a2)).toNatClampNeg)))) → mm_w Q (mm_wc d) bk_210 169 [some (.ref 46), some (.int a1), some (.int a2), none, none] [.int (I 54 a1.toNatClampNeg), .int a1, .ref 54] ((fl, n1, n2, p, q, ad), I, J)) ∧ (¬ ((I 49 1) * (I 49 1)) < ((((I 49 (((nI 13) + a1)).toNatClampNeg) - (I 49 (((nI 13) + a2)).toNatClampNeg)) * ((I 49 (((nI 13) + a1)).toNatClampNeg) - (I 49 (((nI 13) + a2)).toNatClampNeg))) + (((I 49 (((nI 24) + a1)).toNatClampNeg) - (I 49 (((nI 24) + a2)).toNatClampNeg)) * ((I 49 (((nI 24) + a1)).toNatClampNeg) - (I 49 (((nI 24) + a2)).toNatClampNeg)))) → mm_w Q (mm_wc d) bk_210 170 [some (.ref 46), some (.int a1), some (.int a2), none, none] [.int ((nI 1) <<< (a2 &&& 31)), .int (I 54 a1.toNatClampNeg), .int a1, .ref 54] ((fl, n1, n2, p, q, ad), I, J))))))))))))) : mm_w Q (mm_wc (d)) bk_210 79 [some (.ref 46), some (.int a1), some (.int a2), none, none] [] ((fl, n1, n2, p, q, ad), I, J) := by
  refine mm_go [2, 19, 48, 64, 79, 169, 170] 80 ?_
  show ((nI 11) ≤ a2 → _) ∧ (¬ (nI 11) ≤ a2 → _)
  refine ⟨fun c0 => ?_, fun c0 => ?_⟩
  · exact (h.1 c0)
  · show mm_b _ _ _ _ _ [some (.ref 46), some (.int a1), some (.int a2), none, none] [] ((fl, n1, n2, p, q, ad), I, J)
    show vp_in ((nI 13) + a1) 279 ∧ _
    refine ⟨(h.2 c0).1, ?_⟩
    show mm_b _ _ _ _ _ [some (.ref 46), some (.int a1), some (.int a2), none, none] [.int (I 49 (((nI 13) + a1)).toNatClampNeg)] ((fl, n1, n2, p, q, ad), I, J)
    show vp_in ((nI 13) + a2) 279 ∧ _
    refine ⟨(h.2 c0).2.1, ?_⟩
    show mm_b _ _ _ _ _ [some (.ref 46), some (.int a1), some (.int a2), none, none] [.int (I 49 (((nI 13) + a2)).toNatClampNeg), .int (I 49 (((nI 13) + a1)).toNatClampNeg)] ((fl, n1, n2, p, q, ad), I, J)
    show vp_in ((nI 24) + a1) 279 ∧ _
    refine ⟨(h.2 c0).2.2.1, ?_⟩
    show mm_b _ _ _ _ _ [some (.ref 46), some (.int a1), some (.int a2), some (.int ((I 49 (((nI 13) + a1)).toNatClampNeg) - (I 49 (((nI 13) + a2)).toNatClampNeg))), none] [.int (I 49 (((nI 24) + a1)).toNatClampNeg)] ((fl, n1, n2, p, q, ad), I, J)
    show vp_in ((nI 24) + a2) 279 ∧ _
    refine ⟨(h.2 c0).2.2.2.1, ?_⟩
    show mm_b _ _ _ _ _ [some (.ref 46), some (.int a1), some (.int a2), some (.int ((I 49 (((nI 13) + a1)).toNatClampNeg) - (I 49 (((nI 13) + a2)).toNatClampNeg))), none] [.int (I 49 (((nI 24) + a2)).toNatClampNeg), .int (I 49 (((nI 24) + a1)).toNatClampNeg)] ((fl, n1, n2, p, q, ad), I, J)
    show vp_in a1 11 ∧ _
    refine ⟨(h.2 c0).2.2.2.2.1, ?_⟩
    show mm_b _ _ _ _ _ [some (.ref 46), some (.int a1), some (.int a2), some (.int ((I 49 (((nI 13) + a1)).toNatClampNeg) - (I 49 (((nI 13) + a2)).toNatClampNeg))), some (.int ((I 49 (((nI 24) + a1)).toNatClampNeg) - (I 49 (((nI 24) + a2)).toNatClampNeg)))] [.int (I 54 a1.toNatClampNeg), .int a1, .ref 54] ((fl, n1, n2, p, q, ad), I, J)
    show (a1 = a2 → _) ∧ (¬ a1 = a2 → _)
    refine ⟨fun c1 => ?_, fun c1 => ?_⟩
    · exact ((h.2 c0).2.2.2.2.2.1 c1)
    · show mm_b _ _ _ _ _ [some (.ref 46), some (.int a1), some (.int a2), some (.int ((I 49 (((nI 13) + a1)).toNatClampNeg) - (I 49 (((nI 13) + a2)).toNatClampNeg))), some (.int ((I 49 (((nI 24) + a1)).toNatClampNeg) - (I 49 (((nI 24) + a2)).toNatClampNeg)))] [.int (I 54 a1.toNatClampNeg), .int a1, .ref 54] ((fl, n1, n2, p, q, ad), I, J)
      show (vp_in (nI 1) 279) ∧ _
      refine ⟨(mm_inl (by decide)), ?_⟩
      show mm_b _ _ _ _ _ [some (.ref 46), some (.int a1), some (.int a2), some (.int ((I 49 (((nI 13) + a1)).toNatClampNeg) - (I 49 (((nI 13) + a2)).toNatClampNeg))), some (.int ((I 49 (((nI 24) + a1)).toNatClampNeg) - (I 49 (((nI 24) + a2)).toNatClampNeg)))] [.int (I 49 1), .int ((((I 49 (((nI 13) + a1)).toNatClampNeg) - (I 49 (((nI 13) + a2)).toNatClampNeg)) * ((I 49 (((nI 13) + a1)).toNatClampNeg) - (I 49 (((nI 13) + a2)).toNatClampNeg))) + (((I 49 (((nI 24) + a1)).toNatClampNeg) - (I 49 (((nI 24) + a2)).toNatClampNeg)) * ((I 49 (((nI 24) + a1)).toNatClampNeg) - (I 49 (((nI 24) + a2)).toNatClampNeg)))), .int (I 54 a1.toNatClampNeg), .int a1, .ref 54] ((fl, n1, n2, p, q, ad), I, J)
      show (vp_in (nI 1) 279) ∧ _
      refine ⟨(mm_inl (by decide)), ?_⟩
      show mm_b _ _ _ _ _ [some (.ref 46), some (.int a1), some (.int a2), some (.int ((I 49 (((nI 13) + a1)).toNatClampNeg) - (I 49 (((nI 13) + a2)).toNatClampNeg))), some (.int ((I 49 (((nI 24) + a1)).toNatClampNeg) - (I 49 (((nI 24) + a2)).toNatClampNeg)))] [.int (I 49 1), .int (I 49 1), .int ((((I 49 (((nI 13) + a1)).toNatClampNeg) - (I 49 (((nI 13) + a2)).toNatClampNeg)) * ((I 49 (((nI 13) + a1)).toNatClampNeg) - (I 49 (((nI 13) + a2)).toNatClampNeg))) + (((I 49 (((nI 24) + a1)).toNatClampNeg) - (I 49 (((nI 24) + a2)).toNatClampNeg)) * ((I 49 (((nI 24) + a1)).toNatClampNeg) - (I 49 (((nI 24) + a2)).toNatClampNeg)))), .int (I 54 a1.toNatClampNeg), .int a1, .ref 54] ((fl, n1, n2, p, q, ad), I, J)
      show (((I 49 1) * (I 49 1)) < ((((I 49 (((nI 13) + a1)).toNatClampNeg) - (I 49 (((nI 13) + a2)).toNatClampNeg)) * ((I 49 (((nI 13) + a1)).toNatClampNeg) - (I 49 (((nI 13) + a2)).toNatClampNeg))) + (((I 49 (((nI 24) + a1)).toNatClampNeg) - (I 49 (((nI 24) + a2)).toNatClampNeg)) * ((I 49 (((nI 24) + a1)).toNatClampNeg) - (I 49 (((nI 24) + a2)).toNatClampNeg)))) → _) ∧ (¬ ((I 49 1) * (I 49 1)) < ((((I 49 (((nI 13) + a1)).toNatClampNeg) - (I 49 (((nI 13) + a2)).toNatClampNeg)) * ((I 49 (((nI 13) + a1)).toNatClampNeg) - (I 49 (((nI 13) + a2)).toNatClampNeg))) + (((I 49 (((nI 24) + a1)).toNatClampNeg) - (I 49 (((nI 24) + a2)).toNatClampNeg)) * ((I 49 (((nI 24) + a1)).toNatClampNeg) - (I 49 (((nI 24) + a2)).toNatClampNeg)))) → _)
      refine ⟨fun c2 => ?_, fun c2 => ?_⟩
      · exact (((h.2 c0).2.2.2.2.2.2 c1).1 c2)
      · exact (((h.2 c0).2.2.2.2.2.2 c1).2 c2)
theorem fx_210k_48 {d : Nat} {a1 : Int32} {a2 : Int32} {s0 : Int32} {s1 : Int32} {s2 : Int32} {fl : Nat → Bool} {n1 n2 : Nat} {p q : Bool} {ad : Nat → Nat} {I : mmI} {J : mmJ} {Q : mmQ} (h : (vp_in s2 320 ∧ mm_w Q (mm_wc d) bk_210 19 [some (.ref 46), some (.int a1), some (.int (a2 + (nI 1))), none, none] [] ((fl, n1, n2, p, q, ad), (mm_up I 53 s2.toNatClampNeg (s1 ||| s0)), J))) : mm_w Q (mm_wc (d)) bk_210 48 [some (.ref 46), some (.int a1), some (.int a2), none, none] [.int s0, .int s1, .int s2, .ref 53] ((fl, n1, n2, p, q, ad), I, J) := by
  refine mm_go [2, 19, 48, 64, 79, 169, 170] 80 ?_
  show vp_in s2 320 ∧ _
  refine ⟨h.1, ?_⟩
  exact h.2
theorem fx_210k_169 {d : Nat} {a1 : Int32} {a2 : Int32} {s0 : Int32} {s1 : Int32} {fl : Nat → Bool} {n1 n2 : Nat} {p q : Bool} {ad : Nat → Nat} {I : mmI} {J : mmJ} {Q : mmQ} (h : mm_w Q (mm_wc d) bk_210 170 [some (.ref 46), some (.int a1), some (.int a2), none, none] [.int (nI 0), .int s0, .int s1, .ref 54] ((fl, n1, n2, p, q, ad), I, J)) : mm_w Q (mm_wc (d)) bk_210 169 [some (.ref 46), some (.int a1), some (.int a2), none, none] [.int s0, .int s1, .ref 54] ((fl, n1, n2, p, q, ad), I, J) := by
  refine mm_go [2, 19, 48, 64, 79, 169, 170] 80 ?_
  exact h
theorem fx_210k_170 {d : Nat} {a1 : Int32} {a2 : Int32} {s0 : Int32} {s1 : Int32} {s2 : Int32} {fl : Nat → Bool} {n1 n2 : Nat} {p q : Bool} {ad : Nat → Nat} {I : mmI} {J : mmJ} {Q : mmQ} (h : (vp_in s2 11 ∧ mm_w Q (mm_wc d) bk_210 79 [some (.ref 46), some (.int a1), some (.int (a2 + (nI 1))), none, none] [] ((fl, n1, n2, p, q, ad), (mm_up I 54 s2.toNatClampNeg (s1 ||| s0)), J))) : mm_w Q (mm_wc (d)) bk_210 170 [some (.ref 46), some (.int a1), some (.int a2), none, none] [.int s0, .int s1, .int s2, .ref 54] ((fl, n1, n2, p, q, ad), I, J) := by
  refine mm_go [2, 19, 48, 64, 79, 169, 170] 80 ?_
  show vp_in s2 11 ∧ _
  refine ⟨h.1, ?_⟩
  exact h.2
/- 24 ThreeBreaths$Board behind -/
theorem fx_24k {d : Nat} {x0 : Int32} {x1 : Int32} {fl : Nat → Bool} {n1 n2 : Nat} {p q : Bool} {ad : Nat → Nat} {I : mmI} {J : mmJ} {Q : mmQ} (h : (vp_in (x0 &&& (nI 7)) 8 ∧ (vp_in ((((x0 >>> ((nI 3) &&& 31)) &&& (x1 ^^^ (-1))) ||| ((((x0 >>> ((nI 3) &&& 31)) &&& x1) &&& (I 6 11)) &&& ((I 14 ((x0 &&& (nI 7))).toNatClampNeg) ^^^ (-1)))) &&& (nI 1023)) 1024 ∧ ((((((x0 >>> ((nI 3) &&& 31)) &&& (x1 ^^^ (-1))) ||| ((((x0 >>> ((nI 3) &&& 31)) &&& x1) &&& (I 6 11)) &&& ((I 14 ((x0 &&& (nI 7))).toNatClampNeg) ^^^ (-1)))) &&& (nI 1024)) = (nI 0) → mm_w Q (mm_wc d) bk_24 67 [some (.ref 6), none, none, none, some (.int ((((x0 >>> ((nI 3) &&& 31)) &&& x1) &&& (I 6 11)) &&& ((I 14 ((x0 &&& (nI 7))).toNatClampNeg) ^^^ (-1)))), some (.int (((x0 >>> ((nI 3) &&& 31)) &&& (x1 ^^^ (-1))) ||| ((((x0 >>> ((nI 3) &&& 31)) &&& x1) &&& (I 6 11)) &&& ((I 14 ((x0 &&& (nI 7))).toNatClampNeg) ^^^ (-1))))), some (.int (I 12 (((((x0 >>> ((nI 3) &&& 31)) &&& (x1 ^^^ (-1))) ||| ((((x0 >>> ((nI 3) &&& 31)) &&& x1) &&& (I 6 11)) &&& ((I 14 ((x0 &&& (nI 7))).toNatClampNeg) ^^^ (-1)))) &&& (nI 1023))).toNatClampNeg))] [] ((fl, n1, n2, p, q, ad), I, J)) ∧ (¬ ((((x0 >>> ((nI 3) &&& 31)) &&& (x1 ^^^ (-1))) ||| ((((x0 >>> ((nI 3) &&& 31)) &&& x1) &&& (I 6 11)) &&& ((I 14 ((x0 &&& (nI 7))).toNatClampNeg) ^^^ (-1)))) &&& (nI 1024)) = (nI 0) → mm_w Q (mm_wc d) bk_24 67 [some (.ref 6), none, none, none, some (.int ((((x0 >>> ((nI 3) &&& 31)) &&& x1) &&& (I 6 11)) &&& ((I 14 ((x0 &&& (nI 7))).toNatClampNeg) ^^^ (-1)))), some (.int (((x0 >>> ((nI 3) &&& 31)) &&& (x1 ^^^ (-1))) ||| ((((x0 >>> ((nI 3) &&& 31)) &&& x1) &&& (I 6 11)) &&& ((I 14 ((x0 &&& (nI 7))).toNatClampNeg) ^^^ (-1))))), some (.int ((I 12 (((((x0 >>> ((nI 3) &&& 31)) &&& (x1 ^^^ (-1))) ||| ((((x0 >>> ((nI 3) &&& 31)) &&& x1) &&& (I 6 11)) &&& ((I 14 ((x0 &&& (nI 7))).toNatClampNeg) ^^^ (-1)))) &&& (nI 1023))).toNatClampNeg) ||| (I 6 14)))] [] ((fl, n1, n2, p, q, ad), I, J)))))) : mm_wc (d + 1) 24 [.ref 6, .int x0, .int x1] ((fl, n1, n2, p, q, ad), I, J) Q := by
  refine mm_call (c := 24) rfl rfl ?_
  refine mm_go [67] 80 ?_
  show vp_in (x0 &&& (nI 7)) 8 ∧ _
  refine ⟨h.1, ?_⟩
  show mm_b _ _ _ _ _ [some (.ref 6), some (.int x0), some (.int x1), some (.int (x0 >>> ((nI 3) &&& 31))), none, none, none] [.int (I 14 ((x0 &&& (nI 7))).toNatClampNeg), .int (((x0 >>> ((nI 3) &&& 31)) &&& x1) &&& (I 6 11))] ((fl, n1, n2, p, q, ad), I, J)
  show vp_in ((((x0 >>> ((nI 3) &&& 31)) &&& (x1 ^^^ (-1))) ||| ((((x0 >>> ((nI 3) &&& 31)) &&& x1) &&& (I 6 11)) &&& ((I 14 ((x0 &&& (nI 7))).toNatClampNeg) ^^^ (-1)))) &&& (nI 1023)) 1024 ∧ _
  refine ⟨h.2.1, ?_⟩
  show mm_b _ _ _ _ _ [some (.ref 6), some (.int x0), some (.int x1), some (.int (x0 >>> ((nI 3) &&& 31))), some (.int ((((x0 >>> ((nI 3) &&& 31)) &&& x1) &&& (I 6 11)) &&& ((I 14 ((x0 &&& (nI 7))).toNatClampNeg) ^^^ (-1)))), some (.int (((x0 >>> ((nI 3) &&& 31)) &&& (x1 ^^^ (-1))) ||| ((((x0 >>> ((nI 3) &&& 31)) &&& x1) &&& (I 6 11)) &&& ((I 14 ((x0 &&& (nI 7))).toNatClampNeg) ^^^ (-1))))), none] [.int (I 12 (((((x0 >>> ((nI 3) &&& 31)) &&& (x1 ^^^ (-1))) ||| ((((x0 >>> ((nI 3) &&& 31)) &&& x1) &&& (I 6 11)) &&& ((I 14 ((x0 &&& (nI 7))).toNatClampNeg) ^^^ (-1)))) &&& (nI 1023))).toNatClampNeg)] ((fl, n1, n2, p, q, ad), I, J)
  show (((((x0 >>> ((nI 3) &&& 31)) &&& (x1 ^^^ (-1))) ||| ((((x0 >>> ((nI 3) &&& 31)) &&& x1) &&& (I 6 11)) &&& ((I 14 ((x0 &&& (nI 7))).toNatClampNeg) ^^^ (-1)))) &&& (nI 1024)) = (nI 0) → _) ∧ (¬ ((((x0 >>> ((nI 3) &&& 31)) &&& (x1 ^^^ (-1))) ||| ((((x0 >>> ((nI 3) &&& 31)) &&& x1) &&& (I 6 11)) &&& ((I 14 ((x0 &&& (nI 7))).toNatClampNeg) ^^^ (-1)))) &&& (nI 1024)) = (nI 0) → _)
  refine ⟨fun c0 => ?_, fun c0 => ?_⟩
  · exact (h.2.2.1 c0)
  · exact (h.2.2.2 c0)
theorem fx_24k_67 {d : Nat} {a4 : Int32} {a5 : Int32} {a6 : Int32} {fl : Nat → Bool} {n1 n2 : Nat} {p q : Bool} {ad : Nat → Nat} {I : mmI} {J : mmJ} {Q : mmQ} (h : mm_wc d 23 [.ref 6, .int (a5 ||| (a6 &&& ((I 6 13) ^^^ (-1)))), .int a4] ((fl, 0, 0, p, q, ad), I, J) (fun v τ => ∃ r1 I1 J1, v = some (.int r1) ∧ τ = ((fl, 0, 0, p, q, ad), I1, J1) ∧ Q (some (.int r1)) ((fl, n1, n2, p, q, ad), I1, J1))) : mm_w Q (mm_wc (d)) bk_24 67 [some (.ref 6), none, none, none, some (.int a4), some (.int a5), some (.int a6)] [] ((fl, n1, n2, p, q, ad), I, J) := by
  refine mm_go [67] 80 ?_
  show mm_wc d 23 [.ref 6, .int (a5 ||| (a6 &&& ((I 6 13) ^^^ (-1)))), .int a4] ((fl, 0, 0, p, q, ad), I, J) _
  refine mm_wcm h ?_
  rintro v τ ⟨r1, I1, J1, rfl, rfl, h1⟩
  refine mm_r1' ⟨rfl, ?_⟩
  exact h1
/- 58 ThreeBreaths$Reader read -/
theorem fx_58k {d : Nat} {x0 : Int32} {fl : Nat → Bool} {n1 n2 : Nat} {p q : Bool} {ad : Nat → Nat} {I : mmI} {J : mmJ} {Q : mmQ} (h : mm_wc d 31 [.ref (mm_ck q 0)] ((fl, 0, 0, p, q, ad), I, J) (fun v τ => ∃ I1 J1, v = none ∧ τ = ((fl, 0, 0, p, q, ad), I1, J1) ∧ mm_wc d 1002 [.int x0, .int (I1 1 1)] ((fl, 0, 0, p, q, ad), I1, J1) (fun v τ => ∃ r2 I2 J2, v = some (.int r2) ∧ τ = ((fl, 0, 0, p, q, ad), I2, J2) ∧ mm_wc d 77 [.ref 1] ((fl, 0, 0, p, q, ad), (mm_up (mm_up (mm_up (mm_up (mm_up I2 1 2 r2) 1 1 (nI 0)) 1 5 (nI 0)) 1 12 (nI 0)) 1 14 (nI 0)), J2) (fun v τ => ∃ I3 J3, v = none ∧ τ = ((fl, 0, 0, p, q, ad), I3, J3) ∧ mm_wc d 61 [.ref 1] ((fl, 0, 0, p, q, ad), I3, J3) (fun v τ => ∃ r4 I4 J4, v = some (.int r4) ∧ τ = ((fl, 0, 0, p, q, ad), I4, J4) ∧ mm_w Q (mm_wc d) bk_58 50 [some (.ref 1), none, some (.int r4), some (.int (nI 0))] [] ((fl, n1, n2, p, q, ad), I4, J4)))))) : mm_wc (d + 1) 58 [.ref 1, .int x0] ((fl, n1, n2, p, q, ad), I, J) Q := by
  cases q
  · refine mm_call (c := 58) rfl rfl ?_
    refine mm_go [50, 88, 89, 96, 116] 80 ?_
    show mm_wc d 31 [.ref 32] ((fl, 0, 0, p, false, ad), I, J) _
    refine mm_wcm h ?_
    rintro v τ ⟨I1, J1, rfl, rfl, h1⟩
    refine mm_r0' ⟨rfl, ?_⟩
    show mm_b _ _ _ _ _ [some (.ref 1), some (.int x0), none, none] [] ((fl, n1, n2, p, false, ad), I1, J1)
    show mm_wc d 1002 [.int x0, .int (I1 1 1)] ((fl, 0, 0, p, false, ad), I1, J1) _
    refine mm_wcm h1 ?_
    rintro v τ ⟨r2, I2, J2, rfl, rfl, h2⟩
    refine mm_r1' ⟨rfl, ?_⟩
    show mm_b _ _ _ _ _ [some (.ref 1), some (.int x0), none, none] [.int r2, .ref 1] ((fl, n1, n2, p, false, ad), I2, J2)
    show mm_wc d 77 [.ref 1] ((fl, 0, 0, p, false, ad), (mm_up (mm_up (mm_up (mm_up (mm_up I2 1 2 r2) 1 1 (nI 0)) 1 5 (nI 0)) 1 12 (nI 0)) 1 14 (nI 0)), J2) _
    refine mm_wcm h2 ?_
    rintro v τ ⟨I3, J3, rfl, rfl, h3⟩
    refine mm_r0' ⟨rfl, ?_⟩
    show mm_b _ _ _ _ _ [some (.ref 1), some (.int x0), none, none] [] ((fl, n1, n2, p, false, ad), I3, J3)
    show mm_wc d 61 [.ref 1] ((fl, 0, 0, p, false, ad), I3, J3) _
    refine mm_wcm h3 ?_
    rintro v τ ⟨r4, I4, J4, rfl, rfl, h4⟩
    refine mm_r1' ⟨rfl, ?_⟩
    exact h4
  · refine mm_call (c := 58) rfl rfl ?_
    refine mm_go [50, 88, 89, 96, 116] 80 ?_
    show mm_wc d 31 [.ref 18] ((fl, 0, 0, p, true, ad), I, J) _
    refine mm_wcm h ?_
    rintro v τ ⟨I1, J1, rfl, rfl, h1⟩
    refine mm_r0' ⟨rfl, ?_⟩
    show mm_b _ _ _ _ _ [some (.ref 1), some (.int x0), none, none] [] ((fl, n1, n2, p, true, ad), I1, J1)
    show mm_wc d 1002 [.int x0, .int (I1 1 1)] ((fl, 0, 0, p, true, ad), I1, J1) _
    refine mm_wcm h1 ?_
    rintro v τ ⟨r2, I2, J2, rfl, rfl, h2⟩
    refine mm_r1' ⟨rfl, ?_⟩
    show mm_b _ _ _ _ _ [some (.ref 1), some (.int x0), none, none] [.int r2, .ref 1] ((fl, n1, n2, p, true, ad), I2, J2)
    show mm_wc d 77 [.ref 1] ((fl, 0, 0, p, true, ad), (mm_up (mm_up (mm_up (mm_up (mm_up I2 1 2 r2) 1 1 (nI 0)) 1 5 (nI 0)) 1 12 (nI 0)) 1 14 (nI 0)), J2) _
    refine mm_wcm h2 ?_
    rintro v τ ⟨I3, J3, rfl, rfl, h3⟩
    refine mm_r0' ⟨rfl, ?_⟩
    show mm_b _ _ _ _ _ [some (.ref 1), some (.int x0), none, none] [] ((fl, n1, n2, p, true, ad), I3, J3)
    show mm_wc d 61 [.ref 1] ((fl, 0, 0, p, true, ad), I3, J3) _
    refine mm_wcm h3 ?_
    rintro v τ ⟨r4, I4, J4, rfl, rfl, h4⟩
    refine mm_r1' ⟨rfl, ?_⟩
    exact h4
theorem fx_58k_50 {d : Nat} {a2 : Int32} {a3 : Int32} {fl : Nat → Bool} {n1 n2 : Nat} {p q : Bool} {ad : Nat → Nat} {I : mmI} {J : mmJ} {Q : mmQ} (h : (((I 1 2) ≤ a3 → mm_w Q (mm_wc d) bk_58 96 [some (.ref 1), none, some (.int a2), none] [] ((fl, n1, n2, p, q, ad), I, J)) ∧ (¬ (I 1 2) ≤ a3 → ((a2 = (nI 0) → mm_w Q (mm_wc d) bk_58 96 [some (.ref 1), none, some (.int a2), none] [] ((fl, n1, n2, p, q, ad), I, J)) ∧ (¬ a2 = (nI 0) → (((I 1 3) = (nI 0) → mm_w Q (mm_wc d) bk_58 96 [some (.ref 1), none, some (.int a2), none] [] ((fl, n1, n2, p, q, ad), I, J)) ∧ (¬ (I 1 3) = (nI 0) → mm_wc d 76 [.ref 1, .int (nI 3)] ((fl, 0, 0, p, q, ad), I, J) (fun v τ => ∃ r1 I1 J1, v = some (.int r1) ∧ τ = ((fl, 0, 0, p, q, ad), I1, J1) ∧ ((r1 = (nI 0) → mm_w Q (mm_wc d) bk_58 88 [some (.ref 1), none, none, some (.int a3)] [] ((fl, n1, n2, p, q, ad), I1, J1)) ∧ (¬ r1 = (nI 0) → mm_wc d 61 [.ref 1] ((fl, 0, 0, p, q, ad), I1, J1) (fun v τ => ∃ r2 I2 J2, v = some (.int r2) ∧ τ = ((fl, 0, 0, p, q, ad), I2, J2) ∧ ((r2 = (nI 0) → mm_w Q (mm_wc d) bk_58 88 [some (.ref 1), none, none, some (.int a3)] [] ((fl, n1, n2, p, q, ad), I2, J2)) ∧ (¬ r2 = (nI 0) → mm_w Q (mm_wc d) bk_58 89 [some (.ref 1), none, none, some (.int a3)] [.int (nI 1)] ((fl, n1, n2, p, q, ad), I2, J2)))))))))))))) : mm_w Q (mm_wc (d)) bk_58 50 [some (.ref 1), none, some (.int a2), some (.int a3)] [] ((fl, n1, n2, p, q, ad), I, J) := by
  refine mm_go [50, 88, 89, 96, 116] 80 ?_
  show ((I 1 2) ≤ a3 → _) ∧ (¬ (I 1 2) ≤ a3 → _)
  refine ⟨fun c0 => ?_, fun c0 => ?_⟩
  · exact (h.1 c0)
  · show mm_b _ _ _ _ _ [some (.ref 1), none, some (.int a2), some (.int a3)] [] ((fl, n1, n2, p, q, ad), I, J)
    show (a2 = (nI 0) → _) ∧ (¬ a2 = (nI 0) → _)
    refine ⟨fun c1 => ?_, fun c1 => ?_⟩
    · exact ((h.2 c0).1 c1)
    · show mm_b _ _ _ _ _ [some (.ref 1), none, some (.int a2), some (.int a3)] [] ((fl, n1, n2, p, q, ad), I, J)
      show ((I 1 3) = (nI 0) → _) ∧ (¬ (I 1 3) = (nI 0) → _)
      refine ⟨fun c2 => ?_, fun c2 => ?_⟩
      · exact (((h.2 c0).2 c1).1 c2)
      · show mm_b _ _ _ _ _ [some (.ref 1), none, some (.int a2), some (.int a3)] [] ((fl, n1, n2, p, q, ad), I, J)
        show mm_wc d 76 [.ref 1, .int (nI 3)] ((fl, 0, 0, p, q, ad), I, J) _
        refine mm_wcm (((h.2 c0).2 c1).2 c2) ?_
        rintro v τ ⟨r1, I1, J1, rfl, rfl, h1⟩
        refine mm_r1' ⟨rfl, ?_⟩
        show mm_b _ _ _ _ _ [some (.ref 1), none, some (.int a2), some (.int a3)] [.int r1] ((fl, n1, n2, p, q, ad), I1, J1)
        show (r1 = (nI 0) → _) ∧ (¬ r1 = (nI 0) → _)
        refine ⟨fun c3 => ?_, fun c3 => ?_⟩
        · exact (h1.1 c3)
        · show mm_b _ _ _ _ _ [some (.ref 1), none, some (.int a2), some (.int a3)] [] ((fl, n1, n2, p, q, ad), I1, J1)
          show mm_wc d 61 [.ref 1] ((fl, 0, 0, p, q, ad), I1, J1) _
          refine mm_wcm (h1.2 c3) ?_
          rintro v τ ⟨r2, I2, J2, rfl, rfl, h2⟩
          refine mm_r1' ⟨rfl, ?_⟩
          show mm_b _ _ _ _ _ [some (.ref 1), none, some (.int a2), some (.int a3)] [.int r2] ((fl, n1, n2, p, q, ad), I2, J2)
          show (r2 = (nI 0) → _) ∧ (¬ r2 = (nI 0) → _)
          refine ⟨fun c4 => ?_, fun c4 => ?_⟩
          · exact (h2.1 c4)
          · exact (h2.2 c4)
theorem fx_58k_96 {d : Nat} {a2 : Int32} {fl : Nat → Bool} {n1 n2 : Nat} {p q : Bool} {ad : Nat → Nat} {I : mmI} {J : mmJ} {Q : mmQ} (h : ((a2 = (nI 0) → mm_w Q (mm_wc d) bk_58 116 [some (.ref 1), none, none, none] [] ((fl, n1, n2, p, q, ad), I, J)) ∧ (¬ a2 = (nI 0) → mm_wc d 32 [.ref (mm_ck q 0)] ((fl, 0, 0, p, q, ad), I, J) (fun v τ => ∃ r1 I1 J1, v = some (.int r1) ∧ τ = ((fl, 0, 0, p, q, ad), I1, J1) ∧ ((r1 = (nI 0) → mm_w Q (mm_wc d) bk_58 116 [some (.ref 1), none, none, none] [] ((fl, n1, n2, p, q, ad), I1, J1)) ∧ (¬ r1 = (nI 0) → mm_w Q (mm_wc d) bk_58 116 [some (.ref 1), none, none, none] [] ((fl, n1, n2, p, q, ad), (mm_up I1 1 14 (nI 6)), J1))))))) : mm_w Q (mm_wc (d)) bk_58 96 [some (.ref 1), none, some (.int a2), none] [] ((fl, n1, n2, p, q, ad), I, J) := by
  cases q
  · refine mm_go [50, 88, 89, 96, 116] 80 ?_
    show (a2 = (nI 0) → _) ∧ (¬ a2 = (nI 0) → _)
    refine ⟨fun c0 => ?_, fun c0 => ?_⟩
    · exact (h.1 c0)
    · show mm_b _ _ _ _ _ [some (.ref 1), none, some (.int a2), none] [] ((fl, n1, n2, p, false, ad), I, J)
      show mm_wc d 32 [.ref 32] ((fl, 0, 0, p, false, ad), I, J) _
      refine mm_wcm (h.2 c0) ?_
      rintro v τ ⟨r1, I1, J1, rfl, rfl, h1⟩
      refine mm_r1' ⟨rfl, ?_⟩
      show mm_b _ _ _ _ _ [some (.ref 1), none, some (.int a2), none] [.int r1] ((fl, n1, n2, p, false, ad), I1, J1)
      show (r1 = (nI 0) → _) ∧ (¬ r1 = (nI 0) → _)
      refine ⟨fun c1 => ?_, fun c1 => ?_⟩
      · exact (h1.1 c1)
      · exact (h1.2 c1)
  · refine mm_go [50, 88, 89, 96, 116] 80 ?_
    show (a2 = (nI 0) → _) ∧ (¬ a2 = (nI 0) → _)
    refine ⟨fun c0 => ?_, fun c0 => ?_⟩
    · exact (h.1 c0)
    · show mm_b _ _ _ _ _ [some (.ref 1), none, some (.int a2), none] [] ((fl, n1, n2, p, true, ad), I, J)
      show mm_wc d 32 [.ref 18] ((fl, 0, 0, p, true, ad), I, J) _
      refine mm_wcm (h.2 c0) ?_
      rintro v τ ⟨r1, I1, J1, rfl, rfl, h1⟩
      refine mm_r1' ⟨rfl, ?_⟩
      show mm_b _ _ _ _ _ [some (.ref 1), none, some (.int a2), none] [.int r1] ((fl, n1, n2, p, true, ad), I1, J1)
      show (r1 = (nI 0) → _) ∧ (¬ r1 = (nI 0) → _)
      refine ⟨fun c1 => ?_, fun c1 => ?_⟩
      · exact (h1.1 c1)
      · exact (h1.2 c1)
theorem fx_58k_88 {d : Nat} {a3 : Int32} {fl : Nat → Bool} {n1 n2 : Nat} {p q : Bool} {ad : Nat → Nat} {I : mmI} {J : mmJ} {Q : mmQ} (h : mm_w Q (mm_wc d) bk_58 89 [some (.ref 1), none, none, some (.int a3)] [.int (nI 0)] ((fl, n1, n2, p, q, ad), I, J)) : mm_w Q (mm_wc (d)) bk_58 88 [some (.ref 1), none, none, some (.int a3)] [] ((fl, n1, n2, p, q, ad), I, J) := by
  refine mm_go [50, 88, 89, 96, 116] 80 ?_
  exact h
theorem fx_58k_89 {d : Nat} {a3 : Int32} {s0 : Int32} {fl : Nat → Bool} {n1 n2 : Nat} {p q : Bool} {ad : Nat → Nat} {I : mmI} {J : mmJ} {Q : mmQ} (h : mm_w Q (mm_wc d) bk_58 50 [some (.ref 1), none, some (.int s0), some (.int (a3 + (nI 1)))] [] ((fl, n1, n2, p, q, ad), I, J)) : mm_w Q (mm_wc (d)) bk_58 89 [some (.ref 1), none, none, some (.int a3)] [.int s0] ((fl, n1, n2, p, q, ad), I, J) := by
  refine mm_go [50, 88, 89, 96, 116] 80 ?_
  exact h
theorem fx_58k_116 {d : Nat} {fl : Nat → Bool} {n1 n2 : Nat} {p q : Bool} {ad : Nat → Nat} {I : mmI} {J : mmJ} {Q : mmQ} (h : Q (some (.int (I 1 14))) ((fl, n1, n2, p, q, ad), I, J)) : mm_w Q (mm_wc (d)) bk_58 116 [some (.ref 1), none, none, none] [] ((fl, n1, n2, p, q, ad), I, J) := by
  refine mm_go [50, 88, 89, 96, 116] 80 ?_
  exact h
/- 183 ThreeBreathsModel newName -/
theorem fx_183k {d : Nat} {x0 : Int32} {fl : Nat → Bool} {n1 n2 : Nat} {p q : Bool} {ad : Nat → Nat} {I : mmI} {J : mmJ} {Q : mmQ} (h : (((I 46 13) = (nI 0) → mm_wc d 181 [.ref 46] ((fl, 0, 0, p, q, ad), I, J) (fun v τ => ∃ I1 J1, v = none ∧ τ = ((fl, 0, 0, p, q, ad), I1, J1) ∧ ((¬ (I1 46 13) = (nI 0) → mm_w Q (mm_wc d) bk_183 35 [some (.ref 46), some (.int x0), none] [] ((fl, n1, n2, p, q, ad), I1, J1)) ∧ ((I1 46 13) = (nI 0) → mm_wc d 182 [.ref 46] ((fl, 0, 0, p, q, ad), I1, J1) (fun v τ => ∃ r2 I2 J2, v = some (.int r2) ∧ τ = ((fl, 0, 0, p, q, ad), I2, J2) ∧ ((r2 < (nI 0) → mm_w Q (mm_wc d) bk_183 35 [some (.ref 46), some (.int x0), none] [] ((fl, n1, n2, p, q, ad), I2, J2)) ∧ (¬ r2 < (nI 0) → mm_wc d 177 [.ref 46, .int (nI 3), .int (I2 46 4)] ((fl, 0, 0, p, q, ad), I2, J2) (fun v τ => ∃ I3 J3, v = none ∧ τ = ((fl, 0, 0, p, q, ad), I3, J3) ∧ mm_w Q (mm_wc d) bk_183 35 [some (.ref 46), some (.int x0), none] [] ((fl, n1, n2, p, q, ad), I3, J3))))))))) ∧ (¬ (I 46 13) = (nI 0) → Q none ((fl, n1, n2, p, q, ad), I, J)))) : mm_wc (d + 1) 183 [.ref 46, .int x0] ((fl, n1, n2, p, q, ad), I, J) Q := by
  refine mm_call (c := 183) rfl rfl ?_
  refine mm_go [35, 45] 80 ?_
  show ((I 46 13) = (nI 0) → _) ∧ (¬ (I 46 13) = (nI 0) → _)
  refine ⟨fun c0 => ?_, fun c0 => ?_⟩
  · show mm_u _ _ _ _ _ _ [some (.ref 46), some (.int x0), none] [] ((fl, n1, n2, p, q, ad), I, J)
    show mm_wc d 181 [.ref 46] ((fl, 0, 0, p, q, ad), I, J) _
    refine mm_wcm (h.1 c0) ?_
    rintro v τ ⟨I1, J1, rfl, rfl, h1⟩
    refine mm_r0' ⟨rfl, ?_⟩
    show mm_b _ _ _ _ _ [some (.ref 46), some (.int x0), none] [] ((fl, n1, n2, p, q, ad), I1, J1)
    show (¬ (I1 46 13) = (nI 0) → _) ∧ ((I1 46 13) = (nI 0) → _)
    refine ⟨fun c1 => ?_, fun c1 => ?_⟩
    · exact (h1.1 c1)
    · show mm_b _ _ _ _ _ [some (.ref 46), some (.int x0), none] [] ((fl, n1, n2, p, q, ad), I1, J1)
      show mm_wc d 182 [.ref 46] ((fl, 0, 0, p, q, ad), I1, J1) _
      refine mm_wcm (h1.2 c1) ?_
      rintro v τ ⟨r2, I2, J2, rfl, rfl, h2⟩
      refine mm_r1' ⟨rfl, ?_⟩
      show mm_b _ _ _ _ _ [some (.ref 46), some (.int x0), none] [.int r2] ((fl, n1, n2, p, q, ad), I2, J2)
      show (r2 < (nI 0) → _) ∧ (¬ r2 < (nI 0) → _)
      refine ⟨fun c2 => ?_, fun c2 => ?_⟩
      · exact (h2.1 c2)
      · show mm_b _ _ _ _ _ [some (.ref 46), some (.int x0), none] [] ((fl, n1, n2, p, q, ad), I2, J2)
        show mm_wc d 177 [.ref 46, .int (nI 3), .int (I2 46 4)] ((fl, 0, 0, p, q, ad), I2, J2) _
        refine mm_wcm (h2.2 c2) ?_
        rintro v τ ⟨I3, J3, rfl, rfl, h3⟩
        refine mm_r0' ⟨rfl, ?_⟩
        exact h3
  · exact (h.2 c0)
theorem fx_183k_35 {d : Nat} {a1 : Int32} {fl : Nat → Bool} {n1 n2 : Nat} {p q : Bool} {ad : Nat → Nat} {I : mmI} {J : mmJ} {Q : mmQ} (h : (((I 46 13) = (nI 0) → mm_w Q (mm_wc d) bk_183 45 [some (.ref 46), some (.int a1), some (.int (nI 0))] [] ((fl, n1, n2, p, q, ad), I, J)) ∧ (¬ (I 46 13) = (nI 0) → Q none ((fl, n1, n2, p, q, ad), I, J)))) : mm_w Q (mm_wc (d)) bk_183 35 [some (.ref 46), some (.int a1), none] [] ((fl, n1, n2, p, q, ad), I, J) := by
  refine mm_go [35, 45] 80 ?_
  show ((I 46 13) = (nI 0) → _) ∧ (¬ (I 46 13) = (nI 0) → _)
  refine ⟨fun c0 => ?_, fun c0 => ?_⟩
  · exact (h.1 c0)
  · exact (h.2 c0)
theorem fx_183k_45 {d : Nat} {a1 : Int32} {a2 : Int32} {fl : Nat → Bool} {n1 n2 : Nat} {p q : Bool} {ad : Nat → Nat} {I : mmI} {J : mmJ} {Q : mmQ} (h : (((I 46 8) ≤ a2 → (vp_in ((nI 72) + a1) 279 ∧ mm_wc d 176 [.ref 46] ((fl, 0, 0, p, q, ad), (mm_up I 50 (((nI 72) + a1)).toNatClampNeg (I 46 8)), J) (fun v τ => ∃ I1 J1, v = none ∧ τ = ((fl, 0, 0, p, q, ad), I1, J1) ∧ Q none ((fl, n1, n2, p, q, ad), I1, J1)))) ∧ (¬ (I 46 8) ≤ a2 → (vp_in a2 8 ∧ (vp_in (((nI 95) + ((nI 8) * a1)) + a2) 279 ∧ mm_w Q (mm_wc d) bk_183 45 [some (.ref 46), some (.int a1), some (.int (a2 + (nI 1)))] [] ((fl, n1, n2, p, q, ad), (mm_up I 50 ((((nI 95) + ((nI 8) * a1)) + a2)).toNatClampNeg (I 48 a2.toNatClampNeg)), J)))))) : mm_w Q (mm_wc (d)) bk_183 45 [some (.ref 46), some (.int a1), some (.int a2)] [] ((fl, n1, n2, p, q, ad), I, J) := by
  refine mm_go [35, 45] 80 ?_
  show ((I 46 8) ≤ a2 → _) ∧ (¬ (I 46 8) ≤ a2 → _)
  refine ⟨fun c0 => ?_, fun c0 => ?_⟩
  · show mm_u _ _ _ _ _ _ [some (.ref 46), some (.int a1), some (.int a2)] [] ((fl, n1, n2, p, q, ad), I, J)
    show vp_in ((nI 72) + a1) 279 ∧ _
    refine ⟨(h.1 c0).1, ?_⟩
    show mm_b _ _ _ _ _ [some (.ref 46), some (.int a1), none] [] ((fl, n1, n2, p, q, ad), (mm_up I 50 (((nI 72) + a1)).toNatClampNeg (I 46 8)), J)
    show mm_wc d 176 [.ref 46] ((fl, 0, 0, p, q, ad), (mm_up I 50 (((nI 72) + a1)).toNatClampNeg (I 46 8)), J) _
    refine mm_wcm ((h.1 c0).2) ?_
    rintro v τ ⟨I1, J1, rfl, rfl, h1⟩
    refine mm_r0' ⟨rfl, ?_⟩
    exact h1
  · show mm_b _ _ _ _ _ [some (.ref 46), some (.int a1), some (.int a2)] [] ((fl, n1, n2, p, q, ad), I, J)
    show vp_in a2 8 ∧ _
    refine ⟨(h.2 c0).1, ?_⟩
    show mm_b _ _ _ _ _ [some (.ref 46), some (.int a1), some (.int a2)] [.int (I 48 a2.toNatClampNeg), .int (((nI 95) + ((nI 8) * a1)) + a2), .ref 50] ((fl, n1, n2, p, q, ad), I, J)
    show vp_in (((nI 95) + ((nI 8) * a1)) + a2) 279 ∧ _
    refine ⟨(h.2 c0).2.1, ?_⟩
    exact (h.2 c0).2.2
/- 1 ThreeBreaths$Board findFans -/
theorem fx_1k {d : Nat} {fl : Nat → Bool} {n1 n2 : Nat} {p q : Bool} {ad : Nat → Nat} {I : mmI} {J : mmJ} {Q : mmQ} (h : mm_w Q (mm_wc d) bk_1 2 [some (.ref 6), some (.int (nI 0)), none, none] [] ((fl, n1, n2, p, q, ad), I, J)) : mm_wc (d + 1) 1 [.ref 6] ((fl, n1, n2, p, q, ad), I, J) Q := by
  refine mm_call (c := 1) rfl rfl ?_
  refine mm_go [2, 14, 72, 84] 80 ?_
  exact h
theorem fx_1k_2 {d : Nat} {a1 : Int32} {fl : Nat → Bool} {n1 n2 : Nat} {p q : Bool} {ad : Nat → Nat} {I : mmI} {J : mmJ} {Q : mmQ} (h : (((I 6 2) ≤ a1 → Q none ((fl, n1, n2, p, q, ad), I, J)) ∧ (¬ (I 6 2) ≤ a1 → mm_w Q (mm_wc d) bk_1 14 [some (.ref 6), some (.int a1), some (.int (nI 0)), some (.int (nI 0))] [] ((fl, n1, n2, p, q, ad), I, J)))) : mm_w Q (mm_wc (d)) bk_1 2 [some (.ref 6), some (.int a1), none, none] [] ((fl, n1, n2, p, q, ad), I, J) := by
  refine mm_go [2, 14, 72, 84] 80 ?_
  show ((I 6 2) ≤ a1 → _) ∧ (¬ (I 6 2) ≤ a1 → _)
  refine ⟨fun c0 => ?_, fun c0 => ?_⟩
  · exact (h.1 c0)
  · exact (h.2 c0)
theorem fx_1k_14 {d : Nat} {a1 : Int32} {a2 : Int32} {a3 : Int32} {fl : Nat → Bool} {n1 n2 : Nat} {p q : Bool} {ad : Nat → Nat} {I : mmI} {J : mmJ} {Q : mmQ} (h : (((I (mm_ck p 1) 3) ≤ a3 → (vp_in a1 320 ∧ mm_w Q (mm_wc d) bk_1 2 [some (.ref 6), some (.int (a1 + (nI 1))), none, none] [] ((fl, n1, n2, p, q, ad), (mm_up I 7 a1.toNatClampNeg a2), J))) ∧ (¬ (I (mm_ck p 1) 3) ≤ a3 → (vp_in a3 10 ∧ (vp_in a3 10 ∧ (vp_in a3 10 ∧ ((¬ (I (mm_ck p 4) a3.toNatClampNeg) = (nI 1) → mm_w Q (mm_wc d) bk_1 72 [some (.ref 6), some (.int a1), some (.int a2), some (.int a3)] [.int (nI 0), .int (I (mm_ck p 3) a3.toNatClampNeg), .int (I (mm_ck p 2) a3.toNatClampNeg), .int a1, .ref 6] ((fl, n1, n2, p, q, ad), I, J)) ∧ ((I (mm_ck p 4) a3.toNatClampNeg) = (nI 1) → mm_w Q (mm_wc d) bk_1 72 [some (.ref 6), some (.int a1), some (.int a2), some (.int a3)] [.int (nI 1), .int (I (mm_ck p 3) a3.toNatClampNeg), .int (I (mm_ck p 2) a3.toNatClampNeg), .int a1, .ref 6] ((fl, n1, n2, p, q, ad), I, J))))))))) : mm_w Q (mm_wc (d)) bk_1 14 [some (.ref 6), some (.int a1), some (.int a2), some (.int a3)] [] ((fl, n1, n2, p, q, ad), I, J) := by
  cases p
  · refine mm_go [2, 14, 72, 84] 80 ?_
    show ((I 33 3) ≤ a3 → _) ∧ (¬ (I 33 3) ≤ a3 → _)
    refine ⟨fun c0 => ?_, fun c0 => ?_⟩
    · show mm_u _ _ _ _ _ _ [some (.ref 6), some (.int a1), some (.int a2), some (.int a3)] [] ((fl, n1, n2, false, q, ad), I, J)
      show vp_in a1 320 ∧ _
      refine ⟨(h.1 c0).1, ?_⟩
      exact (h.1 c0).2
    · show mm_b _ _ _ _ _ [some (.ref 6), some (.int a1), some (.int a2), some (.int a3)] [] ((fl, n1, n2, false, q, ad), I, J)
      show vp_in a3 10 ∧ _
      refine ⟨(h.2 c0).1, ?_⟩
      show mm_b _ _ _ _ _ [some (.ref 6), some (.int a1), some (.int a2), some (.int a3)] [.int (I 34 a3.toNatClampNeg), .int a1, .ref 6] ((fl, n1, n2, false, q, ad), I, J)
      show vp_in a3 10 ∧ _
      refine ⟨(h.2 c0).2.1, ?_⟩
      show mm_b _ _ _ _ _ [some (.ref 6), some (.int a1), some (.int a2), some (.int a3)] [.int (I 35 a3.toNatClampNeg), .int (I 34 a3.toNatClampNeg), .int a1, .ref 6] ((fl, n1, n2, false, q, ad), I, J)
      show vp_in a3 10 ∧ _
      refine ⟨(h.2 c0).2.2.1, ?_⟩
      show mm_b _ _ _ _ _ [some (.ref 6), some (.int a1), some (.int a2), some (.int a3)] [.int (I 36 a3.toNatClampNeg), .int (I 35 a3.toNatClampNeg), .int (I 34 a3.toNatClampNeg), .int a1, .ref 6] ((fl, n1, n2, false, q, ad), I, J)
      show (¬ (I 36 a3.toNatClampNeg) = (nI 1) → _) ∧ ((I 36 a3.toNatClampNeg) = (nI 1) → _)
      refine ⟨fun c1 => ?_, fun c1 => ?_⟩
      · exact ((h.2 c0).2.2.2.1 c1)
      · exact ((h.2 c0).2.2.2.2 c1)
  · refine mm_go [2, 14, 72, 84] 80 ?_
    show ((I 19 3) ≤ a3 → _) ∧ (¬ (I 19 3) ≤ a3 → _)
    refine ⟨fun c0 => ?_, fun c0 => ?_⟩
    · show mm_u _ _ _ _ _ _ [some (.ref 6), some (.int a1), some (.int a2), some (.int a3)] [] ((fl, n1, n2, true, q, ad), I, J)
      show vp_in a1 320 ∧ _
      refine ⟨(h.1 c0).1, ?_⟩
      exact (h.1 c0).2
    · show mm_b _ _ _ _ _ [some (.ref 6), some (.int a1), some (.int a2), some (.int a3)] [] ((fl, n1, n2, true, q, ad), I, J)
      show vp_in a3 10 ∧ _
      refine ⟨(h.2 c0).1, ?_⟩
      show mm_b _ _ _ _ _ [some (.ref 6), some (.int a1), some (.int a2), some (.int a3)] [.int (I 20 a3.toNatClampNeg), .int a1, .ref 6] ((fl, n1, n2, true, q, ad), I, J)
      show vp_in a3 10 ∧ _
      refine ⟨(h.2 c0).2.1, ?_⟩
      show mm_b _ _ _ _ _ [some (.ref 6), some (.int a1), some (.int a2), some (.int a3)] [.int (I 21 a3.toNatClampNeg), .int (I 20 a3.toNatClampNeg), .int a1, .ref 6] ((fl, n1, n2, true, q, ad), I, J)
      show vp_in a3 10 ∧ _
      refine ⟨(h.2 c0).2.2.1, ?_⟩
      show mm_b _ _ _ _ _ [some (.ref 6), some (.int a1), some (.int a2), some (.int a3)] [.int (I 22 a3.toNatClampNeg), .int (I 21 a3.toNatClampNeg), .int (I 20 a3.toNatClampNeg), .int a1, .ref 6] ((fl, n1, n2, true, q, ad), I, J)
      show (¬ (I 22 a3.toNatClampNeg) = (nI 1) → _) ∧ ((I 22 a3.toNatClampNeg) = (nI 1) → _)
      refine ⟨fun c1 => ?_, fun c1 => ?_⟩
      · exact ((h.2 c0).2.2.2.1 c1)
      · exact ((h.2 c0).2.2.2.2 c1)
theorem fx_1k_72 {d : Nat} {a1 : Int32} {a2 : Int32} {a3 : Int32} {s0 : Int32} {s1 : Int32} {s2 : Int32} {s3 : Int32} {fl : Nat → Bool} {n1 n2 : Nat} {p q : Bool} {ad : Nat → Nat} {I : mmI} {J : mmJ} {Q : mmQ} (h : mm_wc d 2 [.ref 6, .int s3, .int s2, .int s1, .int s0] ((fl, 0, 0, p, q, ad), I, J) (fun v τ => ∃ r1 I1 J1, v = some (.int r1) ∧ τ = ((fl, 0, 0, p, q, ad), I1, J1) ∧ ((r1 = (nI 0) → mm_w Q (mm_wc d) bk_1 84 [some (.ref 6), some (.int a1), some (.int a2), some (.int a3)] [] ((fl, n1, n2, p, q, ad), I1, J1)) ∧ (¬ r1 = (nI 0) → mm_w Q (mm_wc d) bk_1 84 [some (.ref 6), some (.int a1), some (.int (a2 ||| ((nI 1) <<< (a3 &&& 31)))), some (.int a3)] [] ((fl, n1, n2, p, q, ad), I1, J1))))) : mm_w Q (mm_wc (d)) bk_1 72 [some (.ref 6), some (.int a1), some (.int a2), some (.int a3)] [.int s0, .int s1, .int s2, .int s3, .ref 6] ((fl, n1, n2, p, q, ad), I, J) := by
  refine mm_go [2, 14, 72, 84] 80 ?_
  show mm_wc d 2 [.ref 6, .int s3, .int s2, .int s1, .int s0] ((fl, 0, 0, p, q, ad), I, J) _
  refine mm_wcm h ?_
  rintro v τ ⟨r1, I1, J1, rfl, rfl, h1⟩
  refine mm_r1' ⟨rfl, ?_⟩
  show mm_b _ _ _ _ _ [some (.ref 6), some (.int a1), some (.int a2), some (.int a3)] [.int r1] ((fl, n1, n2, p, q, ad), I1, J1)
  show (r1 = (nI 0) → _) ∧ (¬ r1 = (nI 0) → _)
  refine ⟨fun c0 => ?_, fun c0 => ?_⟩
  · exact (h1.1 c0)
  · exact (h1.2 c0)
theorem fx_1k_84 {d : Nat} {a1 : Int32} {a2 : Int32} {a3 : Int32} {fl : Nat → Bool} {n1 n2 : Nat} {p q : Bool} {ad : Nat → Nat} {I : mmI} {J : mmJ} {Q : mmQ} (h : mm_w Q (mm_wc d) bk_1 14 [some (.ref 6), some (.int a1), some (.int a2), some (.int (a3 + (nI 1)))] [] ((fl, n1, n2, p, q, ad), I, J)) : mm_w Q (mm_wc (d)) bk_1 84 [some (.ref 6), some (.int a1), some (.int a2), some (.int a3)] [] ((fl, n1, n2, p, q, ad), I, J) := by
  refine mm_go [2, 14, 72, 84] 80 ?_
  exact h
/- 68 ThreeBreaths$Reader takeLeft -/
theorem fx_68k {d : Nat} {fl : Nat → Bool} {n1 n2 : Nat} {p q : Bool} {ad : Nat → Nat} {I : mmI} {J : mmJ} {Q : mmQ} (h : (((I (mm_ck q 0) 11) = (-2) → mm_wc d 77 [.ref 1] ((fl, 0, 0, p, q, ad), (mm_up I (mm_ck q 0) 11 (nI 0)), J) (fun v τ => ∃ I1 J1, v = none ∧ τ = ((fl, 0, 0, p, q, ad), I1, J1) ∧ mm_wc d 73 [.ref 1, .ref 107] ((fl, 0, 0, p, q, ad), I1, J1) (fun v τ => ∃ r2 I2 J2, v = some (.int r2) ∧ τ = ((fl, 0, 0, p, q, ad), I2, J2) ∧ ((r2 = (nI 0) → mm_w Q (mm_wc d) bk_68 47 [some (.ref 1), some (.int (nI 0))] [] ((fl, n1, n2, p, q, ad), I2, J2)) ∧ (¬ r2 = (nI 0) → mm_wc d 77 [.ref 1] ((fl, 0, 0, p, q, ad), I2, J2) (fun v τ => ∃ I3 J3, v = none ∧ τ = ((fl, 0, 0, p, q, ad), I3, J3) ∧ Q (some (.int (nI 1))) ((fl, n1, n2, p, q, ad), I3, J3))))))) ∧ (¬ (I (mm_ck q 0) 11) = (-2) → mm_wc d 60 [.ref 1, .int (nI 3)] ((fl, 0, 0, p, q, ad), I, J) (fun v τ => ∃ r4 I4 J4, v = some (.int r4) ∧ τ = ((fl, 0, 0, p, q, ad), I4, J4) ∧ ((r4 = 0 ∨ r4 = 1) ∧ Q (some (.int r4)) ((fl, n1, n2, p, q, ad), I4, J4)))))) : mm_wc (d + 1) 68 [.ref 1] ((fl, n1, n2, p, q, ad), I, J) Q := by
  cases q
  · refine mm_call (c := 68) rfl rfl ?_
    refine mm_go [47] 80 ?_
    show ((I 32 11) = (-2) → _) ∧ (¬ (I 32 11) = (-2) → _)
    refine ⟨fun c0 => ?_, fun c0 => ?_⟩
    · show mm_u _ _ _ _ _ _ [some (.ref 1), none] [] ((fl, n1, n2, p, false, ad), I, J)
      show mm_wc d 77 [.ref 1] ((fl, 0, 0, p, false, ad), (mm_up I 32 11 (nI 0)), J) _
      refine mm_wcm (h.1 c0) ?_
      rintro v τ ⟨I1, J1, rfl, rfl, h1⟩
      refine mm_r0' ⟨rfl, ?_⟩
      show mm_b _ _ _ _ _ [some (.ref 1), none] [] ((fl, n1, n2, p, false, ad), I1, J1)
      show mm_wc d 73 [.ref 1, .ref 107] ((fl, 0, 0, p, false, ad), I1, J1) _
      refine mm_wcm h1 ?_
      rintro v τ ⟨r2, I2, J2, rfl, rfl, h2⟩
      refine mm_r1' ⟨rfl, ?_⟩
      show mm_b _ _ _ _ _ [some (.ref 1), none] [.int r2] ((fl, n1, n2, p, false, ad), I2, J2)
      show (r2 = (nI 0) → _) ∧ (¬ r2 = (nI 0) → _)
      refine ⟨fun c1 => ?_, fun c1 => ?_⟩
      · exact (h2.1 c1)
      · show mm_b _ _ _ _ _ [some (.ref 1), none] [] ((fl, n1, n2, p, false, ad), I2, J2)
        show mm_wc d 77 [.ref 1] ((fl, 0, 0, p, false, ad), I2, J2) _
        refine mm_wcm (h2.2 c1) ?_
        rintro v τ ⟨I3, J3, rfl, rfl, h3⟩
        refine mm_r0' ⟨rfl, ?_⟩
        show mm_b _ _ _ _ _ [some (.ref 1), none] [] ((fl, n1, n2, p, false, ad), I3, J3)
        show (((nI 1) : Int32) = 0 ∨ ((nI 1) : Int32) = 1) ∧ _
        refine ⟨(by decide), ?_⟩
        exact h3
    · show mm_b _ _ _ _ _ [some (.ref 1), none] [] ((fl, n1, n2, p, false, ad), I, J)
      show mm_wc d 60 [.ref 1, .int (nI 3)] ((fl, 0, 0, p, false, ad), I, J) _
      refine mm_wcm (h.2 c0) ?_
      rintro v τ ⟨r4, I4, J4, rfl, rfl, h4⟩
      refine mm_r1' ⟨rfl, ?_⟩
      show mm_b _ _ _ _ _ [some (.ref 1), none] [.int r4] ((fl, n1, n2, p, false, ad), I4, J4)
      show (r4 = 0 ∨ r4 = 1) ∧ _
      refine ⟨h4.1, ?_⟩
      exact h4.2
  · refine mm_call (c := 68) rfl rfl ?_
    refine mm_go [47] 80 ?_
    show ((I 18 11) = (-2) → _) ∧ (¬ (I 18 11) = (-2) → _)
    refine ⟨fun c0 => ?_, fun c0 => ?_⟩
    · show mm_u _ _ _ _ _ _ [some (.ref 1), none] [] ((fl, n1, n2, p, true, ad), I, J)
      show mm_wc d 77 [.ref 1] ((fl, 0, 0, p, true, ad), (mm_up I 18 11 (nI 0)), J) _
      refine mm_wcm (h.1 c0) ?_
      rintro v τ ⟨I1, J1, rfl, rfl, h1⟩
      refine mm_r0' ⟨rfl, ?_⟩
      show mm_b _ _ _ _ _ [some (.ref 1), none] [] ((fl, n1, n2, p, true, ad), I1, J1)
      show mm_wc d 73 [.ref 1, .ref 107] ((fl, 0, 0, p, true, ad), I1, J1) _
      refine mm_wcm h1 ?_
      rintro v τ ⟨r2, I2, J2, rfl, rfl, h2⟩
      refine mm_r1' ⟨rfl, ?_⟩
      show mm_b _ _ _ _ _ [some (.ref 1), none] [.int r2] ((fl, n1, n2, p, true, ad), I2, J2)
      show (r2 = (nI 0) → _) ∧ (¬ r2 = (nI 0) → _)
      refine ⟨fun c1 => ?_, fun c1 => ?_⟩
      · exact (h2.1 c1)
      · show mm_b _ _ _ _ _ [some (.ref 1), none] [] ((fl, n1, n2, p, true, ad), I2, J2)
        show mm_wc d 77 [.ref 1] ((fl, 0, 0, p, true, ad), I2, J2) _
        refine mm_wcm (h2.2 c1) ?_
        rintro v τ ⟨I3, J3, rfl, rfl, h3⟩
        refine mm_r0' ⟨rfl, ?_⟩
        show mm_b _ _ _ _ _ [some (.ref 1), none] [] ((fl, n1, n2, p, true, ad), I3, J3)
        show (((nI 1) : Int32) = 0 ∨ ((nI 1) : Int32) = 1) ∧ _
        refine ⟨(by decide), ?_⟩
        exact h3
    · show mm_b _ _ _ _ _ [some (.ref 1), none] [] ((fl, n1, n2, p, true, ad), I, J)
      show mm_wc d 60 [.ref 1, .int (nI 3)] ((fl, 0, 0, p, true, ad), I, J) _
      refine mm_wcm (h.2 c0) ?_
      rintro v τ ⟨r4, I4, J4, rfl, rfl, h4⟩
      refine mm_r1' ⟨rfl, ?_⟩
      show mm_b _ _ _ _ _ [some (.ref 1), none] [.int r4] ((fl, n1, n2, p, true, ad), I4, J4)
      show (r4 = 0 ∨ r4 = 1) ∧ _
      refine ⟨h4.1, ?_⟩
      exact h4.2
theorem fx_68k_47 {d : Nat} {a1 : Int32} {fl : Nat → Bool} {n1 n2 : Nat} {p q : Bool} {ad : Nat → Nat} {I : mmI} {J : mmJ} {Q : mmQ} (h : (((nI 10) < a1 → mm_wc d 60 [.ref 1, .int (nI 1)] ((fl, 0, 0, p, q, ad), I, J) (fun v τ => ∃ r1 I1 J1, v = some (.int r1) ∧ τ = ((fl, 0, 0, p, q, ad), I1, J1) ∧ ((r1 = 0 ∨ r1 = 1) ∧ Q (some (.int r1)) ((fl, n1, n2, p, q, ad), I1, J1)))) ∧ (¬ (nI 10) < a1 → mm_wc d 69 [.ref 1] ((fl, 0, 0, p, q, ad), I, J) (fun v τ => ∃ r2 I2 J2, v = some (.int r2) ∧ τ = ((fl, 0, 0, p, q, ad), I2, J2) ∧ ((¬ r2 = (nI 0) → (((I2 1 3) = (nI 4) → mm_wc d 77 [.ref 1] ((fl, 0, 0, p, q, ad), I2, J2) (fun v τ => ∃ I3 J3, v = none ∧ τ = ((fl, 0, 0, p, q, ad), I3, J3) ∧ mm_w Q (mm_wc d) bk_68 47 [some (.ref 1), some (.int (a1 + (nI 1)))] [] ((fl, n1, n2, p, q, ad), I3, J3))) ∧ (¬ (I2 1 3) = (nI 4) → Q (some (.int (nI 1))) ((fl, n1, n2, p, q, ad), I2, J2)))) ∧ (r2 = (nI 0) → Q (some (.int (nI 0))) ((fl, n1, n2, p, q, ad), I2, J2))))))) : mm_w Q (mm_wc (d)) bk_68 47 [some (.ref 1), some (.int a1)] [] ((fl, n1, n2, p, q, ad), I, J) := by
  refine mm_go [47] 80 ?_
  show ((nI 10) < a1 → _) ∧ (¬ (nI 10) < a1 → _)
  refine ⟨fun c0 => ?_, fun c0 => ?_⟩
  · show mm_u _ _ _ _ _ _ [some (.ref 1), some (.int a1)] [] ((fl, n1, n2, p, q, ad), I, J)
    show mm_wc d 60 [.ref 1, .int (nI 1)] ((fl, 0, 0, p, q, ad), I, J) _
    refine mm_wcm (h.1 c0) ?_
    rintro v τ ⟨r1, I1, J1, rfl, rfl, h1⟩
    refine mm_r1' ⟨rfl, ?_⟩
    show mm_b _ _ _ _ _ [some (.ref 1), none] [.int r1] ((fl, n1, n2, p, q, ad), I1, J1)
    show (r1 = 0 ∨ r1 = 1) ∧ _
    refine ⟨h1.1, ?_⟩
    exact h1.2
  · show mm_b _ _ _ _ _ [some (.ref 1), some (.int a1)] [] ((fl, n1, n2, p, q, ad), I, J)
    show mm_wc d 69 [.ref 1] ((fl, 0, 0, p, q, ad), I, J) _
    refine mm_wcm (h.2 c0) ?_
    rintro v τ ⟨r2, I2, J2, rfl, rfl, h2⟩
    refine mm_r1' ⟨rfl, ?_⟩
    show mm_b _ _ _ _ _ [some (.ref 1), some (.int a1)] [.int r2] ((fl, n1, n2, p, q, ad), I2, J2)
    show (¬ r2 = (nI 0) → _) ∧ (r2 = (nI 0) → _)
    refine ⟨fun c1 => ?_, fun c1 => ?_⟩
    · show mm_u _ _ _ _ _ _ [some (.ref 1), some (.int a1)] [] ((fl, n1, n2, p, q, ad), I2, J2)
      show ((I2 1 3) = (nI 4) → _) ∧ (¬ (I2 1 3) = (nI 4) → _)
      refine ⟨fun c2 => ?_, fun c2 => ?_⟩
      · show mm_u _ _ _ _ _ _ [some (.ref 1), some (.int a1)] [] ((fl, n1, n2, p, q, ad), I2, J2)
        show mm_wc d 77 [.ref 1] ((fl, 0, 0, p, q, ad), I2, J2) _
        refine mm_wcm ((h2.1 c1).1 c2) ?_
        rintro v τ ⟨I3, J3, rfl, rfl, h3⟩
        refine mm_r0' ⟨rfl, ?_⟩
        exact h3
      · show mm_b _ _ _ _ _ [some (.ref 1), some (.int a1)] [] ((fl, n1, n2, p, q, ad), I2, J2)
        show (((nI 1) : Int32) = 0 ∨ ((nI 1) : Int32) = 1) ∧ _
        refine ⟨(by decide), ?_⟩
        exact ((h2.1 c1).2 c2)
    · show mm_b _ _ _ _ _ [some (.ref 1), some (.int a1)] [] ((fl, n1, n2, p, q, ad), I2, J2)
      show (((nI 0) : Int32) = 0 ∨ ((nI 0) : Int32) = 1) ∧ _
      refine ⟨(by decide), ?_⟩
      exact (h2.2 c1)
/- 77 ThreeBreaths$Reader advance -/
theorem fx_77k {d : Nat} {fl : Nat → Bool} {n1 n2 : Nat} {p q : Bool} {ad : Nat → Nat} {I : mmI} {J : mmJ} {Q : mmQ} (h : mm_w Q (mm_wc d) bk_77 0 [some (.ref 1)] [] ((fl, n1, n2, p, q, ad), I, J)) : mm_wc (d + 1) 77 [.ref 1] ((fl, n1, n2, p, q, ad), I, J) Q := by
  refine mm_call (c := 77) rfl rfl ?_
  exact mm_w_mk (mm_wc_mono _) h
theorem fx_77k_0 {d : Nat} {fl : Nat → Bool} {n1 n2 : Nat} {p q : Bool} {ad : Nat → Nat} {I : mmI} {J : mmJ} {Q : mmQ} (h : (((I 1 2) ≤ (I 1 5) → mm_w Q (mm_wc d) bk_77 38 [some (.ref 1)] [] ((fl, n1, n2, p, q, ad), I, J)) ∧ (¬ (I 1 2) ≤ (I 1 5) → (vp_in (I 1 5) 900 ∧ ((¬ (I 2 ((I 1 5)).toNatClampNeg) = (nI 32) → mm_w Q (mm_wc d) bk_77 38 [some (.ref 1)] [] ((fl, n1, n2, p, q, ad), I, J)) ∧ ((I 2 ((I 1 5)).toNatClampNeg) = (nI 32) → mm_w Q (mm_wc d) bk_77 0 [some (.ref 1)] [] ((fl, n1, n2, p, q, ad), (mm_up I 1 5 ((I 1 5) + (nI 1))), J))))))) : mm_w Q (mm_wc (d)) bk_77 0 [some (.ref 1)] [] ((fl, n1, n2, p, q, ad), I, J) := by
  refine mm_go [0, 38, 147, 160] 80 ?_
  show ((I 1 2) ≤ (I 1 5) → _) ∧ (¬ (I 1 2) ≤ (I 1 5) → _)
  refine ⟨fun c0 => ?_, fun c0 => ?_⟩
  · exact (h.1 c0)
  · show mm_b _ _ _ _ _ [some (.ref 1)] [] ((fl, n1, n2, p, q, ad), I, J)
    show vp_in (I 1 5) 900 ∧ _
    refine ⟨(h.2 c0).1, ?_⟩
    show mm_b _ _ _ _ _ [some (.ref 1)] [.int (I 2 ((I 1 5)).toNatClampNeg)] ((fl, n1, n2, p, q, ad), I, J)
    show (¬ (I 2 ((I 1 5)).toNatClampNeg) = (nI 32) → _) ∧ ((I 2 ((I 1 5)).toNatClampNeg) = (nI 32) → _)
    refine ⟨fun c1 => ?_, fun c1 => ?_⟩
    · exact ((h.2 c0).2.1 c1)
    · exact ((h.2 c0).2.2 c1)
theorem fx_77k_38 {d : Nat} {fl : Nat → Bool} {n1 n2 : Nat} {p q : Bool} {ad : Nat → Nat} {I : mmI} {J : mmJ} {Q : mmQ} (h : (((I 1 5) < (I 1 2) → (vp_in (I 1 5) 900 ∧ mm_wc d 80 [.int (I 2 ((I 1 5)).toNatClampNeg)] ((fl, 0, 0, p, q, ad), (mm_up I 1 4 (I 1 5)), J) (fun v τ => ∃ r1 I1 J1, v = some (.int r1) ∧ τ = ((fl, 0, 0, p, q, ad), I1, J1) ∧ ((r1 = (nI 0) → (vp_in (I1 1 4) 900 ∧ mm_wc d 81 [.int (I1 2 ((I1 1 4)).toNatClampNeg)] ((fl, 0, 0, p, q, ad), I1, J1) (fun v τ => ∃ r2 I2 J2, v = some (.int r2) ∧ τ = ((fl, 0, 0, p, q, ad), I2, J2) ∧ ((r2 = (nI 0) → (vp_in (I2 1 4) 900 ∧ ((¬ (I2 2 ((I2 1 4)).toNatClampNeg) = (nI 59) → (vp_in (I2 1 4) 900 ∧ ((¬ (I2 2 ((I2 1 4)).toNatClampNeg) = (nI 44) → mm_w Q (mm_wc d) bk_77 147 [some (.ref 1)] [.int (nI 5), .ref 1] ((fl, n1, n2, p, q, ad), I2, J2)) ∧ ((I2 2 ((I2 1 4)).toNatClampNeg) = (nI 44) → mm_w Q (mm_wc d) bk_77 147 [some (.ref 1)] [.int (nI 4), .ref 1] ((fl, n1, n2, p, q, ad), I2, J2))))) ∧ ((I2 2 ((I2 1 4)).toNatClampNeg) = (nI 59) → mm_w Q (mm_wc d) bk_77 147 [some (.ref 1)] [.int (nI 3), .ref 1] ((fl, n1, n2, p, q, ad), I2, J2))))) ∧ (¬ r2 = (nI 0) → mm_wc d 79 [.ref 1] ((fl, 0, 0, p, q, ad), I2, J2) (fun v τ => ∃ I3 J3, v = none ∧ τ = ((fl, 0, 0, p, q, ad), I3, J3) ∧ mm_w Q (mm_wc d) bk_77 160 [none] [] ((fl, n1, n2, p, q, ad), I3, J3))))))) ∧ (¬ r1 = (nI 0) → mm_wc d 78 [.ref 1] ((fl, 0, 0, p, q, ad), I1, J1) (fun v τ => ∃ I4 J4, v = none ∧ τ = ((fl, 0, 0, p, q, ad), I4, J4) ∧ mm_w Q (mm_wc d) bk_77 160 [none] [] ((fl, n1, n2, p, q, ad), I4, J4))))))) ∧ (¬ (I 1 5) < (I 1 2) → mm_w Q (mm_wc d) bk_77 160 [none] [] ((fl, n1, n2, p, q, ad), (mm_up (mm_up I 1 4 (I 1 5)) 1 3 (nI 0)), J)))) : mm_w Q (mm_wc (d)) bk_77 38 [some (.ref 1)] [] ((fl, n1, n2, p, q, ad), I, J) := by
  refine mm_go [0, 38, 147, 160] 80 ?_
  show ((I 1 5) < (I 1 2) → _) ∧ (¬ (I 1 5) < (I 1 2) → _)
  refine ⟨fun c0 => ?_, fun c0 => ?_⟩
  · show mm_u _ _ _ _ _ _ [some (.ref 1)] [] ((fl, n1, n2, p, q, ad), (mm_up I 1 4 (I 1 5)), J)
    show vp_in (I 1 5) 900 ∧ _
    refine ⟨(h.1 c0).1, ?_⟩
    show mm_b _ _ _ _ _ [some (.ref 1)] [.int (I 2 ((I 1 5)).toNatClampNeg)] ((fl, n1, n2, p, q, ad), (mm_up I 1 4 (I 1 5)), J)
    show mm_wc d 80 [.int (I 2 ((I 1 5)).toNatClampNeg)] ((fl, 0, 0, p, q, ad), (mm_up I 1 4 (I 1 5)), J) _
    refine mm_wcm ((h.1 c0).2) ?_
    rintro v τ ⟨r1, I1, J1, rfl, rfl, h1⟩
    refine mm_r1' ⟨rfl, ?_⟩
    show mm_b _ _ _ _ _ [some (.ref 1)] [.int r1] ((fl, n1, n2, p, q, ad), I1, J1)
    show (r1 = (nI 0) → _) ∧ (¬ r1 = (nI 0) → _)
    refine ⟨fun c1 => ?_, fun c1 => ?_⟩
    · show mm_u _ _ _ _ _ _ [some (.ref 1)] [] ((fl, n1, n2, p, q, ad), I1, J1)
      show vp_in (I1 1 4) 900 ∧ _
      refine ⟨(h1.1 c1).1, ?_⟩
      show mm_b _ _ _ _ _ [some (.ref 1)] [.int (I1 2 ((I1 1 4)).toNatClampNeg)] ((fl, n1, n2, p, q, ad), I1, J1)
      show mm_wc d 81 [.int (I1 2 ((I1 1 4)).toNatClampNeg)] ((fl, 0, 0, p, q, ad), I1, J1) _
      refine mm_wcm ((h1.1 c1).2) ?_
      rintro v τ ⟨r2, I2, J2, rfl, rfl, h2⟩
      refine mm_r1' ⟨rfl, ?_⟩
      show mm_b _ _ _ _ _ [some (.ref 1)] [.int r2] ((fl, n1, n2, p, q, ad), I2, J2)
      show (r2 = (nI 0) → _) ∧ (¬ r2 = (nI 0) → _)
      refine ⟨fun c2 => ?_, fun c2 => ?_⟩
      · show mm_u _ _ _ _ _ _ [some (.ref 1)] [] ((fl, n1, n2, p, q, ad), I2, J2)
        show vp_in (I2 1 4) 900 ∧ _
        refine ⟨(h2.1 c2).1, ?_⟩
        show mm_b _ _ _ _ _ [some (.ref 1)] [.int (I2 2 ((I2 1 4)).toNatClampNeg), .ref 1] ((fl, n1, n2, p, q, ad), I2, J2)
        show (¬ (I2 2 ((I2 1 4)).toNatClampNeg) = (nI 59) → _) ∧ ((I2 2 ((I2 1 4)).toNatClampNeg) = (nI 59) → _)
        refine ⟨fun c3 => ?_, fun c3 => ?_⟩
        · show mm_u _ _ _ _ _ _ [some (.ref 1)] [.ref 1] ((fl, n1, n2, p, q, ad), I2, J2)
          show vp_in (I2 1 4) 900 ∧ _
          refine ⟨((h2.1 c2).2.1 c3).1, ?_⟩
          show mm_b _ _ _ _ _ [some (.ref 1)] [.int (I2 2 ((I2 1 4)).toNatClampNeg), .ref 1] ((fl, n1, n2, p, q, ad), I2, J2)
          show (¬ (I2 2 ((I2 1 4)).toNatClampNeg) = (nI 44) → _) ∧ ((I2 2 ((I2 1 4)).toNatClampNeg) = (nI 44) → _)
          refine ⟨fun c4 => ?_, fun c4 => ?_⟩
          · exact (((h2.1 c2).2.1 c3).2.1 c4)
          · exact (((h2.1 c2).2.1 c3).2.2 c4)
        · exact ((h2.1 c2).2.2 c3)
      · show mm_b _ _ _ _ _ [some (.ref 1)] [] ((fl, n1, n2, p, q, ad), I2, J2)
        show mm_wc d 79 [.ref 1] ((fl, 0, 0, p, q, ad), I2, J2) _
        refine mm_wcm (h2.2 c2) ?_
        rintro v τ ⟨I3, J3, rfl, rfl, h3⟩
        refine mm_r0' ⟨rfl, ?_⟩
        exact h3
    · show mm_b _ _ _ _ _ [some (.ref 1)] [] ((fl, n1, n2, p, q, ad), I1, J1)
      show mm_wc d 78 [.ref 1] ((fl, 0, 0, p, q, ad), I1, J1) _
      refine mm_wcm (h1.2 c1) ?_
      rintro v τ ⟨I4, J4, rfl, rfl, h4⟩
      refine mm_r0' ⟨rfl, ?_⟩
      exact h4
  · exact (h.2 c0)
theorem fx_77k_147 {d : Nat} {s0 : Int32} {fl : Nat → Bool} {n1 n2 : Nat} {p q : Bool} {ad : Nat → Nat} {I : mmI} {J : mmJ} {Q : mmQ} (h : mm_w Q (mm_wc d) bk_77 160 [none] [] ((fl, n1, n2, p, q, ad), (mm_up (mm_up I 1 3 s0) 1 5 ((I 1 5) + (nI 1))), J)) : mm_w Q (mm_wc (d)) bk_77 147 [some (.ref 1)] [.int s0, .ref 1] ((fl, n1, n2, p, q, ad), I, J) := by
  refine mm_go [0, 38, 147, 160] 80 ?_
  exact h
theorem fx_77k_160 {d : Nat} {fl : Nat → Bool} {n1 n2 : Nat} {p q : Bool} {ad : Nat → Nat} {I : mmI} {J : mmJ} {Q : mmQ} (h : Q none ((fl, n1, n2, p, q, ad), I, J)) : mm_w Q (mm_wc (d)) bk_77 160 [none] [] ((fl, n1, n2, p, q, ad), I, J) := by
  refine mm_go [0, 38, 147, 160] 80 ?_
  exact h
