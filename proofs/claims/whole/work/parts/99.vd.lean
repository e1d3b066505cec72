/-! what the class's led asks for -/
theorem lx_led0 {d : Nat} {x : Int32} {b0 b1 b2 : Bool} {n1 n2 : Nat} {p q : Bool} {ad : Nat → Nat} {I : mmI} {J : mmJ} {Q : mmQ} (h : mm_w Q (mm_wc d) bk_led 4 [some (.ref 0), some (.int x), some (.int (nI 0)), some (.int (nI 0))] [] (((mm_fl b0 b1 b2), n1, n2, p, q, ad), I, J)) : mm_w Q (mm_wc d) bk_led 0 [some (.ref 0), some (.int x), none, none] [] (((mm_fl b0 b1 b2), n1, n2, p, q, ad), I, J) := by
  refine mm_go [4] 90 ?_
  exact h
theorem lx_led4 {d : Nat} {x a2 a3 : Int32} {b0 b1 b2 : Bool} {n1 n2 : Nat} {p q : Bool} {ad : Nat → Nat} {I : mmI} {J : mmJ} {Q : mmQ} (h : (((I 0 1) = (nI 0) → Q none (((mm_fl b0 b1 b2), n1, n2, p, q, ad), I, J)) ∧ (¬ (I 0 1) = (nI 0) → (((I (mm_ck p 1) 3) ≤ a3 → Q none (((mm_fl b0 b1 b2), n1, n2, p, q, ad), I, J)) ∧ (¬ (I (mm_ck p 1) 3) ≤ a3 → mm_wc d 20 [.ref 6, .int (I 15 0), .int a3] (((mm_fl b0 b1 b2), 0, 0, p, q, ad), I, J) (fun v τ => ∃ r1 I1 J1, v = some (.int r1) ∧ τ = (((mm_fl b0 b1 b2), 0, 0, p, q, ad), I1, J1) ∧ ((¬ r1 = (nI 0) → mm_w Q (mm_wc d) bk_led 4 [some (.ref 0), some (.int x), some (.int a2), some (.int (a3 + (nI 1)))] [] (((mm_fl b0 b1 b2), n1, n2, p, q, ad), I1, J1)) ∧ (r1 = (nI 0) → ((¬ a2 = x → mm_w Q (mm_wc d) bk_led 4 [some (.ref 0), some (.int x), some (.int (a2 + (nI 1))), some (.int (a3 + (nI 1)))] [] (((mm_fl b0 b1 b2), n1, n2, p, q, ad), I1, J1)) ∧ (a2 = x → Q (some (.int a3)) (((mm_fl b0 b1 b2), n1, n2, p, q, ad), I1, J1))))))))))) : mm_w Q (mm_wc d) bk_led 4 [some (.ref 0), some (.int x), some (.int a2), some (.int a3)] [] (((mm_fl b0 b1 b2), n1, n2, p, q, ad), I, J) := by
  cases p
  · refine mm_go [4] 90 ?_
    show ((I 0 1) = (nI 0) → _) ∧ (¬ (I 0 1) = (nI 0) → _)
    refine ⟨fun c0 => ?_, fun c0 => ?_⟩
    · exact (h.1 c0)
    · show mm_b _ _ _ _ _ [some (.ref 0), some (.int x), some (.int a2), some (.int a3)] [] (((mm_fl b0 b1 b2), n1, n2, false, q, ad), I, J)
      show ((I 33 3) ≤ a3 → _) ∧ (¬ (I 33 3) ≤ a3 → _)
      refine ⟨fun c1 => ?_, fun c1 => ?_⟩
      · exact ((h.2 c0).1 c1)
      · show mm_b _ _ _ _ _ [some (.ref 0), some (.int x), some (.int a2), some (.int a3)] [] (((mm_fl b0 b1 b2), n1, n2, false, q, ad), I, J)
        show mm_wc d 20 [.ref 6, .int (I 15 0), .int a3] (((mm_fl b0 b1 b2), 0, 0, false, q, ad), I, J) _
        refine mm_wcm ((h.2 c0).2 c1) ?_
        rintro v τ ⟨r1, I1, J1, rfl, rfl, h1⟩
        refine mm_r1' ⟨rfl, ?_⟩
        show mm_b _ _ _ _ _ [some (.ref 0), some (.int x), some (.int a2), some (.int a3)] [.int r1] (((mm_fl b0 b1 b2), n1, n2, false, q, ad), I1, J1)
        show (¬ r1 = (nI 0) → _) ∧ (r1 = (nI 0) → _)
        refine ⟨fun c2 => ?_, fun c2 => ?_⟩
        · exact (h1.1 c2)
        · show mm_b _ _ _ _ _ [some (.ref 0), some (.int x), some (.int a2), some (.int a3)] [] (((mm_fl b0 b1 b2), n1, n2, false, q, ad), I1, J1)
          show (¬ a2 = x → _) ∧ (a2 = x → _)
          refine ⟨fun c3 => ?_, fun c3 => ?_⟩
          · exact ((h1.2 c2).1 c3)
          · exact ((h1.2 c2).2 c3)
  · refine mm_go [4] 90 ?_
    show ((I 0 1) = (nI 0) → _) ∧ (¬ (I 0 1) = (nI 0) → _)
    refine ⟨fun c0 => ?_, fun c0 => ?_⟩
    · exact (h.1 c0)
    · show mm_b _ _ _ _ _ [some (.ref 0), some (.int x), some (.int a2), some (.int a3)] [] (((mm_fl b0 b1 b2), n1, n2, true, q, ad), I, J)
      show ((I 19 3) ≤ a3 → _) ∧ (¬ (I 19 3) ≤ a3 → _)
      refine ⟨fun c1 => ?_, fun c1 => ?_⟩
      · exact ((h.2 c0).1 c1)
      · show mm_b _ _ _ _ _ [some (.ref 0), some (.int x), some (.int a2), some (.int a3)] [] (((mm_fl b0 b1 b2), n1, n2, true, q, ad), I, J)
        show mm_wc d 20 [.ref 6, .int (I 15 0), .int a3] (((mm_fl b0 b1 b2), 0, 0, true, q, ad), I, J) _
        refine mm_wcm ((h.2 c0).2 c1) ?_
        rintro v τ ⟨r1, I1, J1, rfl, rfl, h1⟩
        refine mm_r1' ⟨rfl, ?_⟩
        show mm_b _ _ _ _ _ [some (.ref 0), some (.int x), some (.int a2), some (.int a3)] [.int r1] (((mm_fl b0 b1 b2), n1, n2, true, q, ad), I1, J1)
        show (¬ r1 = (nI 0) → _) ∧ (r1 = (nI 0) → _)
        refine ⟨fun c2 => ?_, fun c2 => ?_⟩
        · exact (h1.1 c2)
        · show mm_b _ _ _ _ _ [some (.ref 0), some (.int x), some (.int a2), some (.int a3)] [] (((mm_fl b0 b1 b2), n1, n2, true, q, ad), I1, J1)
          show (¬ a2 = x → _) ∧ (a2 = x → _)
          refine ⟨fun c3 => ?_, fun c3 => ?_⟩
          · exact ((h1.2 c2).1 c3)
          · exact ((h1.2 c2).2 c3)
