/- 111 ThreeBreaths feed -/
theorem fx_111 {d : Nat} {x0 : Int32} {x1 : Int32} {x2 : Int32} {x3 : Int32} {x4 : Int32} {b0 b1 b2 : Bool} {n1 n2 : Nat} {p q : Bool} {ad : Nat → Nat} {I : mmI} {J : mmJ} {Q : mmQ} (h : mm_wc d 56 [.ref 1] (((mm_fl b0 b1 b2), 0, 0, p, q, ad), I, J) (fun v τ => ∃ r1 I1 J1, v = some (.int r1) ∧ τ = (((mm_fl b0 b1 b2), 0, 0, p, q, ad), I1, J1) ∧ ((¬ r1 = (nI 0) → mm_wc d 57 [.ref 1, .int x0] (((mm_fl b0 b1 b2), 0, 0, p, q, ad), I1, J1) (fun v τ => ∃ I2 J2, v = none ∧ τ = (((mm_fl b0 b1 b2), 0, 0, p, q, ad), I2, J2) ∧ mm_wc d 57 [.ref 1, .int x1] (((mm_fl b0 b1 b2), 0, 0, p, q, ad), I2, J2) (fun v τ => ∃ I3 J3, v = none ∧ τ = (((mm_fl b0 b1 b2), 0, 0, p, q, ad), I3, J3) ∧ mm_wc d 57 [.ref 1, .int x2] (((mm_fl b0 b1 b2), 0, 0, p, q, ad), I3, J3) (fun v τ => ∃ I4 J4, v = none ∧ τ = (((mm_fl b0 b1 b2), 0, 0, p, q, ad), I4, J4) ∧ mm_wc d 57 [.ref 1, .int x3] (((mm_fl b0 b1 b2), 0, 0, p, q, ad), I4, J4) (fun v τ => ∃ I5 J5, v = none ∧ τ = (((mm_fl b0 b1 b2), 0, 0, p, q, ad), I5, J5) ∧ mm_wc d 57 [.ref 1, .int x4] (((mm_fl b0 b1 b2), 0, 0, p, q, ad), I5, J5) (fun v τ => ∃ I6 J6, v = none ∧ τ = (((mm_fl b0 b1 b2), 0, 0, p, q, ad), I6, J6) ∧ Q (some (.int (I6 1 1))) (((mm_fl b0 b1 b2), n1, n2, p, q, ad), I6, J6))))))) ∧ (r1 = (nI 0) → Q (some (.int (-1))) (((mm_fl b0 b1 b2), n1, n2, p, q, ad), I1, J1))))) : mm_wc (d + 1) 111 [.ref 0, .int x0, .int x1, .int x2, .int x3, .int x4] (((mm_fl b0 b1 b2), n1, n2, p, q, ad), I, J) Q := by
  refine mm_call (c := 111) rfl rfl ?_
  refine mm_go [] 80 ?_
  show mm_wc d 56 [.ref 1] (((mm_fl b0 b1 b2), 0, 0, p, q, ad), I, J) _
  refine mm_wcm h ?_
  rintro v τ ⟨r1, I1, J1, rfl, rfl, h1⟩
  refine mm_r1' ⟨rfl, ?_⟩
  show mm_b _ _ _ _ _ [some (.ref 0), some (.int x0), some (.int x1), some (.int x2), some (.int x3), some (.int x4)] [.int r1] (((mm_fl b0 b1 b2), n1, n2, p, q, ad), I1, J1)
  show (¬ r1 = (nI 0) → _) ∧ (r1 = (nI 0) → _)
  refine ⟨fun c0 => ?_, fun c0 => ?_⟩
  · show mm_u _ _ _ _ _ _ [some (.ref 0), some (.int x0), some (.int x1), some (.int x2), some (.int x3), some (.int x4)] [] (((mm_fl b0 b1 b2), n1, n2, p, q, ad), I1, J1)
    show mm_wc d 57 [.ref 1, .int x0] (((mm_fl b0 b1 b2), 0, 0, p, q, ad), I1, J1) _
    refine mm_wcm (h1.1 c0) ?_
    rintro v τ ⟨I2, J2, rfl, rfl, h2⟩
    refine mm_r0' ⟨rfl, ?_⟩
    show mm_b _ _ _ _ _ [some (.ref 0), some (.int x0), some (.int x1), some (.int x2), some (.int x3), some (.int x4)] [] (((mm_fl b0 b1 b2), n1, n2, p, q, ad), I2, J2)
    show mm_wc d 57 [.ref 1, .int x1] (((mm_fl b0 b1 b2), 0, 0, p, q, ad), I2, J2) _
    refine mm_wcm h2 ?_
    rintro v τ ⟨I3, J3, rfl, rfl, h3⟩
    refine mm_r0' ⟨rfl, ?_⟩
    show mm_b _ _ _ _ _ [some (.ref 0), some (.int x0), some (.int x1), some (.int x2), some (.int x3), some (.int x4)] [] (((mm_fl b0 b1 b2), n1, n2, p, q, ad), I3, J3)
    show mm_wc d 57 [.ref 1, .int x2] (((mm_fl b0 b1 b2), 0, 0, p, q, ad), I3, J3) _
    refine mm_wcm h3 ?_
    rintro v τ ⟨I4, J4, rfl, rfl, h4⟩
    refine mm_r0' ⟨rfl, ?_⟩
    show mm_b _ _ _ _ _ [some (.ref 0), some (.int x0), some (.int x1), some (.int x2), some (.int x3), some (.int x4)] [] (((mm_fl b0 b1 b2), n1, n2, p, q, ad), I4, J4)
    show mm_wc d 57 [.ref 1, .int x3] (((mm_fl b0 b1 b2), 0, 0, p, q, ad), I4, J4) _
    refine mm_wcm h4 ?_
    rintro v τ ⟨I5, J5, rfl, rfl, h5⟩
    refine mm_r0' ⟨rfl, ?_⟩
    show mm_b _ _ _ _ _ [some (.ref 0), some (.int x0), some (.int x1), some (.int x2), some (.int x3), some (.int x4)] [] (((mm_fl b0 b1 b2), n1, n2, p, q, ad), I5, J5)
    show mm_wc d 57 [.ref 1, .int x4] (((mm_fl b0 b1 b2), 0, 0, p, q, ad), I5, J5) _
    refine mm_wcm h5 ?_
    rintro v τ ⟨I6, J6, rfl, rfl, h6⟩
    refine mm_r0' ⟨rfl, ?_⟩
    exact h6
  · exact (h1.2 c0)
/- 112 ThreeBreaths cake -/
theorem fx_112 {d : Nat} {x0 : Int32} {b0 b1 b2 : Bool} {n1 n2 : Nat} {p q : Bool} {ad : Nat → Nat} {I : mmI} {J : mmJ} {Q : mmQ} (h : ((x0 < (nI 0) → mm_wc d 159 [.ref 0, .int (nI 2)] (((mm_fl b0 b1 b2), 0, 0, p, q, ad), I, J) (fun v τ => ∃ r1 I1 J1, v = some (.int r1) ∧ τ = (((mm_fl b0 b1 b2), 0, 0, p, q, ad), I1, J1) ∧ Q (some (.int r1)) (((mm_fl b0 b1 b2), n1, n2, p, q, ad), I1, J1))) ∧ (¬ x0 < (nI 0) → ((x0 ≤ (I 1 1) → mm_wc d 58 [.ref 1, .int x0] (((mm_fl b0 b1 b2), 0, 0, p, q, ad), I, J) (fun v τ => ∃ r2 I2 J2, v = some (.int r2) ∧ τ = (((mm_fl b0 b1 b2), 0, 0, p, q, ad), I2, J2) ∧ mm_wc d 59 [.ref 1] (((mm_fl b0 b1 b2), 0, 0, p, q, ad), (mm_up I2 0 8 r2), J2) (fun v τ => ∃ r3 I3 J3, v = some (.int r3) ∧ τ = (((mm_fl b0 b1 b2), 0, 0, p, q, ad), I3, J3) ∧ (((I3 0 8) = (nI 0) → mm_wc d 0 [.ref 6, .ref (mm_ck q 0)] (((mm_fl b0 b1 b2), 0, 0, p, q, ad), (mm_up I3 0 9 r3), J3) (fun v τ => ∃ p4 q4 I4 J4, v = none ∧ τ = (((mm_fl b0 b1 b2), 0, 0, p4, q4, ad), I4, J4) ∧ mm_wc d 16 [.ref 6] (((mm_fl b0 b1 b2), 0, 0, p4, p, ad), (mm_up I4 0 1 (nI 1)), J4) (fun v τ => ∃ r5 I5 J5, v = some (.int r5) ∧ τ = (((mm_fl b0 b1 b2), 0, 0, p4, p, ad), I5, J5) ∧ mm_wc d 49 [.ref 15, .int r5] (((mm_fl b0 b1 b2), 0, 0, p4, p, ad), I5, J5) (fun v τ => ∃ I6 J6, v = none ∧ τ = (((mm_fl b0 b1 b2), 0, 0, p4, p, ad), I6, J6) ∧ mm_wc d 160 [.ref 0, .int (I6 6 2)] (((mm_fl b0 b1 b2), 0, 0, p4, p, ad), I6, J6) (fun v τ => ∃ r7 I7 J7, v = some (.int r7) ∧ τ = (((mm_fl b0 b1 b2), 0, 0, p4, p, ad), I7, J7) ∧ Q (some (.int r7)) (((mm_fl b0 b1 b2), n1, n2, p4, p, ad), I7, J7)))))) ∧ (¬ (I3 0 8) = (nI 0) → mm_wc d 159 [.ref 0, .int (nI 4)] (((mm_fl b0 b1 b2), 0, 0, p, q, ad), (mm_up I3 0 9 r3), J3) (fun v τ => ∃ r8 I8 J8, v = some (.int r8) ∧ τ = (((mm_fl b0 b1 b2), 0, 0, p, q, ad), I8, J8) ∧ Q (some (.int r8)) (((mm_fl b0 b1 b2), n1, n2, p, q, ad), I8, J8))))))) ∧ (¬ x0 ≤ (I 1 1) → mm_wc d 159 [.ref 0, .int (nI 2)] (((mm_fl b0 b1 b2), 0, 0, p, q, ad), I, J) (fun v τ => ∃ r9 I9 J9, v = some (.int r9) ∧ τ = (((mm_fl b0 b1 b2), 0, 0, p, q, ad), I9, J9) ∧ Q (some (.int r9)) (((mm_fl b0 b1 b2), n1, n2, p, q, ad), I9, J9))))))) : mm_wc (d + 1) 112 [.ref 0, .int x0] (((mm_fl b0 b1 b2), n1, n2, p, q, ad), I, J) Q := by
  cases p <;> cases q
  · refine mm_call (c := 112) rfl rfl ?_
    refine mm_go [] 80 ?_
    show (x0 < (nI 0) → _) ∧ (¬ x0 < (nI 0) → _)
    refine ⟨fun c0 => ?_, fun c0 => ?_⟩
    · show mm_u _ _ _ _ _ _ [some (.ref 0), some (.int x0), none] [] (((mm_fl b0 b1 b2), n1, n2, false, false, ad), I, J)
      show mm_wc d 159 [.ref 0, .int (nI 2)] (((mm_fl b0 b1 b2), 0, 0, false, false, ad), I, J) _
      refine mm_wcm (h.1 c0) ?_
      rintro v τ ⟨r1, I1, J1, rfl, rfl, h1⟩
      refine mm_r1' ⟨rfl, ?_⟩
      exact h1
    · show mm_b _ _ _ _ _ [some (.ref 0), some (.int x0), none] [] (((mm_fl b0 b1 b2), n1, n2, false, false, ad), I, J)
      show (x0 ≤ (I 1 1) → _) ∧ (¬ x0 ≤ (I 1 1) → _)
      refine ⟨fun c1 => ?_, fun c1 => ?_⟩
      · show mm_u _ _ _ _ _ _ [some (.ref 0), some (.int x0), none] [] (((mm_fl b0 b1 b2), n1, n2, false, false, ad), I, J)
        show mm_wc d 58 [.ref 1, .int x0] (((mm_fl b0 b1 b2), 0, 0, false, false, ad), I, J) _
        refine mm_wcm ((h.2 c0).1 c1) ?_
        rintro v τ ⟨r2, I2, J2, rfl, rfl, h2⟩
        refine mm_r1' ⟨rfl, ?_⟩
        show mm_b _ _ _ _ _ [some (.ref 0), some (.int x0), none] [.int r2, .ref 0] (((mm_fl b0 b1 b2), n1, n2, false, false, ad), I2, J2)
        show mm_wc d 59 [.ref 1] (((mm_fl b0 b1 b2), 0, 0, false, false, ad), (mm_up I2 0 8 r2), J2) _
        refine mm_wcm h2 ?_
        rintro v τ ⟨r3, I3, J3, rfl, rfl, h3⟩
        refine mm_r1' ⟨rfl, ?_⟩
        show mm_b _ _ _ _ _ [some (.ref 0), some (.int x0), none] [.int r3, .ref 0] (((mm_fl b0 b1 b2), n1, n2, false, false, ad), I3, J3)
        show ((I3 0 8) = (nI 0) → _) ∧ (¬ (I3 0 8) = (nI 0) → _)
        refine ⟨fun c2 => ?_, fun c2 => ?_⟩
        · show mm_u _ _ _ _ _ _ [some (.ref 0), some (.int x0), none] [] (((mm_fl b0 b1 b2), n1, n2, false, false, ad), (mm_up I3 0 9 r3), J3)
          show mm_wc d 0 [.ref 6, .ref 32] (((mm_fl b0 b1 b2), 0, 0, false, false, ad), (mm_up I3 0 9 r3), J3) _
          refine mm_wcm (h3.1 c2) ?_
          rintro v τ ⟨p4, q4, I4, J4, rfl, rfl, h4⟩
          refine mm_r0' ⟨rfl, ?_⟩
          show mm_b _ _ _ _ _ [some (.ref 0), none, some (.ref 32)] [] (((mm_fl b0 b1 b2), n1, n2, p4, q4, ad), I4, J4)
          show (32 = mm_cA ∨ 32 = mm_cB) ∧ _
          refine ⟨(by decide), ?_⟩
          show mm_b _ _ _ _ _ [some (.ref 0), none, some (.ref 32)] [] (((mm_fl b0 b1 b2), n1, n2, p4, false, ad), I4, J4)
          show (((nI 1) : Int32) = 0 ∨ ((nI 1) : Int32) = 1) ∧ _
          refine ⟨(by decide), ?_⟩
          show mm_b _ _ _ _ _ [some (.ref 0), none, some (.ref 32)] [] (((mm_fl b0 b1 b2), n1, n2, p4, false, ad), (mm_up I4 0 1 (nI 1)), J4)
          show mm_wc d 16 [.ref 6] (((mm_fl b0 b1 b2), 0, 0, p4, false, ad), (mm_up I4 0 1 (nI 1)), J4) _
          refine mm_wcm h4 ?_
          rintro v τ ⟨r5, I5, J5, rfl, rfl, h5⟩
          refine mm_r1' ⟨rfl, ?_⟩
          show mm_b _ _ _ _ _ [some (.ref 0), none, some (.ref 32)] [.int r5, .ref 15] (((mm_fl b0 b1 b2), n1, n2, p4, false, ad), I5, J5)
          show mm_wc d 49 [.ref 15, .int r5] (((mm_fl b0 b1 b2), 0, 0, p4, false, ad), I5, J5) _
          refine mm_wcm h5 ?_
          rintro v τ ⟨I6, J6, rfl, rfl, h6⟩
          refine mm_r0' ⟨rfl, ?_⟩
          show mm_b _ _ _ _ _ [some (.ref 0), none, some (.ref 32)] [] (((mm_fl b0 b1 b2), n1, n2, p4, false, ad), I6, J6)
          show mm_wc d 160 [.ref 0, .int (I6 6 2)] (((mm_fl b0 b1 b2), 0, 0, p4, false, ad), I6, J6) _
          refine mm_wcm h6 ?_
          rintro v τ ⟨r7, I7, J7, rfl, rfl, h7⟩
          refine mm_r1' ⟨rfl, ?_⟩
          exact h7
        · show mm_b _ _ _ _ _ [some (.ref 0), some (.int x0), none] [] (((mm_fl b0 b1 b2), n1, n2, false, false, ad), (mm_up I3 0 9 r3), J3)
          show mm_wc d 159 [.ref 0, .int (nI 4)] (((mm_fl b0 b1 b2), 0, 0, false, false, ad), (mm_up I3 0 9 r3), J3) _
          refine mm_wcm (h3.2 c2) ?_
          rintro v τ ⟨r8, I8, J8, rfl, rfl, h8⟩
          refine mm_r1' ⟨rfl, ?_⟩
          exact h8
      · show mm_b _ _ _ _ _ [some (.ref 0), some (.int x0), none] [] (((mm_fl b0 b1 b2), n1, n2, false, false, ad), I, J)
        show mm_wc d 159 [.ref 0, .int (nI 2)] (((mm_fl b0 b1 b2), 0, 0, false, false, ad), I, J) _
        refine mm_wcm ((h.2 c0).2 c1) ?_
        rintro v τ ⟨r9, I9, J9, rfl, rfl, h9⟩
        refine mm_r1' ⟨rfl, ?_⟩
        exact h9
  · refine mm_call (c := 112) rfl rfl ?_
    refine mm_go [] 80 ?_
    show (x0 < (nI 0) → _) ∧ (¬ x0 < (nI 0) → _)
    refine ⟨fun c0 => ?_, fun c0 => ?_⟩
    · show mm_u _ _ _ _ _ _ [some (.ref 0), some (.int x0), none] [] (((mm_fl b0 b1 b2), n1, n2, false, true, ad), I, J)
      show mm_wc d 159 [.ref 0, .int (nI 2)] (((mm_fl b0 b1 b2), 0, 0, false, true, ad), I, J) _
      refine mm_wcm (h.1 c0) ?_
      rintro v τ ⟨r1, I1, J1, rfl, rfl, h1⟩
      refine mm_r1' ⟨rfl, ?_⟩
      exact h1
    · show mm_b _ _ _ _ _ [some (.ref 0), some (.int x0), none] [] (((mm_fl b0 b1 b2), n1, n2, false, true, ad), I, J)
      show (x0 ≤ (I 1 1) → _) ∧ (¬ x0 ≤ (I 1 1) → _)
      refine ⟨fun c1 => ?_, fun c1 => ?_⟩
      · show mm_u _ _ _ _ _ _ [some (.ref 0), some (.int x0), none] [] (((mm_fl b0 b1 b2), n1, n2, false, true, ad), I, J)
        show mm_wc d 58 [.ref 1, .int x0] (((mm_fl b0 b1 b2), 0, 0, false, true, ad), I, J) _
        refine mm_wcm ((h.2 c0).1 c1) ?_
        rintro v τ ⟨r2, I2, J2, rfl, rfl, h2⟩
        refine mm_r1' ⟨rfl, ?_⟩
        show mm_b _ _ _ _ _ [some (.ref 0), some (.int x0), none] [.int r2, .ref 0] (((mm_fl b0 b1 b2), n1, n2, false, true, ad), I2, J2)
        show mm_wc d 59 [.ref 1] (((mm_fl b0 b1 b2), 0, 0, false, true, ad), (mm_up I2 0 8 r2), J2) _
        refine mm_wcm h2 ?_
        rintro v τ ⟨r3, I3, J3, rfl, rfl, h3⟩
        refine mm_r1' ⟨rfl, ?_⟩
        show mm_b _ _ _ _ _ [some (.ref 0), some (.int x0), none] [.int r3, .ref 0] (((mm_fl b0 b1 b2), n1, n2, false, true, ad), I3, J3)
        show ((I3 0 8) = (nI 0) → _) ∧ (¬ (I3 0 8) = (nI 0) → _)
        refine ⟨fun c2 => ?_, fun c2 => ?_⟩
        · show mm_u _ _ _ _ _ _ [some (.ref 0), some (.int x0), none] [] (((mm_fl b0 b1 b2), n1, n2, false, true, ad), (mm_up I3 0 9 r3), J3)
          show mm_wc d 0 [.ref 6, .ref 18] (((mm_fl b0 b1 b2), 0, 0, false, true, ad), (mm_up I3 0 9 r3), J3) _
          refine mm_wcm (h3.1 c2) ?_
          rintro v τ ⟨p4, q4, I4, J4, rfl, rfl, h4⟩
          refine mm_r0' ⟨rfl, ?_⟩
          show mm_b _ _ _ _ _ [some (.ref 0), none, some (.ref 32)] [] (((mm_fl b0 b1 b2), n1, n2, p4, q4, ad), I4, J4)
          show (32 = mm_cA ∨ 32 = mm_cB) ∧ _
          refine ⟨(by decide), ?_⟩
          show mm_b _ _ _ _ _ [some (.ref 0), none, some (.ref 32)] [] (((mm_fl b0 b1 b2), n1, n2, p4, false, ad), I4, J4)
          show (((nI 1) : Int32) = 0 ∨ ((nI 1) : Int32) = 1) ∧ _
          refine ⟨(by decide), ?_⟩
          show mm_b _ _ _ _ _ [some (.ref 0), none, some (.ref 32)] [] (((mm_fl b0 b1 b2), n1, n2, p4, false, ad), (mm_up I4 0 1 (nI 1)), J4)
          show mm_wc d 16 [.ref 6] (((mm_fl b0 b1 b2), 0, 0, p4, false, ad), (mm_up I4 0 1 (nI 1)), J4) _
          refine mm_wcm h4 ?_
          rintro v τ ⟨r5, I5, J5, rfl, rfl, h5⟩
          refine mm_r1' ⟨rfl, ?_⟩
          show mm_b _ _ _ _ _ [some (.ref 0), none, some (.ref 32)] [.int r5, .ref 15] (((mm_fl b0 b1 b2), n1, n2, p4, false, ad), I5, J5)
          show mm_wc d 49 [.ref 15, .int r5] (((mm_fl b0 b1 b2), 0, 0, p4, false, ad), I5, J5) _
          refine mm_wcm h5 ?_
          rintro v τ ⟨I6, J6, rfl, rfl, h6⟩
          refine mm_r0' ⟨rfl, ?_⟩
          show mm_b _ _ _ _ _ [some (.ref 0), none, some (.ref 32)] [] (((mm_fl b0 b1 b2), n1, n2, p4, false, ad), I6, J6)
          show mm_wc d 160 [.ref 0, .int (I6 6 2)] (((mm_fl b0 b1 b2), 0, 0, p4, false, ad), I6, J6) _
          refine mm_wcm h6 ?_
          rintro v τ ⟨r7, I7, J7, rfl, rfl, h7⟩
          refine mm_r1' ⟨rfl, ?_⟩
          exact h7
        · show mm_b _ _ _ _ _ [some (.ref 0), some (.int x0), none] [] (((mm_fl b0 b1 b2), n1, n2, false, true, ad), (mm_up I3 0 9 r3), J3)
          show mm_wc d 159 [.ref 0, .int (nI 4)] (((mm_fl b0 b1 b2), 0, 0, false, true, ad), (mm_up I3 0 9 r3), J3) _
          refine mm_wcm (h3.2 c2) ?_
          rintro v τ ⟨r8, I8, J8, rfl, rfl, h8⟩
          refine mm_r1' ⟨rfl, ?_⟩
          exact h8
      · show mm_b _ _ _ _ _ [some (.ref 0), some (.int x0), none] [] (((mm_fl b0 b1 b2), n1, n2, false, true, ad), I, J)
        show mm_wc d 159 [.ref 0, .int (nI 2)] (((mm_fl b0 b1 b2), 0, 0, false, true, ad), I, J) _
        refine mm_wcm ((h.2 c0).2 c1) ?_
        rintro v τ ⟨r9, I9, J9, rfl, rfl, h9⟩
        refine mm_r1' ⟨rfl, ?_⟩
        exact h9
  · refine mm_call (c := 112) rfl rfl ?_
    refine mm_go [] 80 ?_
    show (x0 < (nI 0) → _) ∧ (¬ x0 < (nI 0) → _)
    refine ⟨fun c0 => ?_, fun c0 => ?_⟩
    · show mm_u _ _ _ _ _ _ [some (.ref 0), some (.int x0), none] [] (((mm_fl b0 b1 b2), n1, n2, true, false, ad), I, J)
      show mm_wc d 159 [.ref 0, .int (nI 2)] (((mm_fl b0 b1 b2), 0, 0, true, false, ad), I, J) _
      refine mm_wcm (h.1 c0) ?_
      rintro v τ ⟨r1, I1, J1, rfl, rfl, h1⟩
      refine mm_r1' ⟨rfl, ?_⟩
      exact h1
    · show mm_b _ _ _ _ _ [some (.ref 0), some (.int x0), none] [] (((mm_fl b0 b1 b2), n1, n2, true, false, ad), I, J)
      show (x0 ≤ (I 1 1) → _) ∧ (¬ x0 ≤ (I 1 1) → _)
      refine ⟨fun c1 => ?_, fun c1 => ?_⟩
      · show mm_u _ _ _ _ _ _ [some (.ref 0), some (.int x0), none] [] (((mm_fl b0 b1 b2), n1, n2, true, false, ad), I, J)
        show mm_wc d 58 [.ref 1, .int x0] (((mm_fl b0 b1 b2), 0, 0, true, false, ad), I, J) _
        refine mm_wcm ((h.2 c0).1 c1) ?_
        rintro v τ ⟨r2, I2, J2, rfl, rfl, h2⟩
        refine mm_r1' ⟨rfl, ?_⟩
        show mm_b _ _ _ _ _ [some (.ref 0), some (.int x0), none] [.int r2, .ref 0] (((mm_fl b0 b1 b2), n1, n2, true, false, ad), I2, J2)
        show mm_wc d 59 [.ref 1] (((mm_fl b0 b1 b2), 0, 0, true, false, ad), (mm_up I2 0 8 r2), J2) _
        refine mm_wcm h2 ?_
        rintro v τ ⟨r3, I3, J3, rfl, rfl, h3⟩
        refine mm_r1' ⟨rfl, ?_⟩
        show mm_b _ _ _ _ _ [some (.ref 0), some (.int x0), none] [.int r3, .ref 0] (((mm_fl b0 b1 b2), n1, n2, true, false, ad), I3, J3)
        show ((I3 0 8) = (nI 0) → _) ∧ (¬ (I3 0 8) = (nI 0) → _)
        refine ⟨fun c2 => ?_, fun c2 => ?_⟩
        · show mm_u _ _ _ _ _ _ [some (.ref 0), some (.int x0), none] [] (((mm_fl b0 b1 b2), n1, n2, true, false, ad), (mm_up I3 0 9 r3), J3)
          show mm_wc d 0 [.ref 6, .ref 32] (((mm_fl b0 b1 b2), 0, 0, true, false, ad), (mm_up I3 0 9 r3), J3) _
          refine mm_wcm (h3.1 c2) ?_
          rintro v τ ⟨p4, q4, I4, J4, rfl, rfl, h4⟩
          refine mm_r0' ⟨rfl, ?_⟩
          show mm_b _ _ _ _ _ [some (.ref 0), none, some (.ref 18)] [] (((mm_fl b0 b1 b2), n1, n2, p4, q4, ad), I4, J4)
          show (18 = mm_cA ∨ 18 = mm_cB) ∧ _
          refine ⟨(by decide), ?_⟩
          show mm_b _ _ _ _ _ [some (.ref 0), none, some (.ref 18)] [] (((mm_fl b0 b1 b2), n1, n2, p4, true, ad), I4, J4)
          show (((nI 1) : Int32) = 0 ∨ ((nI 1) : Int32) = 1) ∧ _
          refine ⟨(by decide), ?_⟩
          show mm_b _ _ _ _ _ [some (.ref 0), none, some (.ref 18)] [] (((mm_fl b0 b1 b2), n1, n2, p4, true, ad), (mm_up I4 0 1 (nI 1)), J4)
          show mm_wc d 16 [.ref 6] (((mm_fl b0 b1 b2), 0, 0, p4, true, ad), (mm_up I4 0 1 (nI 1)), J4) _
          refine mm_wcm h4 ?_
          rintro v τ ⟨r5, I5, J5, rfl, rfl, h5⟩
          refine mm_r1' ⟨rfl, ?_⟩
          show mm_b _ _ _ _ _ [some (.ref 0), none, some (.ref 18)] [.int r5, .ref 15] (((mm_fl b0 b1 b2), n1, n2, p4, true, ad), I5, J5)
          show mm_wc d 49 [.ref 15, .int r5] (((mm_fl b0 b1 b2), 0, 0, p4, true, ad), I5, J5) _
          refine mm_wcm h5 ?_
          rintro v τ ⟨I6, J6, rfl, rfl, h6⟩
          refine mm_r0' ⟨rfl, ?_⟩
          show mm_b _ _ _ _ _ [some (.ref 0), none, some (.ref 18)] [] (((mm_fl b0 b1 b2), n1, n2, p4, true, ad), I6, J6)
          show mm_wc d 160 [.ref 0, .int (I6 6 2)] (((mm_fl b0 b1 b2), 0, 0, p4, true, ad), I6, J6) _
          refine mm_wcm h6 ?_
          rintro v τ ⟨r7, I7, J7, rfl, rfl, h7⟩
          refine mm_r1' ⟨rfl, ?_⟩
          exact h7
        · show mm_b _ _ _ _ _ [some (.ref 0), some (.int x0), none] [] (((mm_fl b0 b1 b2), n1, n2, true, false, ad), (mm_up I3 0 9 r3), J3)
          show mm_wc d 159 [.ref 0, .int (nI 4)] (((mm_fl b0 b1 b2), 0, 0, true, false, ad), (mm_up I3 0 9 r3), J3) _
          refine mm_wcm (h3.2 c2) ?_
          rintro v τ ⟨r8, I8, J8, rfl, rfl, h8⟩
          refine mm_r1' ⟨rfl, ?_⟩
          exact h8
      · show mm_b _ _ _ _ _ [some (.ref 0), some (.int x0), none] [] (((mm_fl b0 b1 b2), n1, n2, true, false, ad), I, J)
        show mm_wc d 159 [.ref 0, .int (nI 2)] (((mm_fl b0 b1 b2), 0, 0, true, false, ad), I, J) _
        refine mm_wcm ((h.2 c0).2 c1) ?_
        rintro v τ ⟨r9, I9, J9, rfl, rfl, h9⟩
        refine mm_r1' ⟨rfl, ?_⟩
        exact h9
  · refine mm_call (c := 112) rfl rfl ?_
    refine mm_go [] 80 ?_
    show (x0 < (nI 0) → _) ∧ (¬ x0 < (nI 0) → _)
    refine ⟨fun c0 => ?_, fun c0 => ?_⟩
    · show mm_u _ _ _ _ _ _ [some (.ref 0), some (.int x0), none] [] (((mm_fl b0 b1 b2), n1, n2, true, true, ad), I, J)
      show mm_wc d 159 [.ref 0, .int (nI 2)] (((mm_fl b0 b1 b2), 0, 0, true, true, ad), I, J) _
      refine mm_wcm (h.1 c0) ?_
      rintro v τ ⟨r1, I1, J1, rfl, rfl, h1⟩
      refine mm_r1' ⟨rfl, ?_⟩
      exact h1
    · show mm_b _ _ _ _ _ [some (.ref 0), some (.int x0), none] [] (((mm_fl b0 b1 b2), n1, n2, true, true, ad), I, J)
      show (x0 ≤ (I 1 1) → _) ∧ (¬ x0 ≤ (I 1 1) → _)
      refine ⟨fun c1 => ?_, fun c1 => ?_⟩
      · show mm_u _ _ _ _ _ _ [some (.ref 0), some (.int x0), none] [] (((mm_fl b0 b1 b2), n1, n2, true, true, ad), I, J)
        show mm_wc d 58 [.ref 1, .int x0] (((mm_fl b0 b1 b2), 0, 0, true, true, ad), I, J) _
        refine mm_wcm ((h.2 c0).1 c1) ?_
        rintro v τ ⟨r2, I2, J2, rfl, rfl, h2⟩
        refine mm_r1' ⟨rfl, ?_⟩
        show mm_b _ _ _ _ _ [some (.ref 0), some (.int x0), none] [.int r2, .ref 0] (((mm_fl b0 b1 b2), n1, n2, true, true, ad), I2, J2)
        show mm_wc d 59 [.ref 1] (((mm_fl b0 b1 b2), 0, 0, true, true, ad), (mm_up I2 0 8 r2), J2) _
        refine mm_wcm h2 ?_
        rintro v τ ⟨r3, I3, J3, rfl, rfl, h3⟩
        refine mm_r1' ⟨rfl, ?_⟩
        show mm_b _ _ _ _ _ [some (.ref 0), some (.int x0), none] [.int r3, .ref 0] (((mm_fl b0 b1 b2), n1, n2, true, true, ad), I3, J3)
        show ((I3 0 8) = (nI 0) → _) ∧ (¬ (I3 0 8) = (nI 0) → _)
        refine ⟨fun c2 => ?_, fun c2 => ?_⟩
        · show mm_u _ _ _ _ _ _ [some (.ref 0), some (.int x0), none] [] (((mm_fl b0 b1 b2), n1, n2, true, true, ad), (mm_up I3 0 9 r3), J3)
          show mm_wc d 0 [.ref 6, .ref 18] (((mm_fl b0 b1 b2), 0, 0, true, true, ad), (mm_up I3 0 9 r3), J3) _
          refine mm_wcm (h3.1 c2) ?_
          rintro v τ ⟨p4, q4, I4, J4, rfl, rfl, h4⟩
          refine mm_r0' ⟨rfl, ?_⟩
          show mm_b _ _ _ _ _ [some (.ref 0), none, some (.ref 18)] [] (((mm_fl b0 b1 b2), n1, n2, p4, q4, ad), I4, J4)
          show (18 = mm_cA ∨ 18 = mm_cB) ∧ _
          refine ⟨(by decide), ?_⟩
          show mm_b _ _ _ _ _ [some (.ref 0), none, some (.ref 18)] [] (((mm_fl b0 b1 b2), n1, n2, p4, true, ad), I4, J4)
          show (((nI 1) : Int32) = 0 ∨ ((nI 1) : Int32) = 1) ∧ _
          refine ⟨(by decide), ?_⟩
          show mm_b _ _ _ _ _ [some (.ref 0), none, some (.ref 18)] [] (((mm_fl b0 b1 b2), n1, n2, p4, true, ad), (mm_up I4 0 1 (nI 1)), J4)
          show mm_wc d 16 [.ref 6] (((mm_fl b0 b1 b2), 0, 0, p4, true, ad), (mm_up I4 0 1 (nI 1)), J4) _
          refine mm_wcm h4 ?_
          rintro v τ ⟨r5, I5, J5, rfl, rfl, h5⟩
          refine mm_r1' ⟨rfl, ?_⟩
          show mm_b _ _ _ _ _ [some (.ref 0), none, some (.ref 18)] [.int r5, .ref 15] (((mm_fl b0 b1 b2), n1, n2, p4, true, ad), I5, J5)
          show mm_wc d 49 [.ref 15, .int r5] (((mm_fl b0 b1 b2), 0, 0, p4, true, ad), I5, J5) _
          refine mm_wcm h5 ?_
          rintro v τ ⟨I6, J6, rfl, rfl, h6⟩
          refine mm_r0' ⟨rfl, ?_⟩
          show mm_b _ _ _ _ _ [some (.ref 0), none, some (.ref 18)] [] (((mm_fl b0 b1 b2), n1, n2, p4, true, ad), I6, J6)
          show mm_wc d 160 [.ref 0, .int (I6 6 2)] (((mm_fl b0 b1 b2), 0, 0, p4, true, ad), I6, J6) _
          refine mm_wcm h6 ?_
          rintro v τ ⟨r7, I7, J7, rfl, rfl, h7⟩
          refine mm_r1' ⟨rfl, ?_⟩
          exact h7
        · show mm_b _ _ _ _ _ [some (.ref 0), some (.int x0), none] [] (((mm_fl b0 b1 b2), n1, n2, true, true, ad), (mm_up I3 0 9 r3), J3)
          show mm_wc d 159 [.ref 0, .int (nI 4)] (((mm_fl b0 b1 b2), 0, 0, true, true, ad), (mm_up I3 0 9 r3), J3) _
          refine mm_wcm (h3.2 c2) ?_
          rintro v τ ⟨r8, I8, J8, rfl, rfl, h8⟩
          refine mm_r1' ⟨rfl, ?_⟩
          exact h8
      · show mm_b _ _ _ _ _ [some (.ref 0), some (.int x0), none] [] (((mm_fl b0 b1 b2), n1, n2, true, true, ad), I, J)
        show mm_wc d 159 [.ref 0, .int (nI 2)] (((mm_fl b0 b1 b2), 0, 0, true, true, ad), I, J) _
        refine mm_wcm ((h.2 c0).2 c1) ?_
        rintro v τ ⟨r9, I9, J9, rfl, rfl, h9⟩
        refine mm_r1' ⟨rfl, ?_⟩
        exact h9
/- 113 ThreeBreaths fault -/
theorem fx_113 {d : Nat} {b0 b1 b2 : Bool} {n1 n2 : Nat} {p q : Bool} {ad : Nat → Nat} {I : mmI} {J : mmJ} {Q : mmQ} (h : Q (some (.int (I 0 8))) (((mm_fl b0 b1 b2), n1, n2, p, q, ad), I, J)) : mm_wc (d + 1) 113 [.ref 0] (((mm_fl b0 b1 b2), n1, n2, p, q, ad), I, J) Q := by
  refine mm_call (c := 113) rfl rfl ?_
  refine mm_go [] 80 ?_
  exact h
/- 114 ThreeBreaths where -/
theorem fx_114 {d : Nat} {b0 b1 b2 : Bool} {n1 n2 : Nat} {p q : Bool} {ad : Nat → Nat} {I : mmI} {J : mmJ} {Q : mmQ} (h : ((¬ (I 0 7) = (nI 4) → Q (some (.int (-1))) (((mm_fl b0 b1 b2), n1, n2, p, q, ad), I, J)) ∧ ((I 0 7) = (nI 4) → Q (some (.int (I 0 9))) (((mm_fl b0 b1 b2), n1, n2, p, q, ad), I, J)))) : mm_wc (d + 1) 114 [.ref 0] (((mm_fl b0 b1 b2), n1, n2, p, q, ad), I, J) Q := by
  refine mm_call (c := 114) rfl rfl ?_
  refine mm_go [] 80 ?_
  show (¬ (I 0 7) = (nI 4) → _) ∧ ((I 0 7) = (nI 4) → _)
  refine ⟨fun c0 => ?_, fun c0 => ?_⟩
  · exact (h.1 c0)
  · exact (h.2 c0)
/- 115 ThreeBreaths candle -/
theorem fx_115 {d : Nat} {x0 : Int32} {x1 : Int32} {b0 b1 b2 : Bool} {n1 n2 : Nat} {p q : Bool} {ad : Nat → Nat} {I : mmI} {J : mmJ} {Q : mmQ} (h : mm_wc d 153 [.ref 0, .int x0] (((mm_fl b0 b1 b2), 0, 0, p, q, ad), I, J) (fun v τ => ∃ r1 I1 J1, v = some (.int r1) ∧ τ = (((mm_fl b0 b1 b2), 0, 0, p, q, ad), I1, J1) ∧ ((r1 = (nI 0) → mm_wc d 159 [.ref 0, .int (nI 1)] (((mm_fl b0 b1 b2), 0, 0, p, q, ad), I1, J1) (fun v τ => ∃ r2 I2 J2, v = some (.int r2) ∧ τ = (((mm_fl b0 b1 b2), 0, 0, p, q, ad), I2, J2) ∧ Q (some (.int r2)) (((mm_fl b0 b1 b2), n1, n2, p, q, ad), I2, J2))) ∧ (¬ r1 = (nI 0) → ((x1 < (nI 0) → mm_wc d 159 [.ref 0, .int (nI 1)] (((mm_fl b0 b1 b2), 0, 0, p, q, ad), I1, J1) (fun v τ => ∃ r3 I3 J3, v = some (.int r3) ∧ τ = (((mm_fl b0 b1 b2), 0, 0, p, q, ad), I3, J3) ∧ Q (some (.int r3)) (((mm_fl b0 b1 b2), n1, n2, p, q, ad), I3, J3))) ∧ (¬ x1 < (nI 0) → ((x1 ≤ (nI 2) → ((¬ x1 = (nI 0) → ((¬ x1 = (nI 1) → (vp_in x0 10 ∧ mm_wc d 160 [.ref 0, .int (I1 (mm_ck p 4) x0.toNatClampNeg)] (((mm_fl b0 b1 b2), 0, 0, p, q, ad), I1, J1) (fun v τ => ∃ r4 I4 J4, v = some (.int r4) ∧ τ = (((mm_fl b0 b1 b2), 0, 0, p, q, ad), I4, J4) ∧ Q (some (.int r4)) (((mm_fl b0 b1 b2), n1, n2, p, q, ad), I4, J4)))) ∧ (x1 = (nI 1) → (vp_in x0 10 ∧ mm_wc d 160 [.ref 0, .int (I1 (mm_ck p 3) x0.toNatClampNeg)] (((mm_fl b0 b1 b2), 0, 0, p, q, ad), I1, J1) (fun v τ => ∃ r5 I5 J5, v = some (.int r5) ∧ τ = (((mm_fl b0 b1 b2), 0, 0, p, q, ad), I5, J5) ∧ Q (some (.int r5)) (((mm_fl b0 b1 b2), n1, n2, p, q, ad), I5, J5)))))) ∧ (x1 = (nI 0) → (vp_in x0 10 ∧ mm_wc d 160 [.ref 0, .int (I1 (mm_ck p 2) x0.toNatClampNeg)] (((mm_fl b0 b1 b2), 0, 0, p, q, ad), I1, J1) (fun v τ => ∃ r6 I6 J6, v = some (.int r6) ∧ τ = (((mm_fl b0 b1 b2), 0, 0, p, q, ad), I6, J6) ∧ Q (some (.int r6)) (((mm_fl b0 b1 b2), n1, n2, p, q, ad), I6, J6)))))) ∧ (¬ x1 ≤ (nI 2) → mm_wc d 159 [.ref 0, .int (nI 1)] (((mm_fl b0 b1 b2), 0, 0, p, q, ad), I1, J1) (fun v τ => ∃ r7 I7 J7, v = some (.int r7) ∧ τ = (((mm_fl b0 b1 b2), 0, 0, p, q, ad), I7, J7) ∧ Q (some (.int r7)) (((mm_fl b0 b1 b2), n1, n2, p, q, ad), I7, J7)))))))))) : mm_wc (d + 1) 115 [.ref 0, .int x0, .int x1] (((mm_fl b0 b1 b2), n1, n2, p, q, ad), I, J) Q := by
  cases p
  · refine mm_call (c := 115) rfl rfl ?_
    refine mm_go [] 80 ?_
    show mm_wc d 153 [.ref 0, .int x0] (((mm_fl b0 b1 b2), 0, 0, false, q, ad), I, J) _
    refine mm_wcm h ?_
    rintro v τ ⟨r1, I1, J1, rfl, rfl, h1⟩
    refine mm_r1' ⟨rfl, ?_⟩
    show mm_b _ _ _ _ _ [some (.ref 0), some (.int x0), some (.int x1)] [.int r1] (((mm_fl b0 b1 b2), n1, n2, false, q, ad), I1, J1)
    show (r1 = (nI 0) → _) ∧ (¬ r1 = (nI 0) → _)
    refine ⟨fun c0 => ?_, fun c0 => ?_⟩
    · show mm_u _ _ _ _ _ _ [some (.ref 0), some (.int x0), some (.int x1)] [] (((mm_fl b0 b1 b2), n1, n2, false, q, ad), I1, J1)
      show mm_wc d 159 [.ref 0, .int (nI 1)] (((mm_fl b0 b1 b2), 0, 0, false, q, ad), I1, J1) _
      refine mm_wcm (h1.1 c0) ?_
      rintro v τ ⟨r2, I2, J2, rfl, rfl, h2⟩
      refine mm_r1' ⟨rfl, ?_⟩
      exact h2
    · show mm_b _ _ _ _ _ [some (.ref 0), some (.int x0), some (.int x1)] [] (((mm_fl b0 b1 b2), n1, n2, false, q, ad), I1, J1)
      show (x1 < (nI 0) → _) ∧ (¬ x1 < (nI 0) → _)
      refine ⟨fun c1 => ?_, fun c1 => ?_⟩
      · show mm_u _ _ _ _ _ _ [some (.ref 0), some (.int x0), some (.int x1)] [] (((mm_fl b0 b1 b2), n1, n2, false, q, ad), I1, J1)
        show mm_wc d 159 [.ref 0, .int (nI 1)] (((mm_fl b0 b1 b2), 0, 0, false, q, ad), I1, J1) _
        refine mm_wcm ((h1.2 c0).1 c1) ?_
        rintro v τ ⟨r3, I3, J3, rfl, rfl, h3⟩
        refine mm_r1' ⟨rfl, ?_⟩
        exact h3
      · show mm_b _ _ _ _ _ [some (.ref 0), some (.int x0), some (.int x1)] [] (((mm_fl b0 b1 b2), n1, n2, false, q, ad), I1, J1)
        show (x1 ≤ (nI 2) → _) ∧ (¬ x1 ≤ (nI 2) → _)
        refine ⟨fun c2 => ?_, fun c2 => ?_⟩
        · show mm_u _ _ _ _ _ _ [some (.ref 0), some (.int x0), some (.int x1)] [] (((mm_fl b0 b1 b2), n1, n2, false, q, ad), I1, J1)
          show (¬ x1 = (nI 0) → _) ∧ (x1 = (nI 0) → _)
          refine ⟨fun c3 => ?_, fun c3 => ?_⟩
          · show mm_u _ _ _ _ _ _ [some (.ref 0), some (.int x0), some (.int x1)] [] (((mm_fl b0 b1 b2), n1, n2, false, q, ad), I1, J1)
            show (¬ x1 = (nI 1) → _) ∧ (x1 = (nI 1) → _)
            refine ⟨fun c4 => ?_, fun c4 => ?_⟩
            · show mm_u _ _ _ _ _ _ [some (.ref 0), some (.int x0), some (.int x1)] [.ref 0] (((mm_fl b0 b1 b2), n1, n2, false, q, ad), I1, J1)
              show vp_in x0 10 ∧ _
              refine ⟨(((((h1.2 c0).2 c1).1 c2).1 c3).1 c4).1, ?_⟩
              show mm_b _ _ _ _ _ [some (.ref 0), some (.int x0), none] [.int (I1 36 x0.toNatClampNeg), .ref 0] (((mm_fl b0 b1 b2), n1, n2, false, q, ad), I1, J1)
              show mm_wc d 160 [.ref 0, .int (I1 36 x0.toNatClampNeg)] (((mm_fl b0 b1 b2), 0, 0, false, q, ad), I1, J1) _
              refine mm_wcm ((((((h1.2 c0).2 c1).1 c2).1 c3).1 c4).2) ?_
              rintro v τ ⟨r4, I4, J4, rfl, rfl, h4⟩
              refine mm_r1' ⟨rfl, ?_⟩
              exact h4
            · show mm_b _ _ _ _ _ [some (.ref 0), some (.int x0), some (.int x1)] [.ref 0] (((mm_fl b0 b1 b2), n1, n2, false, q, ad), I1, J1)
              show vp_in x0 10 ∧ _
              refine ⟨(((((h1.2 c0).2 c1).1 c2).1 c3).2 c4).1, ?_⟩
              show mm_b _ _ _ _ _ [some (.ref 0), some (.int x0), some (.int x1)] [.int (I1 35 x0.toNatClampNeg), .ref 0] (((mm_fl b0 b1 b2), n1, n2, false, q, ad), I1, J1)
              show mm_wc d 160 [.ref 0, .int (I1 35 x0.toNatClampNeg)] (((mm_fl b0 b1 b2), 0, 0, false, q, ad), I1, J1) _
              refine mm_wcm ((((((h1.2 c0).2 c1).1 c2).1 c3).2 c4).2) ?_
              rintro v τ ⟨r5, I5, J5, rfl, rfl, h5⟩
              refine mm_r1' ⟨rfl, ?_⟩
              exact h5
          · show mm_b _ _ _ _ _ [some (.ref 0), some (.int x0), some (.int x1)] [] (((mm_fl b0 b1 b2), n1, n2, false, q, ad), I1, J1)
            show vp_in x0 10 ∧ _
            refine ⟨((((h1.2 c0).2 c1).1 c2).2 c3).1, ?_⟩
            show mm_b _ _ _ _ _ [some (.ref 0), some (.int x0), some (.int x1)] [.int (I1 34 x0.toNatClampNeg), .ref 0] (((mm_fl b0 b1 b2), n1, n2, false, q, ad), I1, J1)
            show mm_wc d 160 [.ref 0, .int (I1 34 x0.toNatClampNeg)] (((mm_fl b0 b1 b2), 0, 0, false, q, ad), I1, J1) _
            refine mm_wcm (((((h1.2 c0).2 c1).1 c2).2 c3).2) ?_
            rintro v τ ⟨r6, I6, J6, rfl, rfl, h6⟩
            refine mm_r1' ⟨rfl, ?_⟩
            exact h6
        · show mm_b _ _ _ _ _ [some (.ref 0), some (.int x0), some (.int x1)] [] (((mm_fl b0 b1 b2), n1, n2, false, q, ad), I1, J1)
          show mm_wc d 159 [.ref 0, .int (nI 1)] (((mm_fl b0 b1 b2), 0, 0, false, q, ad), I1, J1) _
          refine mm_wcm (((h1.2 c0).2 c1).2 c2) ?_
          rintro v τ ⟨r7, I7, J7, rfl, rfl, h7⟩
          refine mm_r1' ⟨rfl, ?_⟩
          exact h7
  · refine mm_call (c := 115) rfl rfl ?_
    refine mm_go [] 80 ?_
    show mm_wc d 153 [.ref 0, .int x0] (((mm_fl b0 b1 b2), 0, 0, true, q, ad), I, J) _
    refine mm_wcm h ?_
    rintro v τ ⟨r1, I1, J1, rfl, rfl, h1⟩
    refine mm_r1' ⟨rfl, ?_⟩
    show mm_b _ _ _ _ _ [some (.ref 0), some (.int x0), some (.int x1)] [.int r1] (((mm_fl b0 b1 b2), n1, n2, true, q, ad), I1, J1)
    show (r1 = (nI 0) → _) ∧ (¬ r1 = (nI 0) → _)
    refine ⟨fun c0 => ?_, fun c0 => ?_⟩
    · show mm_u _ _ _ _ _ _ [some (.ref 0), some (.int x0), some (.int x1)] [] (((mm_fl b0 b1 b2), n1, n2, true, q, ad), I1, J1)
      show mm_wc d 159 [.ref 0, .int (nI 1)] (((mm_fl b0 b1 b2), 0, 0, true, q, ad), I1, J1) _
      refine mm_wcm (h1.1 c0) ?_
      rintro v τ ⟨r2, I2, J2, rfl, rfl, h2⟩
      refine mm_r1' ⟨rfl, ?_⟩
      exact h2
    · show mm_b _ _ _ _ _ [some (.ref 0), some (.int x0), some (.int x1)] [] (((mm_fl b0 b1 b2), n1, n2, true, q, ad), I1, J1)
      show (x1 < (nI 0) → _) ∧ (¬ x1 < (nI 0) → _)
      refine ⟨fun c1 => ?_, fun c1 => ?_⟩
      · show mm_u _ _ _ _ _ _ [some (.ref 0), some (.int x0), some (.int x1)] [] (((mm_fl b0 b1 b2), n1, n2, true, q, ad), I1, J1)
        show mm_wc d 159 [.ref 0, .int (nI 1)] (((mm_fl b0 b1 b2), 0, 0, true, q, ad), I1, J1) _
        refine mm_wcm ((h1.2 c0).1 c1) ?_
        rintro v τ ⟨r3, I3, J3, rfl, rfl, h3⟩
        refine mm_r1' ⟨rfl, ?_⟩
        exact h3
      · show mm_b _ _ _ _ _ [some (.ref 0), some (.int x0), some (.int x1)] [] (((mm_fl b0 b1 b2), n1, n2, true, q, ad), I1, J1)
        show (x1 ≤ (nI 2) → _) ∧ (¬ x1 ≤ (nI 2) → _)
        refine ⟨fun c2 => ?_, fun c2 => ?_⟩
        · show mm_u _ _ _ _ _ _ [some (.ref 0), some (.int x0), some (.int x1)] [] (((mm_fl b0 b1 b2), n1, n2, true, q, ad), I1, J1)
          show (¬ x1 = (nI 0) → _) ∧ (x1 = (nI 0) → _)
          refine ⟨fun c3 => ?_, fun c3 => ?_⟩
          · show mm_u _ _ _ _ _ _ [some (.ref 0), some (.int x0), some (.int x1)] [] (((mm_fl b0 b1 b2), n1, n2, true, q, ad), I1, J1)
            show (¬ x1 = (nI 1) → _) ∧ (x1 = (nI 1) → _)
            refine ⟨fun c4 => ?_, fun c4 => ?_⟩
            · show mm_u _ _ _ _ _ _ [some (.ref 0), some (.int x0), some (.int x1)] [.ref 0] (((mm_fl b0 b1 b2), n1, n2, true, q, ad), I1, J1)
              show vp_in x0 10 ∧ _
              refine ⟨(((((h1.2 c0).2 c1).1 c2).1 c3).1 c4).1, ?_⟩
              show mm_b _ _ _ _ _ [some (.ref 0), some (.int x0), none] [.int (I1 22 x0.toNatClampNeg), .ref 0] (((mm_fl b0 b1 b2), n1, n2, true, q, ad), I1, J1)
              show mm_wc d 160 [.ref 0, .int (I1 22 x0.toNatClampNeg)] (((mm_fl b0 b1 b2), 0, 0, true, q, ad), I1, J1) _
              refine mm_wcm ((((((h1.2 c0).2 c1).1 c2).1 c3).1 c4).2) ?_
              rintro v τ ⟨r4, I4, J4, rfl, rfl, h4⟩
              refine mm_r1' ⟨rfl, ?_⟩
              exact h4
            · show mm_b _ _ _ _ _ [some (.ref 0), some (.int x0), some (.int x1)] [.ref 0] (((mm_fl b0 b1 b2), n1, n2, true, q, ad), I1, J1)
              show vp_in x0 10 ∧ _
              refine ⟨(((((h1.2 c0).2 c1).1 c2).1 c3).2 c4).1, ?_⟩
              show mm_b _ _ _ _ _ [some (.ref 0), some (.int x0), some (.int x1)] [.int (I1 21 x0.toNatClampNeg), .ref 0] (((mm_fl b0 b1 b2), n1, n2, true, q, ad), I1, J1)
              show mm_wc d 160 [.ref 0, .int (I1 21 x0.toNatClampNeg)] (((mm_fl b0 b1 b2), 0, 0, true, q, ad), I1, J1) _
              refine mm_wcm ((((((h1.2 c0).2 c1).1 c2).1 c3).2 c4).2) ?_
              rintro v τ ⟨r5, I5, J5, rfl, rfl, h5⟩
              refine mm_r1' ⟨rfl, ?_⟩
              exact h5
          · show mm_b _ _ _ _ _ [some (.ref 0), some (.int x0), some (.int x1)] [] (((mm_fl b0 b1 b2), n1, n2, true, q, ad), I1, J1)
            show vp_in x0 10 ∧ _
            refine ⟨((((h1.2 c0).2 c1).1 c2).2 c3).1, ?_⟩
            show mm_b _ _ _ _ _ [some (.ref 0), some (.int x0), some (.int x1)] [.int (I1 20 x0.toNatClampNeg), .ref 0] (((mm_fl b0 b1 b2), n1, n2, true, q, ad), I1, J1)
            show mm_wc d 160 [.ref 0, .int (I1 20 x0.toNatClampNeg)] (((mm_fl b0 b1 b2), 0, 0, true, q, ad), I1, J1) _
            refine mm_wcm (((((h1.2 c0).2 c1).1 c2).2 c3).2) ?_
            rintro v τ ⟨r6, I6, J6, rfl, rfl, h6⟩
            refine mm_r1' ⟨rfl, ?_⟩
            exact h6
        · show mm_b _ _ _ _ _ [some (.ref 0), some (.int x0), some (.int x1)] [] (((mm_fl b0 b1 b2), n1, n2, true, q, ad), I1, J1)
          show mm_wc d 159 [.ref 0, .int (nI 1)] (((mm_fl b0 b1 b2), 0, 0, true, q, ad), I1, J1) _
          refine mm_wcm (((h1.2 c0).2 c1).2 c2) ?_
          rintro v τ ⟨r7, I7, J7, rfl, rfl, h7⟩
          refine mm_r1' ⟨rfl, ?_⟩
          exact h7
/- 116 ThreeBreaths fan -/
theorem fx_116 {d : Nat} {x0 : Int32} {b0 b1 b2 : Bool} {n1 n2 : Nat} {p q : Bool} {ad : Nat → Nat} {I : mmI} {J : mmJ} {Q : mmQ} (h : mm_wc d 156 [.ref 0, .int x0] (((mm_fl b0 b1 b2), 0, 0, p, q, ad), I, J) (fun v τ => ∃ r1 I1 J1, v = some (.int r1) ∧ τ = (((mm_fl b0 b1 b2), 0, 0, p, q, ad), I1, J1) ∧ ((r1 = (nI 0) → mm_wc d 159 [.ref 0, .int (nI 1)] (((mm_fl b0 b1 b2), 0, 0, p, q, ad), I1, J1) (fun v τ => ∃ r2 I2 J2, v = some (.int r2) ∧ τ = (((mm_fl b0 b1 b2), 0, 0, p, q, ad), I2, J2) ∧ Q (some (.int r2)) (((mm_fl b0 b1 b2), n1, n2, p, q, ad), I2, J2))) ∧ (¬ r1 = (nI 0) → (vp_in x0 320 ∧ mm_wc d 160 [.ref 0, .int (I1 7 x0.toNatClampNeg)] (((mm_fl b0 b1 b2), 0, 0, p, q, ad), I1, J1) (fun v τ => ∃ r3 I3 J3, v = some (.int r3) ∧ τ = (((mm_fl b0 b1 b2), 0, 0, p, q, ad), I3, J3) ∧ Q (some (.int r3)) (((mm_fl b0 b1 b2), n1, n2, p, q, ad), I3, J3))))))) : mm_wc (d + 1) 116 [.ref 0, .int x0] (((mm_fl b0 b1 b2), n1, n2, p, q, ad), I, J) Q := by
  refine mm_call (c := 116) rfl rfl ?_
  refine mm_go [] 80 ?_
  show mm_wc d 156 [.ref 0, .int x0] (((mm_fl b0 b1 b2), 0, 0, p, q, ad), I, J) _
  refine mm_wcm h ?_
  rintro v τ ⟨r1, I1, J1, rfl, rfl, h1⟩
  refine mm_r1' ⟨rfl, ?_⟩
  show mm_b _ _ _ _ _ [some (.ref 0), some (.int x0)] [.int r1] (((mm_fl b0 b1 b2), n1, n2, p, q, ad), I1, J1)
  show (r1 = (nI 0) → _) ∧ (¬ r1 = (nI 0) → _)
  refine ⟨fun c0 => ?_, fun c0 => ?_⟩
  · show mm_u _ _ _ _ _ _ [some (.ref 0), some (.int x0)] [] (((mm_fl b0 b1 b2), n1, n2, p, q, ad), I1, J1)
    show mm_wc d 159 [.ref 0, .int (nI 1)] (((mm_fl b0 b1 b2), 0, 0, p, q, ad), I1, J1) _
    refine mm_wcm (h1.1 c0) ?_
    rintro v τ ⟨r2, I2, J2, rfl, rfl, h2⟩
    refine mm_r1' ⟨rfl, ?_⟩
    exact h2
  · show mm_b _ _ _ _ _ [some (.ref 0), some (.int x0)] [] (((mm_fl b0 b1 b2), n1, n2, p, q, ad), I1, J1)
    show vp_in x0 320 ∧ _
    refine ⟨(h1.2 c0).1, ?_⟩
    show mm_b _ _ _ _ _ [some (.ref 0), some (.int x0)] [.int (I1 7 x0.toNatClampNeg), .ref 0] (((mm_fl b0 b1 b2), n1, n2, p, q, ad), I1, J1)
    show mm_wc d 160 [.ref 0, .int (I1 7 x0.toNatClampNeg)] (((mm_fl b0 b1 b2), 0, 0, p, q, ad), I1, J1) _
    refine mm_wcm ((h1.2 c0).2) ?_
    rintro v τ ⟨r3, I3, J3, rfl, rfl, h3⟩
    refine mm_r1' ⟨rfl, ?_⟩
    exact h3
/- 117 ThreeBreaths breath -/
theorem fx_117 {d : Nat} {x0 : Int32} {x1 : Int32} {x2 : Int32} {b0 b1 b2 : Bool} {n1 n2 : Nat} {p q : Bool} {ad : Nat → Nat} {I : mmI} {J : mmJ} {Q : mmQ} (h : mm_wc d 155 [.ref 0, .int x0] (((mm_fl b0 b1 b2), 0, 0, p, q, ad), I, J) (fun v τ => ∃ r1 I1 J1, v = some (.int r1) ∧ τ = (((mm_fl b0 b1 b2), 0, 0, p, q, ad), I1, J1) ∧ ((r1 = (nI 0) → mm_wc d 159 [.ref 0, .int (nI 1)] (((mm_fl b0 b1 b2), 0, 0, p, q, ad), I1, J1) (fun v τ => ∃ r2 I2 J2, v = some (.int r2) ∧ τ = (((mm_fl b0 b1 b2), 0, 0, p, q, ad), I2, J2) ∧ Q (some (.int r2)) (((mm_fl b0 b1 b2), n1, n2, p, q, ad), I2, J2))) ∧ (¬ r1 = (nI 0) → mm_wc d 154 [.ref 0, .int x1] (((mm_fl b0 b1 b2), 0, 0, p, q, ad), I1, J1) (fun v τ => ∃ r3 I3 J3, v = some (.int r3) ∧ τ = (((mm_fl b0 b1 b2), 0, 0, p, q, ad), I3, J3) ∧ ((r3 = (nI 0) → mm_wc d 159 [.ref 0, .int (nI 1)] (((mm_fl b0 b1 b2), 0, 0, p, q, ad), I3, J3) (fun v τ => ∃ r4 I4 J4, v = some (.int r4) ∧ τ = (((mm_fl b0 b1 b2), 0, 0, p, q, ad), I4, J4) ∧ Q (some (.int r4)) (((mm_fl b0 b1 b2), n1, n2, p, q, ad), I4, J4))) ∧ (¬ r3 = (nI 0) → ((x2 < (nI 0) → mm_wc d 159 [.ref 0, .int (nI 1)] (((mm_fl b0 b1 b2), 0, 0, p, q, ad), I3, J3) (fun v τ => ∃ r5 I5 J5, v = some (.int r5) ∧ τ = (((mm_fl b0 b1 b2), 0, 0, p, q, ad), I5, J5) ∧ Q (some (.int r5)) (((mm_fl b0 b1 b2), n1, n2, p, q, ad), I5, J5))) ∧ (¬ x2 < (nI 0) → ((x2 < (nI 16) → mm_wc d 9 [.ref 6, .int x0, .int x1, .int x2] (((mm_fl b0 b1 b2), 0, 0, p, q, ad), I3, J3) (fun v τ => ∃ r6 I6 J6, v = some (.int r6) ∧ τ = (((mm_fl b0 b1 b2), 0, 0, p, q, ad), I6, J6) ∧ mm_wc d 160 [.ref 0, .int r6] (((mm_fl b0 b1 b2), 0, 0, p, q, ad), I6, J6) (fun v τ => ∃ r7 I7 J7, v = some (.int r7) ∧ τ = (((mm_fl b0 b1 b2), 0, 0, p, q, ad), I7, J7) ∧ Q (some (.int r7)) (((mm_fl b0 b1 b2), n1, n2, p, q, ad), I7, J7)))) ∧ (¬ x2 < (nI 16) → mm_wc d 159 [.ref 0, .int (nI 1)] (((mm_fl b0 b1 b2), 0, 0, p, q, ad), I3, J3) (fun v τ => ∃ r8 I8 J8, v = some (.int r8) ∧ τ = (((mm_fl b0 b1 b2), 0, 0, p, q, ad), I8, J8) ∧ Q (some (.int r8)) (((mm_fl b0 b1 b2), n1, n2, p, q, ad), I8, J8))))))))))))) : mm_wc (d + 1) 117 [.ref 0, .int x0, .int x1, .int x2] (((mm_fl b0 b1 b2), n1, n2, p, q, ad), I, J) Q := by
  refine mm_call (c := 117) rfl rfl ?_
  refine mm_go [] 80 ?_
  show mm_wc d 155 [.ref 0, .int x0] (((mm_fl b0 b1 b2), 0, 0, p, q, ad), I, J) _
  refine mm_wcm h ?_
  rintro v τ ⟨r1, I1, J1, rfl, rfl, h1⟩
  refine mm_r1' ⟨rfl, ?_⟩
  show mm_b _ _ _ _ _ [some (.ref 0), some (.int x0), some (.int x1), some (.int x2)] [.int r1] (((mm_fl b0 b1 b2), n1, n2, p, q, ad), I1, J1)
  show (r1 = (nI 0) → _) ∧ (¬ r1 = (nI 0) → _)
  refine ⟨fun c0 => ?_, fun c0 => ?_⟩
  · show mm_u _ _ _ _ _ _ [some (.ref 0), some (.int x0), some (.int x1), some (.int x2)] [] (((mm_fl b0 b1 b2), n1, n2, p, q, ad), I1, J1)
    show mm_wc d 159 [.ref 0, .int (nI 1)] (((mm_fl b0 b1 b2), 0, 0, p, q, ad), I1, J1) _
    refine mm_wcm (h1.1 c0) ?_
    rintro v τ ⟨r2, I2, J2, rfl, rfl, h2⟩
    refine mm_r1' ⟨rfl, ?_⟩
    exact h2
  · show mm_b _ _ _ _ _ [some (.ref 0), some (.int x0), some (.int x1), some (.int x2)] [] (((mm_fl b0 b1 b2), n1, n2, p, q, ad), I1, J1)
    show mm_wc d 154 [.ref 0, .int x1] (((mm_fl b0 b1 b2), 0, 0, p, q, ad), I1, J1) _
    refine mm_wcm (h1.2 c0) ?_
    rintro v τ ⟨r3, I3, J3, rfl, rfl, h3⟩
    refine mm_r1' ⟨rfl, ?_⟩
    show mm_b _ _ _ _ _ [some (.ref 0), some (.int x0), some (.int x1), some (.int x2)] [.int r3] (((mm_fl b0 b1 b2), n1, n2, p, q, ad), I3, J3)
    show (r3 = (nI 0) → _) ∧ (¬ r3 = (nI 0) → _)
    refine ⟨fun c1 => ?_, fun c1 => ?_⟩
    · show mm_u _ _ _ _ _ _ [some (.ref 0), some (.int x0), some (.int x1), some (.int x2)] [] (((mm_fl b0 b1 b2), n1, n2, p, q, ad), I3, J3)
      show mm_wc d 159 [.ref 0, .int (nI 1)] (((mm_fl b0 b1 b2), 0, 0, p, q, ad), I3, J3) _
      refine mm_wcm (h3.1 c1) ?_
      rintro v τ ⟨r4, I4, J4, rfl, rfl, h4⟩
      refine mm_r1' ⟨rfl, ?_⟩
      exact h4
    · show mm_b _ _ _ _ _ [some (.ref 0), some (.int x0), some (.int x1), some (.int x2)] [] (((mm_fl b0 b1 b2), n1, n2, p, q, ad), I3, J3)
      show (x2 < (nI 0) → _) ∧ (¬ x2 < (nI 0) → _)
      refine ⟨fun c2 => ?_, fun c2 => ?_⟩
      · show mm_u _ _ _ _ _ _ [some (.ref 0), some (.int x0), some (.int x1), some (.int x2)] [] (((mm_fl b0 b1 b2), n1, n2, p, q, ad), I3, J3)
        show mm_wc d 159 [.ref 0, .int (nI 1)] (((mm_fl b0 b1 b2), 0, 0, p, q, ad), I3, J3) _
        refine mm_wcm ((h3.2 c1).1 c2) ?_
        rintro v τ ⟨r5, I5, J5, rfl, rfl, h5⟩
        refine mm_r1' ⟨rfl, ?_⟩
        exact h5
      · show mm_b _ _ _ _ _ [some (.ref 0), some (.int x0), some (.int x1), some (.int x2)] [] (((mm_fl b0 b1 b2), n1, n2, p, q, ad), I3, J3)
        show (x2 < (nI 16) → _) ∧ (¬ x2 < (nI 16) → _)
        refine ⟨fun c3 => ?_, fun c3 => ?_⟩
        · show mm_u _ _ _ _ _ _ [some (.ref 0), some (.int x0), some (.int x1), some (.int x2)] [] (((mm_fl b0 b1 b2), n1, n2, p, q, ad), I3, J3)
          show mm_wc d 9 [.ref 6, .int x0, .int x1, .int x2] (((mm_fl b0 b1 b2), 0, 0, p, q, ad), I3, J3) _
          refine mm_wcm (((h3.2 c1).2 c2).1 c3) ?_
          rintro v τ ⟨r6, I6, J6, rfl, rfl, h6⟩
          refine mm_r1' ⟨rfl, ?_⟩
          show mm_b _ _ _ _ _ [some (.ref 0), some (.int x0), some (.int x1), some (.int x2)] [.int r6, .ref 0] (((mm_fl b0 b1 b2), n1, n2, p, q, ad), I6, J6)
          show mm_wc d 160 [.ref 0, .int r6] (((mm_fl b0 b1 b2), 0, 0, p, q, ad), I6, J6) _
          refine mm_wcm h6 ?_
          rintro v τ ⟨r7, I7, J7, rfl, rfl, h7⟩
          refine mm_r1' ⟨rfl, ?_⟩
          exact h7
        · show mm_b _ _ _ _ _ [some (.ref 0), some (.int x0), some (.int x1), some (.int x2)] [] (((mm_fl b0 b1 b2), n1, n2, p, q, ad), I3, J3)
          show mm_wc d 159 [.ref 0, .int (nI 1)] (((mm_fl b0 b1 b2), 0, 0, p, q, ad), I3, J3) _
          refine mm_wcm (((h3.2 c1).2 c2).2 c3) ?_
          rintro v τ ⟨r8, I8, J8, rfl, rfl, h8⟩
          refine mm_r1' ⟨rfl, ?_⟩
          exact h8
/- 118 ThreeBreaths breathOf -/
theorem fx_118 {d : Nat} {x0 : Int32} {x1 : Int32} {b0 b1 b2 : Bool} {n1 n2 : Nat} {p q : Bool} {ad : Nat → Nat} {I : mmI} {J : mmJ} {Q : mmQ} (h : mm_wc d 156 [.ref 0, .int x0] (((mm_fl b0 b1 b2), 0, 0, p, q, ad), I, J) (fun v τ => ∃ r1 I1 J1, v = some (.int r1) ∧ τ = (((mm_fl b0 b1 b2), 0, 0, p, q, ad), I1, J1) ∧ ((r1 = (nI 0) → mm_wc d 159 [.ref 0, .int (nI 1)] (((mm_fl b0 b1 b2), 0, 0, p, q, ad), I1, J1) (fun v τ => ∃ r2 I2 J2, v = some (.int r2) ∧ τ = (((mm_fl b0 b1 b2), 0, 0, p, q, ad), I2, J2) ∧ Q (some (.int r2)) (((mm_fl b0 b1 b2), n1, n2, p, q, ad), I2, J2))) ∧ (¬ r1 = (nI 0) → ((x1 < (nI 0) → mm_wc d 159 [.ref 0, .int (nI 1)] (((mm_fl b0 b1 b2), 0, 0, p, q, ad), I1, J1) (fun v τ => ∃ r3 I3 J3, v = some (.int r3) ∧ τ = (((mm_fl b0 b1 b2), 0, 0, p, q, ad), I3, J3) ∧ Q (some (.int r3)) (((mm_fl b0 b1 b2), n1, n2, p, q, ad), I3, J3))) ∧ (¬ x1 < (nI 0) → ((x1 ≤ (nI 2) → ((¬ x1 = (nI 0) → ((¬ x1 = (nI 1) → mm_wc d 10 [.ref 6, .int x0] (((mm_fl b0 b1 b2), 0, 0, p, q, ad), I1, J1) (fun v τ => ∃ r4 I4 J4, v = some (.int r4) ∧ τ = (((mm_fl b0 b1 b2), 0, 0, p, q, ad), I4, J4) ∧ mm_wc d 160 [.ref 0, .int r4] (((mm_fl b0 b1 b2), 0, 0, p, q, ad), I4, J4) (fun v τ => ∃ r5 I5 J5, v = some (.int r5) ∧ τ = (((mm_fl b0 b1 b2), 0, 0, p, q, ad), I5, J5) ∧ Q (some (.int r5)) (((mm_fl b0 b1 b2), n1, n2, p, q, ad), I5, J5)))) ∧ (x1 = (nI 1) → mm_wc d 11 [.ref 6, .int x0] (((mm_fl b0 b1 b2), 0, 0, p, q, ad), I1, J1) (fun v τ => ∃ r6 I6 J6, v = some (.int r6) ∧ τ = (((mm_fl b0 b1 b2), 0, 0, p, q, ad), I6, J6) ∧ mm_wc d 160 [.ref 0, .int r6] (((mm_fl b0 b1 b2), 0, 0, p, q, ad), I6, J6) (fun v τ => ∃ r7 I7 J7, v = some (.int r7) ∧ τ = (((mm_fl b0 b1 b2), 0, 0, p, q, ad), I7, J7) ∧ Q (some (.int r7)) (((mm_fl b0 b1 b2), n1, n2, p, q, ad), I7, J7)))))) ∧ (x1 = (nI 0) → mm_wc d 12 [.ref 6, .int x0] (((mm_fl b0 b1 b2), 0, 0, p, q, ad), I1, J1) (fun v τ => ∃ r8 I8 J8, v = some (.int r8) ∧ τ = (((mm_fl b0 b1 b2), 0, 0, p, q, ad), I8, J8) ∧ mm_wc d 160 [.ref 0, .int r8] (((mm_fl b0 b1 b2), 0, 0, p, q, ad), I8, J8) (fun v τ => ∃ r9 I9 J9, v = some (.int r9) ∧ τ = (((mm_fl b0 b1 b2), 0, 0, p, q, ad), I9, J9) ∧ Q (some (.int r9)) (((mm_fl b0 b1 b2), n1, n2, p, q, ad), I9, J9)))))) ∧ (¬ x1 ≤ (nI 2) → mm_wc d 159 [.ref 0, .int (nI 1)] (((mm_fl b0 b1 b2), 0, 0, p, q, ad), I1, J1) (fun v τ => ∃ r10 I10 J10, v = some (.int r10) ∧ τ = (((mm_fl b0 b1 b2), 0, 0, p, q, ad), I10, J10) ∧ Q (some (.int r10)) (((mm_fl b0 b1 b2), n1, n2, p, q, ad), I10, J10)))))))))) : mm_wc (d + 1) 118 [.ref 0, .int x0, .int x1] (((mm_fl b0 b1 b2), n1, n2, p, q, ad), I, J) Q := by
  refine mm_call (c := 118) rfl rfl ?_
  refine mm_go [] 80 ?_
  show mm_wc d 156 [.ref 0, .int x0] (((mm_fl b0 b1 b2), 0, 0, p, q, ad), I, J) _
  refine mm_wcm h ?_
  rintro v τ ⟨r1, I1, J1, rfl, rfl, h1⟩
  refine mm_r1' ⟨rfl, ?_⟩
  show mm_b _ _ _ _ _ [some (.ref 0), some (.int x0), some (.int x1)] [.int r1] (((mm_fl b0 b1 b2), n1, n2, p, q, ad), I1, J1)
  show (r1 = (nI 0) → _) ∧ (¬ r1 = (nI 0) → _)
  refine ⟨fun c0 => ?_, fun c0 => ?_⟩
  · show mm_u _ _ _ _ _ _ [some (.ref 0), some (.int x0), some (.int x1)] [] (((mm_fl b0 b1 b2), n1, n2, p, q, ad), I1, J1)
    show mm_wc d 159 [.ref 0, .int (nI 1)] (((mm_fl b0 b1 b2), 0, 0, p, q, ad), I1, J1) _
    refine mm_wcm (h1.1 c0) ?_
    rintro v τ ⟨r2, I2, J2, rfl, rfl, h2⟩
    refine mm_r1' ⟨rfl, ?_⟩
    exact h2
  · show mm_b _ _ _ _ _ [some (.ref 0), some (.int x0), some (.int x1)] [] (((mm_fl b0 b1 b2), n1, n2, p, q, ad), I1, J1)
    show (x1 < (nI 0) → _) ∧ (¬ x1 < (nI 0) → _)
    refine ⟨fun c1 => ?_, fun c1 => ?_⟩
    · show mm_u _ _ _ _ _ _ [some (.ref 0), some (.int x0), some (.int x1)] [] (((mm_fl b0 b1 b2), n1, n2, p, q, ad), I1, J1)
      show mm_wc d 159 [.ref 0, .int (nI 1)] (((mm_fl b0 b1 b2), 0, 0, p, q, ad), I1, J1) _
      refine mm_wcm ((h1.2 c0).1 c1) ?_
      rintro v τ ⟨r3, I3, J3, rfl, rfl, h3⟩
      refine mm_r1' ⟨rfl, ?_⟩
      exact h3
    · show mm_b _ _ _ _ _ [some (.ref 0), some (.int x0), some (.int x1)] [] (((mm_fl b0 b1 b2), n1, n2, p, q, ad), I1, J1)
      show (x1 ≤ (nI 2) → _) ∧ (¬ x1 ≤ (nI 2) → _)
      refine ⟨fun c2 => ?_, fun c2 => ?_⟩
      · show mm_u _ _ _ _ _ _ [some (.ref 0), some (.int x0), some (.int x1)] [] (((mm_fl b0 b1 b2), n1, n2, p, q, ad), I1, J1)
        show (¬ x1 = (nI 0) → _) ∧ (x1 = (nI 0) → _)
        refine ⟨fun c3 => ?_, fun c3 => ?_⟩
        · show mm_u _ _ _ _ _ _ [some (.ref 0), some (.int x0), some (.int x1)] [] (((mm_fl b0 b1 b2), n1, n2, p, q, ad), I1, J1)
          show (¬ x1 = (nI 1) → _) ∧ (x1 = (nI 1) → _)
          refine ⟨fun c4 => ?_, fun c4 => ?_⟩
          · show mm_u _ _ _ _ _ _ [some (.ref 0), some (.int x0), some (.int x1)] [.ref 0] (((mm_fl b0 b1 b2), n1, n2, p, q, ad), I1, J1)
            show mm_wc d 10 [.ref 6, .int x0] (((mm_fl b0 b1 b2), 0, 0, p, q, ad), I1, J1) _
            refine mm_wcm (((((h1.2 c0).2 c1).1 c2).1 c3).1 c4) ?_
            rintro v τ ⟨r4, I4, J4, rfl, rfl, h4⟩
            refine mm_r1' ⟨rfl, ?_⟩
            show mm_b _ _ _ _ _ [some (.ref 0), some (.int x0), none] [.int r4, .ref 0] (((mm_fl b0 b1 b2), n1, n2, p, q, ad), I4, J4)
            show mm_wc d 160 [.ref 0, .int r4] (((mm_fl b0 b1 b2), 0, 0, p, q, ad), I4, J4) _
            refine mm_wcm h4 ?_
            rintro v τ ⟨r5, I5, J5, rfl, rfl, h5⟩
            refine mm_r1' ⟨rfl, ?_⟩
            exact h5
          · show mm_b _ _ _ _ _ [some (.ref 0), some (.int x0), some (.int x1)] [.ref 0] (((mm_fl b0 b1 b2), n1, n2, p, q, ad), I1, J1)
            show mm_wc d 11 [.ref 6, .int x0] (((mm_fl b0 b1 b2), 0, 0, p, q, ad), I1, J1) _
            refine mm_wcm (((((h1.2 c0).2 c1).1 c2).1 c3).2 c4) ?_
            rintro v τ ⟨r6, I6, J6, rfl, rfl, h6⟩
            refine mm_r1' ⟨rfl, ?_⟩
            show mm_b _ _ _ _ _ [some (.ref 0), some (.int x0), some (.int x1)] [.int r6, .ref 0] (((mm_fl b0 b1 b2), n1, n2, p, q, ad), I6, J6)
            show mm_wc d 160 [.ref 0, .int r6] (((mm_fl b0 b1 b2), 0, 0, p, q, ad), I6, J6) _
            refine mm_wcm h6 ?_
            rintro v τ ⟨r7, I7, J7, rfl, rfl, h7⟩
            refine mm_r1' ⟨rfl, ?_⟩
            exact h7
        · show mm_b _ _ _ _ _ [some (.ref 0), some (.int x0), some (.int x1)] [] (((mm_fl b0 b1 b2), n1, n2, p, q, ad), I1, J1)
          show mm_wc d 12 [.ref 6, .int x0] (((mm_fl b0 b1 b2), 0, 0, p, q, ad), I1, J1) _
          refine mm_wcm ((((h1.2 c0).2 c1).1 c2).2 c3) ?_
          rintro v τ ⟨r8, I8, J8, rfl, rfl, h8⟩
          refine mm_r1' ⟨rfl, ?_⟩
          show mm_b _ _ _ _ _ [some (.ref 0), some (.int x0), some (.int x1)] [.int r8, .ref 0] (((mm_fl b0 b1 b2), n1, n2, p, q, ad), I8, J8)
          show mm_wc d 160 [.ref 0, .int r8] (((mm_fl b0 b1 b2), 0, 0, p, q, ad), I8, J8) _
          refine mm_wcm h8 ?_
          rintro v τ ⟨r9, I9, J9, rfl, rfl, h9⟩
          refine mm_r1' ⟨rfl, ?_⟩
          exact h9
      · show mm_b _ _ _ _ _ [some (.ref 0), some (.int x0), some (.int x1)] [] (((mm_fl b0 b1 b2), n1, n2, p, q, ad), I1, J1)
        show mm_wc d 159 [.ref 0, .int (nI 1)] (((mm_fl b0 b1 b2), 0, 0, p, q, ad), I1, J1) _
        refine mm_wcm (((h1.2 c0).2 c1).2 c2) ?_
        rintro v τ ⟨r10, I10, J10, rfl, rfl, h10⟩
        refine mm_r1' ⟨rfl, ?_⟩
        exact h10
/- 119 ThreeBreaths fans -/
theorem fx_119 {d : Nat} {b0 b1 b2 : Bool} {n1 n2 : Nat} {p q : Bool} {ad : Nat → Nat} {I : mmI} {J : mmJ} {Q : mmQ} (h : (((I 0 1) = (nI 0) → mm_wc d 159 [.ref 0, .int (nI 1)] (((mm_fl b0 b1 b2), 0, 0, p, q, ad), I, J) (fun v τ => ∃ r1 I1 J1, v = some (.int r1) ∧ τ = (((mm_fl b0 b1 b2), 0, 0, p, q, ad), I1, J1) ∧ Q (some (.int r1)) (((mm_fl b0 b1 b2), n1, n2, p, q, ad), I1, J1))) ∧ (¬ (I 0 1) = (nI 0) → mm_wc d 13 [.ref 6] (((mm_fl b0 b1 b2), 0, 0, p, q, ad), I, J) (fun v τ => ∃ r2 I2 J2, v = some (.int r2) ∧ τ = (((mm_fl b0 b1 b2), 0, 0, p, q, ad), I2, J2) ∧ mm_wc d 160 [.ref 0, .int r2] (((mm_fl b0 b1 b2), 0, 0, p, q, ad), I2, J2) (fun v τ => ∃ r3 I3 J3, v = some (.int r3) ∧ τ = (((mm_fl b0 b1 b2), 0, 0, p, q, ad), I3, J3) ∧ Q (some (.int r3)) (((mm_fl b0 b1 b2), n1, n2, p, q, ad), I3, J3)))))) : mm_wc (d + 1) 119 [.ref 0] (((mm_fl b0 b1 b2), n1, n2, p, q, ad), I, J) Q := by
  refine mm_call (c := 119) rfl rfl ?_
  refine mm_go [] 80 ?_
  show ((I 0 1) = (nI 0) → _) ∧ (¬ (I 0 1) = (nI 0) → _)
  refine ⟨fun c0 => ?_, fun c0 => ?_⟩
  · show mm_u _ _ _ _ _ _ [some (.ref 0)] [] (((mm_fl b0 b1 b2), n1, n2, p, q, ad), I, J)
    show mm_wc d 159 [.ref 0, .int (nI 1)] (((mm_fl b0 b1 b2), 0, 0, p, q, ad), I, J) _
    refine mm_wcm (h.1 c0) ?_
    rintro v τ ⟨r1, I1, J1, rfl, rfl, h1⟩
    refine mm_r1' ⟨rfl, ?_⟩
    exact h1
  · show mm_b _ _ _ _ _ [some (.ref 0)] [] (((mm_fl b0 b1 b2), n1, n2, p, q, ad), I, J)
    show mm_wc d 13 [.ref 6] (((mm_fl b0 b1 b2), 0, 0, p, q, ad), I, J) _
    refine mm_wcm (h.2 c0) ?_
    rintro v τ ⟨r2, I2, J2, rfl, rfl, h2⟩
    refine mm_r1' ⟨rfl, ?_⟩
    show mm_b _ _ _ _ _ [some (.ref 0)] [.int r2, .ref 0] (((mm_fl b0 b1 b2), n1, n2, p, q, ad), I2, J2)
    show mm_wc d 160 [.ref 0, .int r2] (((mm_fl b0 b1 b2), 0, 0, p, q, ad), I2, J2) _
    refine mm_wcm h2 ?_
    rintro v τ ⟨r3, I3, J3, rfl, rfl, h3⟩
    refine mm_r1' ⟨rfl, ?_⟩
    exact h3
/- 120 ThreeBreaths spared -/
theorem fx_120 {d : Nat} {b0 b1 b2 : Bool} {n1 n2 : Nat} {p q : Bool} {ad : Nat → Nat} {I : mmI} {J : mmJ} {Q : mmQ} (h : (((I 0 1) = (nI 0) → mm_wc d 159 [.ref 0, .int (nI 1)] (((mm_fl b0 b1 b2), 0, 0, p, q, ad), I, J) (fun v τ => ∃ r1 I1 J1, v = some (.int r1) ∧ τ = (((mm_fl b0 b1 b2), 0, 0, p, q, ad), I1, J1) ∧ Q (some (.int r1)) (((mm_fl b0 b1 b2), n1, n2, p, q, ad), I1, J1))) ∧ (¬ (I 0 1) = (nI 0) → mm_wc d 14 [.ref 6] (((mm_fl b0 b1 b2), 0, 0, p, q, ad), I, J) (fun v τ => ∃ r2 I2 J2, v = some (.int r2) ∧ τ = (((mm_fl b0 b1 b2), 0, 0, p, q, ad), I2, J2) ∧ mm_wc d 160 [.ref 0, .int r2] (((mm_fl b0 b1 b2), 0, 0, p, q, ad), I2, J2) (fun v τ => ∃ r3 I3 J3, v = some (.int r3) ∧ τ = (((mm_fl b0 b1 b2), 0, 0, p, q, ad), I3, J3) ∧ Q (some (.int r3)) (((mm_fl b0 b1 b2), n1, n2, p, q, ad), I3, J3)))))) : mm_wc (d + 1) 120 [.ref 0] (((mm_fl b0 b1 b2), n1, n2, p, q, ad), I, J) Q := by
  refine mm_call (c := 120) rfl rfl ?_
  refine mm_go [] 80 ?_
  show ((I 0 1) = (nI 0) → _) ∧ (¬ (I 0 1) = (nI 0) → _)
  refine ⟨fun c0 => ?_, fun c0 => ?_⟩
  · show mm_u _ _ _ _ _ _ [some (.ref 0)] [] (((mm_fl b0 b1 b2), n1, n2, p, q, ad), I, J)
    show mm_wc d 159 [.ref 0, .int (nI 1)] (((mm_fl b0 b1 b2), 0, 0, p, q, ad), I, J) _
    refine mm_wcm (h.1 c0) ?_
    rintro v τ ⟨r1, I1, J1, rfl, rfl, h1⟩
    refine mm_r1' ⟨rfl, ?_⟩
    exact h1
  · show mm_b _ _ _ _ _ [some (.ref 0)] [] (((mm_fl b0 b1 b2), n1, n2, p, q, ad), I, J)
    show mm_wc d 14 [.ref 6] (((mm_fl b0 b1 b2), 0, 0, p, q, ad), I, J) _
    refine mm_wcm (h.2 c0) ?_
    rintro v τ ⟨r2, I2, J2, rfl, rfl, h2⟩
    refine mm_r1' ⟨rfl, ?_⟩
    show mm_b _ _ _ _ _ [some (.ref 0)] [.int r2, .ref 0] (((mm_fl b0 b1 b2), n1, n2, p, q, ad), I2, J2)
    show mm_wc d 160 [.ref 0, .int r2] (((mm_fl b0 b1 b2), 0, 0, p, q, ad), I2, J2) _
    refine mm_wcm h2 ?_
    rintro v τ ⟨r3, I3, J3, rfl, rfl, h3⟩
    refine mm_r1' ⟨rfl, ?_⟩
    exact h3
/- 121 ThreeBreaths lights -/
theorem fx_121 {d : Nat} {x0 : Int32} {x1 : Int32} {b0 b1 b2 : Bool} {n1 n2 : Nat} {p q : Bool} {ad : Nat → Nat} {I : mmI} {J : mmJ} {Q : mmQ} (h : mm_wc d 153 [.ref 0, .int x0] (((mm_fl b0 b1 b2), 0, 0, p, q, ad), I, J) (fun v τ => ∃ r1 I1 J1, v = some (.int r1) ∧ τ = (((mm_fl b0 b1 b2), 0, 0, p, q, ad), I1, J1) ∧ ((¬ r1 = (nI 0) → ((x1 = (nI 0) → (vp_in ((nI 1) <<< (x0 &&& 31)) 1024 ∧ mm_wc d 160 [.ref 0, .int (I1 12 (((nI 1) <<< (x0 &&& 31))).toNatClampNeg)] (((mm_fl b0 b1 b2), 0, 0, p, q, ad), I1, J1) (fun v τ => ∃ r2 I2 J2, v = some (.int r2) ∧ τ = (((mm_fl b0 b1 b2), 0, 0, p, q, ad), I2, J2) ∧ Q (some (.int r2)) (((mm_fl b0 b1 b2), n1, n2, p, q, ad), I2, J2)))) ∧ (¬ x1 = (nI 0) → mm_wc d 8 [.ref 6, .int x0] (((mm_fl b0 b1 b2), 0, 0, p, q, ad), I1, J1) (fun v τ => ∃ r3 I3 J3, v = some (.int r3) ∧ τ = (((mm_fl b0 b1 b2), 0, 0, p, q, ad), I3, J3) ∧ mm_wc d 160 [.ref 0, .int r3] (((mm_fl b0 b1 b2), 0, 0, p, q, ad), I3, J3) (fun v τ => ∃ r4 I4 J4, v = some (.int r4) ∧ τ = (((mm_fl b0 b1 b2), 0, 0, p, q, ad), I4, J4) ∧ Q (some (.int r4)) (((mm_fl b0 b1 b2), n1, n2, p, q, ad), I4, J4)))))) ∧ (r1 = (nI 0) → mm_wc d 159 [.ref 0, .int (nI 1)] (((mm_fl b0 b1 b2), 0, 0, p, q, ad), I1, J1) (fun v τ => ∃ r5 I5 J5, v = some (.int r5) ∧ τ = (((mm_fl b0 b1 b2), 0, 0, p, q, ad), I5, J5) ∧ Q (some (.int r5)) (((mm_fl b0 b1 b2), n1, n2, p, q, ad), I5, J5)))))) : mm_wc (d + 1) 121 [.ref 0, .int x0, .int x1] (((mm_fl b0 b1 b2), n1, n2, p, q, ad), I, J) Q := by
  refine mm_call (c := 121) rfl rfl ?_
  refine mm_go [] 80 ?_
  show mm_wc d 153 [.ref 0, .int x0] (((mm_fl b0 b1 b2), 0, 0, p, q, ad), I, J) _
  refine mm_wcm h ?_
  rintro v τ ⟨r1, I1, J1, rfl, rfl, h1⟩
  refine mm_r1' ⟨rfl, ?_⟩
  show mm_b _ _ _ _ _ [some (.ref 0), some (.int x0), some (.int x1)] [.int r1] (((mm_fl b0 b1 b2), n1, n2, p, q, ad), I1, J1)
  show (¬ r1 = (nI 0) → _) ∧ (r1 = (nI 0) → _)
  refine ⟨fun c0 => ?_, fun c0 => ?_⟩
  · show mm_u _ _ _ _ _ _ [some (.ref 0), some (.int x0), some (.int x1)] [] (((mm_fl b0 b1 b2), n1, n2, p, q, ad), I1, J1)
    show (x1 = (nI 0) → _) ∧ (¬ x1 = (nI 0) → _)
    refine ⟨fun c1 => ?_, fun c1 => ?_⟩
    · show mm_u _ _ _ _ _ _ [some (.ref 0), some (.int x0), some (.int x1)] [.ref 0] (((mm_fl b0 b1 b2), n1, n2, p, q, ad), I1, J1)
      show vp_in ((nI 1) <<< (x0 &&& 31)) 1024 ∧ _
      refine ⟨((h1.1 c0).1 c1).1, ?_⟩
      show mm_b _ _ _ _ _ [some (.ref 0), some (.int x0), none] [.int (I1 12 (((nI 1) <<< (x0 &&& 31))).toNatClampNeg), .ref 0] (((mm_fl b0 b1 b2), n1, n2, p, q, ad), I1, J1)
      show mm_wc d 160 [.ref 0, .int (I1 12 (((nI 1) <<< (x0 &&& 31))).toNatClampNeg)] (((mm_fl b0 b1 b2), 0, 0, p, q, ad), I1, J1) _
      refine mm_wcm (((h1.1 c0).1 c1).2) ?_
      rintro v τ ⟨r2, I2, J2, rfl, rfl, h2⟩
      refine mm_r1' ⟨rfl, ?_⟩
      exact h2
    · show mm_b _ _ _ _ _ [some (.ref 0), some (.int x0), some (.int x1)] [.ref 0] (((mm_fl b0 b1 b2), n1, n2, p, q, ad), I1, J1)
      show mm_wc d 8 [.ref 6, .int x0] (((mm_fl b0 b1 b2), 0, 0, p, q, ad), I1, J1) _
      refine mm_wcm ((h1.1 c0).2 c1) ?_
      rintro v τ ⟨r3, I3, J3, rfl, rfl, h3⟩
      refine mm_r1' ⟨rfl, ?_⟩
      show mm_b _ _ _ _ _ [some (.ref 0), some (.int x0), some (.int x1)] [.int r3, .ref 0] (((mm_fl b0 b1 b2), n1, n2, p, q, ad), I3, J3)
      show mm_wc d 160 [.ref 0, .int r3] (((mm_fl b0 b1 b2), 0, 0, p, q, ad), I3, J3) _
      refine mm_wcm h3 ?_
      rintro v τ ⟨r4, I4, J4, rfl, rfl, h4⟩
      refine mm_r1' ⟨rfl, ?_⟩
      exact h4
  · show mm_b _ _ _ _ _ [some (.ref 0), some (.int x0), some (.int x1)] [] (((mm_fl b0 b1 b2), n1, n2, p, q, ad), I1, J1)
    show mm_wc d 159 [.ref 0, .int (nI 1)] (((mm_fl b0 b1 b2), 0, 0, p, q, ad), I1, J1) _
    refine mm_wcm (h1.2 c0) ?_
    rintro v τ ⟨r5, I5, J5, rfl, rfl, h5⟩
    refine mm_r1' ⟨rfl, ?_⟩
    exact h5
/- 122 ThreeBreaths burning -/
theorem fx_122 {d : Nat} {b0 b1 b2 : Bool} {n1 n2 : Nat} {p q : Bool} {ad : Nat → Nat} {I : mmI} {J : mmJ} {Q : mmQ} (h : (((I 0 1) = (nI 0) → mm_wc d 159 [.ref 0, .int (nI 1)] (((mm_fl b0 b1 b2), 0, 0, p, q, ad), I, J) (fun v τ => ∃ r1 I1 J1, v = some (.int r1) ∧ τ = (((mm_fl b0 b1 b2), 0, 0, p, q, ad), I1, J1) ∧ Q (some (.int r1)) (((mm_fl b0 b1 b2), n1, n2, p, q, ad), I1, J1))) ∧ (¬ (I 0 1) = (nI 0) → mm_wc d 17 [.ref 6, .int (I 15 0)] (((mm_fl b0 b1 b2), 0, 0, p, q, ad), I, J) (fun v τ => ∃ r2 I2 J2, v = some (.int r2) ∧ τ = (((mm_fl b0 b1 b2), 0, 0, p, q, ad), I2, J2) ∧ mm_wc d 160 [.ref 0, .int r2] (((mm_fl b0 b1 b2), 0, 0, p, q, ad), I2, J2) (fun v τ => ∃ r3 I3 J3, v = some (.int r3) ∧ τ = (((mm_fl b0 b1 b2), 0, 0, p, q, ad), I3, J3) ∧ Q (some (.int r3)) (((mm_fl b0 b1 b2), n1, n2, p, q, ad), I3, J3)))))) : mm_wc (d + 1) 122 [.ref 0] (((mm_fl b0 b1 b2), n1, n2, p, q, ad), I, J) Q := by
  refine mm_call (c := 122) rfl rfl ?_
  refine mm_go [] 80 ?_
  show ((I 0 1) = (nI 0) → _) ∧ (¬ (I 0 1) = (nI 0) → _)
  refine ⟨fun c0 => ?_, fun c0 => ?_⟩
  · show mm_u _ _ _ _ _ _ [some (.ref 0)] [] (((mm_fl b0 b1 b2), n1, n2, p, q, ad), I, J)
    show mm_wc d 159 [.ref 0, .int (nI 1)] (((mm_fl b0 b1 b2), 0, 0, p, q, ad), I, J) _
    refine mm_wcm (h.1 c0) ?_
    rintro v τ ⟨r1, I1, J1, rfl, rfl, h1⟩
    refine mm_r1' ⟨rfl, ?_⟩
    exact h1
  · show mm_b _ _ _ _ _ [some (.ref 0)] [] (((mm_fl b0 b1 b2), n1, n2, p, q, ad), I, J)
    show mm_wc d 17 [.ref 6, .int (I 15 0)] (((mm_fl b0 b1 b2), 0, 0, p, q, ad), I, J) _
    refine mm_wcm (h.2 c0) ?_
    rintro v τ ⟨r2, I2, J2, rfl, rfl, h2⟩
    refine mm_r1' ⟨rfl, ?_⟩
    show mm_b _ _ _ _ _ [some (.ref 0)] [.int r2, .ref 0] (((mm_fl b0 b1 b2), n1, n2, p, q, ad), I2, J2)
    show mm_wc d 160 [.ref 0, .int r2] (((mm_fl b0 b1 b2), 0, 0, p, q, ad), I2, J2) _
    refine mm_wcm h2 ?_
    rintro v τ ⟨r3, I3, J3, rfl, rfl, h3⟩
    refine mm_r1' ⟨rfl, ?_⟩
    exact h3
/- 123 ThreeBreaths dazed -/
theorem fx_123 {d : Nat} {b0 b1 b2 : Bool} {n1 n2 : Nat} {p q : Bool} {ad : Nat → Nat} {I : mmI} {J : mmJ} {Q : mmQ} (h : (((I 0 1) = (nI 0) → mm_wc d 159 [.ref 0, .int (nI 1)] (((mm_fl b0 b1 b2), 0, 0, p, q, ad), I, J) (fun v τ => ∃ r1 I1 J1, v = some (.int r1) ∧ τ = (((mm_fl b0 b1 b2), 0, 0, p, q, ad), I1, J1) ∧ Q (some (.int r1)) (((mm_fl b0 b1 b2), n1, n2, p, q, ad), I1, J1))) ∧ (¬ (I 0 1) = (nI 0) → mm_wc d 19 [.ref 6, .int (I 15 0)] (((mm_fl b0 b1 b2), 0, 0, p, q, ad), I, J) (fun v τ => ∃ r2 I2 J2, v = some (.int r2) ∧ τ = (((mm_fl b0 b1 b2), 0, 0, p, q, ad), I2, J2) ∧ mm_wc d 160 [.ref 0, .int r2] (((mm_fl b0 b1 b2), 0, 0, p, q, ad), I2, J2) (fun v τ => ∃ r3 I3 J3, v = some (.int r3) ∧ τ = (((mm_fl b0 b1 b2), 0, 0, p, q, ad), I3, J3) ∧ Q (some (.int r3)) (((mm_fl b0 b1 b2), n1, n2, p, q, ad), I3, J3)))))) : mm_wc (d + 1) 123 [.ref 0] (((mm_fl b0 b1 b2), n1, n2, p, q, ad), I, J) Q := by
  refine mm_call (c := 123) rfl rfl ?_
  refine mm_go [] 80 ?_
  show ((I 0 1) = (nI 0) → _) ∧ (¬ (I 0 1) = (nI 0) → _)
  refine ⟨fun c0 => ?_, fun c0 => ?_⟩
  · show mm_u _ _ _ _ _ _ [some (.ref 0)] [] (((mm_fl b0 b1 b2), n1, n2, p, q, ad), I, J)
    show mm_wc d 159 [.ref 0, .int (nI 1)] (((mm_fl b0 b1 b2), 0, 0, p, q, ad), I, J) _
    refine mm_wcm (h.1 c0) ?_
    rintro v τ ⟨r1, I1, J1, rfl, rfl, h1⟩
    refine mm_r1' ⟨rfl, ?_⟩
    exact h1
  · show mm_b _ _ _ _ _ [some (.ref 0)] [] (((mm_fl b0 b1 b2), n1, n2, p, q, ad), I, J)
    show mm_wc d 19 [.ref 6, .int (I 15 0)] (((mm_fl b0 b1 b2), 0, 0, p, q, ad), I, J) _
    refine mm_wcm (h.2 c0) ?_
    rintro v τ ⟨r2, I2, J2, rfl, rfl, h2⟩
    refine mm_r1' ⟨rfl, ?_⟩
    show mm_b _ _ _ _ _ [some (.ref 0)] [.int r2, .ref 0] (((mm_fl b0 b1 b2), n1, n2, p, q, ad), I2, J2)
    show mm_wc d 160 [.ref 0, .int r2] (((mm_fl b0 b1 b2), 0, 0, p, q, ad), I2, J2) _
    refine mm_wcm h2 ?_
    rintro v τ ⟨r3, I3, J3, rfl, rfl, h3⟩
    refine mm_r1' ⟨rfl, ?_⟩
    exact h3
/- 124 ThreeBreaths gain -/
theorem fx_124 {d : Nat} {x0 : Int32} {b0 b1 b2 : Bool} {n1 n2 : Nat} {p q : Bool} {ad : Nat → Nat} {I : mmI} {J : mmJ} {Q : mmQ} (h : mm_wc d 156 [.ref 0, .int x0] (((mm_fl b0 b1 b2), 0, 0, p, q, ad), I, J) (fun v τ => ∃ r1 I1 J1, v = some (.int r1) ∧ τ = (((mm_fl b0 b1 b2), 0, 0, p, q, ad), I1, J1) ∧ ((¬ r1 = (nI 0) → (vp_in x0 320 ∧ mm_wc d 25 [.ref 6, .int (I1 15 0), .int (I1 7 x0.toNatClampNeg)] (((mm_fl b0 b1 b2), 0, 0, p, q, ad), I1, J1) (fun v τ => ∃ r2 I2 J2, v = some (.int r2) ∧ τ = (((mm_fl b0 b1 b2), 0, 0, p, q, ad), I2, J2) ∧ mm_wc d 160 [.ref 0, .int r2] (((mm_fl b0 b1 b2), 0, 0, p, q, ad), I2, J2) (fun v τ => ∃ r3 I3 J3, v = some (.int r3) ∧ τ = (((mm_fl b0 b1 b2), 0, 0, p, q, ad), I3, J3) ∧ Q (some (.int r3)) (((mm_fl b0 b1 b2), n1, n2, p, q, ad), I3, J3))))) ∧ (r1 = (nI 0) → Q (some (.int (-100))) (((mm_fl b0 b1 b2), n1, n2, p, q, ad), (mm_up I1 0 7 (nI 1)), J1))))) : mm_wc (d + 1) 124 [.ref 0, .int x0] (((mm_fl b0 b1 b2), n1, n2, p, q, ad), I, J) Q := by
  refine mm_call (c := 124) rfl rfl ?_
  refine mm_go [] 80 ?_
  show mm_wc d 156 [.ref 0, .int x0] (((mm_fl b0 b1 b2), 0, 0, p, q, ad), I, J) _
  refine mm_wcm h ?_
  rintro v τ ⟨r1, I1, J1, rfl, rfl, h1⟩
  refine mm_r1' ⟨rfl, ?_⟩
  show mm_b _ _ _ _ _ [some (.ref 0), some (.int x0)] [.int r1] (((mm_fl b0 b1 b2), n1, n2, p, q, ad), I1, J1)
  show (¬ r1 = (nI 0) → _) ∧ (r1 = (nI 0) → _)
  refine ⟨fun c0 => ?_, fun c0 => ?_⟩
  · show mm_u _ _ _ _ _ _ [some (.ref 0), some (.int x0)] [] (((mm_fl b0 b1 b2), n1, n2, p, q, ad), I1, J1)
    show vp_in x0 320 ∧ _
    refine ⟨(h1.1 c0).1, ?_⟩
    show mm_b _ _ _ _ _ [some (.ref 0), some (.int x0)] [.int (I1 7 x0.toNatClampNeg), .int (I1 15 0), .ref 6, .ref 0] (((mm_fl b0 b1 b2), n1, n2, p, q, ad), I1, J1)
    show mm_wc d 25 [.ref 6, .int (I1 15 0), .int (I1 7 x0.toNatClampNeg)] (((mm_fl b0 b1 b2), 0, 0, p, q, ad), I1, J1) _
    refine mm_wcm ((h1.1 c0).2) ?_
    rintro v τ ⟨r2, I2, J2, rfl, rfl, h2⟩
    refine mm_r1' ⟨rfl, ?_⟩
    show mm_b _ _ _ _ _ [some (.ref 0), some (.int x0)] [.int r2, .ref 0] (((mm_fl b0 b1 b2), n1, n2, p, q, ad), I2, J2)
    show mm_wc d 160 [.ref 0, .int r2] (((mm_fl b0 b1 b2), 0, 0, p, q, ad), I2, J2) _
    refine mm_wcm h2 ?_
    rintro v τ ⟨r3, I3, J3, rfl, rfl, h3⟩
    refine mm_r1' ⟨rfl, ?_⟩
    exact h3
  · exact (h1.2 c0)
/- 125 ThreeBreaths greedy -/
theorem fx_125 {d : Nat} {b0 b1 b2 : Bool} {n1 n2 : Nat} {p q : Bool} {ad : Nat → Nat} {I : mmI} {J : mmJ} {Q : mmQ} (h : (((I 0 1) = (nI 0) → mm_wc d 159 [.ref 0, .int (nI 1)] (((mm_fl b0 b1 b2), 0, 0, p, q, ad), I, J) (fun v τ => ∃ r1 I1 J1, v = some (.int r1) ∧ τ = (((mm_fl b0 b1 b2), 0, 0, p, q, ad), I1, J1) ∧ Q (some (.int r1)) (((mm_fl b0 b1 b2), n1, n2, p, q, ad), I1, J1))) ∧ (¬ (I 0 1) = (nI 0) → mm_wc d 26 [.ref 6, .int (I 15 0)] (((mm_fl b0 b1 b2), 0, 0, p, q, ad), I, J) (fun v τ => ∃ r2 I2 J2, v = some (.int r2) ∧ τ = (((mm_fl b0 b1 b2), 0, 0, p, q, ad), I2, J2) ∧ mm_wc d 160 [.ref 0, .int r2] (((mm_fl b0 b1 b2), 0, 0, p, q, ad), I2, J2) (fun v τ => ∃ r3 I3 J3, v = some (.int r3) ∧ τ = (((mm_fl b0 b1 b2), 0, 0, p, q, ad), I3, J3) ∧ Q (some (.int r3)) (((mm_fl b0 b1 b2), n1, n2, p, q, ad), I3, J3)))))) : mm_wc (d + 1) 125 [.ref 0] (((mm_fl b0 b1 b2), n1, n2, p, q, ad), I, J) Q := by
  refine mm_call (c := 125) rfl rfl ?_
  refine mm_go [] 80 ?_
  show ((I 0 1) = (nI 0) → _) ∧ (¬ (I 0 1) = (nI 0) → _)
  refine ⟨fun c0 => ?_, fun c0 => ?_⟩
  · show mm_u _ _ _ _ _ _ [some (.ref 0)] [] (((mm_fl b0 b1 b2), n1, n2, p, q, ad), I, J)
    show mm_wc d 159 [.ref 0, .int (nI 1)] (((mm_fl b0 b1 b2), 0, 0, p, q, ad), I, J) _
    refine mm_wcm (h.1 c0) ?_
    rintro v τ ⟨r1, I1, J1, rfl, rfl, h1⟩
    refine mm_r1' ⟨rfl, ?_⟩
    exact h1
  · show mm_b _ _ _ _ _ [some (.ref 0)] [] (((mm_fl b0 b1 b2), n1, n2, p, q, ad), I, J)
    show mm_wc d 26 [.ref 6, .int (I 15 0)] (((mm_fl b0 b1 b2), 0, 0, p, q, ad), I, J) _
    refine mm_wcm (h.2 c0) ?_
    rintro v τ ⟨r2, I2, J2, rfl, rfl, h2⟩
    refine mm_r1' ⟨rfl, ?_⟩
    show mm_b _ _ _ _ _ [some (.ref 0)] [.int r2, .ref 0] (((mm_fl b0 b1 b2), n1, n2, p, q, ad), I2, J2)
    show mm_wc d 160 [.ref 0, .int r2] (((mm_fl b0 b1 b2), 0, 0, p, q, ad), I2, J2) _
    refine mm_wcm h2 ?_
    rintro v τ ⟨r3, I3, J3, rfl, rfl, h3⟩
    refine mm_r1' ⟨rfl, ?_⟩
    exact h3
/- 126 ThreeBreaths blow -/
theorem fx_126 {d : Nat} {x0 : Int32} {b0 b1 b2 : Bool} {n1 n2 : Nat} {p q : Bool} {ad : Nat → Nat} {I : mmI} {J : mmJ} {Q : mmQ} (h : mm_wc d 156 [.ref 0, .int x0] (((mm_fl b0 b1 b2), 0, 0, p, q, ad), I, J) (fun v τ => ∃ r1 I1 J1, v = some (.int r1) ∧ τ = (((mm_fl b0 b1 b2), 0, 0, p, q, ad), I1, J1) ∧ ((¬ r1 = (nI 0) → (vp_in x0 320 ∧ mm_wc d 24 [.ref 6, .int (I1 15 0), .int (I1 7 x0.toNatClampNeg)] (((mm_fl b0 b1 b2), 0, 0, p, q, ad), I1, J1) (fun v τ => ∃ r2 I2 J2, v = some (.int r2) ∧ τ = (((mm_fl b0 b1 b2), 0, 0, p, q, ad), I2, J2) ∧ mm_wc d 50 [.ref 15, .int r2] (((mm_fl b0 b1 b2), 0, 0, p, q, ad), I2, J2) (fun v τ => ∃ I3 J3, v = none ∧ τ = (((mm_fl b0 b1 b2), 0, 0, p, q, ad), I3, J3) ∧ mm_wc d 18 [.ref 6, .int (I3 15 0)] (((mm_fl b0 b1 b2), 0, 0, p, q, ad), I3, J3) (fun v τ => ∃ r4 I4 J4, v = some (.int r4) ∧ τ = (((mm_fl b0 b1 b2), 0, 0, p, q, ad), I4, J4) ∧ mm_wc d 160 [.ref 0, .int r4] (((mm_fl b0 b1 b2), 0, 0, p, q, ad), I4, J4) (fun v τ => ∃ r5 I5 J5, v = some (.int r5) ∧ τ = (((mm_fl b0 b1 b2), 0, 0, p, q, ad), I5, J5) ∧ Q (some (.int r5)) (((mm_fl b0 b1 b2), n1, n2, p, q, ad), I5, J5))))))) ∧ (r1 = (nI 0) → mm_wc d 159 [.ref 0, .int (nI 1)] (((mm_fl b0 b1 b2), 0, 0, p, q, ad), I1, J1) (fun v τ => ∃ r6 I6 J6, v = some (.int r6) ∧ τ = (((mm_fl b0 b1 b2), 0, 0, p, q, ad), I6, J6) ∧ Q (some (.int r6)) (((mm_fl b0 b1 b2), n1, n2, p, q, ad), I6, J6)))))) : mm_wc (d + 1) 126 [.ref 0, .int x0] (((mm_fl b0 b1 b2), n1, n2, p, q, ad), I, J) Q := by
  refine mm_call (c := 126) rfl rfl ?_
  refine mm_go [] 80 ?_
  show mm_wc d 156 [.ref 0, .int x0] (((mm_fl b0 b1 b2), 0, 0, p, q, ad), I, J) _
  refine mm_wcm h ?_
  rintro v τ ⟨r1, I1, J1, rfl, rfl, h1⟩
  refine mm_r1' ⟨rfl, ?_⟩
  show mm_b _ _ _ _ _ [some (.ref 0), some (.int x0)] [.int r1] (((mm_fl b0 b1 b2), n1, n2, p, q, ad), I1, J1)
  show (¬ r1 = (nI 0) → _) ∧ (r1 = (nI 0) → _)
  refine ⟨fun c0 => ?_, fun c0 => ?_⟩
  · show mm_u _ _ _ _ _ _ [some (.ref 0), some (.int x0)] [] (((mm_fl b0 b1 b2), n1, n2, p, q, ad), I1, J1)
    show vp_in x0 320 ∧ _
    refine ⟨(h1.1 c0).1, ?_⟩
    show mm_b _ _ _ _ _ [some (.ref 0), some (.int x0)] [.int (I1 7 x0.toNatClampNeg), .int (I1 15 0), .ref 6, .ref 15] (((mm_fl b0 b1 b2), n1, n2, p, q, ad), I1, J1)
    show mm_wc d 24 [.ref 6, .int (I1 15 0), .int (I1 7 x0.toNatClampNeg)] (((mm_fl b0 b1 b2), 0, 0, p, q, ad), I1, J1) _
    refine mm_wcm ((h1.1 c0).2) ?_
    rintro v τ ⟨r2, I2, J2, rfl, rfl, h2⟩
    refine mm_r1' ⟨rfl, ?_⟩
    show mm_b _ _ _ _ _ [some (.ref 0), some (.int x0)] [.int r2, .ref 15] (((mm_fl b0 b1 b2), n1, n2, p, q, ad), I2, J2)
    show mm_wc d 50 [.ref 15, .int r2] (((mm_fl b0 b1 b2), 0, 0, p, q, ad), I2, J2) _
    refine mm_wcm h2 ?_
    rintro v τ ⟨I3, J3, rfl, rfl, h3⟩
    refine mm_r0' ⟨rfl, ?_⟩
    show mm_b _ _ _ _ _ [some (.ref 0), some (.int x0)] [] (((mm_fl b0 b1 b2), n1, n2, p, q, ad), I3, J3)
    show mm_wc d 18 [.ref 6, .int (I3 15 0)] (((mm_fl b0 b1 b2), 0, 0, p, q, ad), I3, J3) _
    refine mm_wcm h3 ?_
    rintro v τ ⟨r4, I4, J4, rfl, rfl, h4⟩
    refine mm_r1' ⟨rfl, ?_⟩
    show mm_b _ _ _ _ _ [some (.ref 0), some (.int x0)] [.int r4, .ref 0] (((mm_fl b0 b1 b2), n1, n2, p, q, ad), I4, J4)
    show mm_wc d 160 [.ref 0, .int r4] (((mm_fl b0 b1 b2), 0, 0, p, q, ad), I4, J4) _
    refine mm_wcm h4 ?_
    rintro v τ ⟨r5, I5, J5, rfl, rfl, h5⟩
    refine mm_r1' ⟨rfl, ?_⟩
    exact h5
  · show mm_b _ _ _ _ _ [some (.ref 0), some (.int x0)] [] (((mm_fl b0 b1 b2), n1, n2, p, q, ad), I1, J1)
    show mm_wc d 159 [.ref 0, .int (nI 1)] (((mm_fl b0 b1 b2), 0, 0, p, q, ad), I1, J1) _
    refine mm_wcm (h1.2 c0) ?_
    rintro v τ ⟨r6, I6, J6, rfl, rfl, h6⟩
    refine mm_r1' ⟨rfl, ?_⟩
    exact h6
/- 127 ThreeBreaths light -/
theorem fx_127 {d : Nat} {x0 : Int32} {b0 b1 b2 : Bool} {n1 n2 : Nat} {p q : Bool} {ad : Nat → Nat} {I : mmI} {J : mmJ} {Q : mmQ} (h : mm_wc d 153 [.ref 0, .int x0] (((mm_fl b0 b1 b2), 0, 0, p, q, ad), I, J) (fun v τ => ∃ r1 I1 J1, v = some (.int r1) ∧ τ = (((mm_fl b0 b1 b2), 0, 0, p, q, ad), I1, J1) ∧ ((¬ r1 = (nI 0) → mm_wc d 20 [.ref 6, .int (I1 15 0), .int x0] (((mm_fl b0 b1 b2), 0, 0, p, q, ad), I1, J1) (fun v τ => ∃ r2 I2 J2, v = some (.int r2) ∧ τ = (((mm_fl b0 b1 b2), 0, 0, p, q, ad), I2, J2) ∧ ((r2 = (nI 0) → mm_wc d 21 [.ref 6, .int (I2 15 0), .int x0] (((mm_fl b0 b1 b2), 0, 0, p, q, ad), I2, J2) (fun v τ => ∃ r3 I3 J3, v = some (.int r3) ∧ τ = (((mm_fl b0 b1 b2), 0, 0, p, q, ad), I3, J3) ∧ mm_wc d 50 [.ref 15, .int r3] (((mm_fl b0 b1 b2), 0, 0, p, q, ad), I3, J3) (fun v τ => ∃ I4 J4, v = none ∧ τ = (((mm_fl b0 b1 b2), 0, 0, p, q, ad), I4, J4) ∧ mm_wc d 162 [.ref 0] (((mm_fl b0 b1 b2), 0, 0, p, q, ad), I4, J4) (fun v τ => ∃ r5 I5 J5, v = some (.int r5) ∧ τ = (((mm_fl b0 b1 b2), 0, 0, p, q, ad), I5, J5) ∧ ((r5 = 0 ∨ r5 = 1) ∧ Q (some (.int r5)) (((mm_fl b0 b1 b2), n1, n2, p, q, ad), I5, J5)))))) ∧ (¬ r2 = (nI 0) → mm_wc d 161 [.ref 0, .int (nI 5)] (((mm_fl b0 b1 b2), 0, 0, p, q, ad), I2, J2) (fun v τ => ∃ r6 I6 J6, v = some (.int r6) ∧ τ = (((mm_fl b0 b1 b2), 0, 0, p, q, ad), I6, J6) ∧ ((r6 = 0 ∨ r6 = 1) ∧ Q (some (.int r6)) (((mm_fl b0 b1 b2), n1, n2, p, q, ad), I6, J6))))))) ∧ (r1 = (nI 0) → mm_wc d 161 [.ref 0, .int (nI 1)] (((mm_fl b0 b1 b2), 0, 0, p, q, ad), I1, J1) (fun v τ => ∃ r7 I7 J7, v = some (.int r7) ∧ τ = (((mm_fl b0 b1 b2), 0, 0, p, q, ad), I7, J7) ∧ ((r7 = 0 ∨ r7 = 1) ∧ Q (some (.int r7)) (((mm_fl b0 b1 b2), n1, n2, p, q, ad), I7, J7))))))) : mm_wc (d + 1) 127 [.ref 0, .int x0] (((mm_fl b0 b1 b2), n1, n2, p, q, ad), I, J) Q := by
  refine mm_call (c := 127) rfl rfl ?_
  refine mm_go [] 80 ?_
  show mm_wc d 153 [.ref 0, .int x0] (((mm_fl b0 b1 b2), 0, 0, p, q, ad), I, J) _
  refine mm_wcm h ?_
  rintro v τ ⟨r1, I1, J1, rfl, rfl, h1⟩
  refine mm_r1' ⟨rfl, ?_⟩
  show mm_b _ _ _ _ _ [some (.ref 0), some (.int x0)] [.int r1] (((mm_fl b0 b1 b2), n1, n2, p, q, ad), I1, J1)
  show (¬ r1 = (nI 0) → _) ∧ (r1 = (nI 0) → _)
  refine ⟨fun c0 => ?_, fun c0 => ?_⟩
  · show mm_u _ _ _ _ _ _ [some (.ref 0), some (.int x0)] [] (((mm_fl b0 b1 b2), n1, n2, p, q, ad), I1, J1)
    show mm_wc d 20 [.ref 6, .int (I1 15 0), .int x0] (((mm_fl b0 b1 b2), 0, 0, p, q, ad), I1, J1) _
    refine mm_wcm (h1.1 c0) ?_
    rintro v τ ⟨r2, I2, J2, rfl, rfl, h2⟩
    refine mm_r1' ⟨rfl, ?_⟩
    show mm_b _ _ _ _ _ [some (.ref 0), some (.int x0)] [.int r2] (((mm_fl b0 b1 b2), n1, n2, p, q, ad), I2, J2)
    show (r2 = (nI 0) → _) ∧ (¬ r2 = (nI 0) → _)
    refine ⟨fun c1 => ?_, fun c1 => ?_⟩
    · show mm_u _ _ _ _ _ _ [some (.ref 0), some (.int x0)] [] (((mm_fl b0 b1 b2), n1, n2, p, q, ad), I2, J2)
      show mm_wc d 21 [.ref 6, .int (I2 15 0), .int x0] (((mm_fl b0 b1 b2), 0, 0, p, q, ad), I2, J2) _
      refine mm_wcm (h2.1 c1) ?_
      rintro v τ ⟨r3, I3, J3, rfl, rfl, h3⟩
      refine mm_r1' ⟨rfl, ?_⟩
      show mm_b _ _ _ _ _ [some (.ref 0), some (.int x0)] [.int r3, .ref 15] (((mm_fl b0 b1 b2), n1, n2, p, q, ad), I3, J3)
      show mm_wc d 50 [.ref 15, .int r3] (((mm_fl b0 b1 b2), 0, 0, p, q, ad), I3, J3) _
      refine mm_wcm h3 ?_
      rintro v τ ⟨I4, J4, rfl, rfl, h4⟩
      refine mm_r0' ⟨rfl, ?_⟩
      show mm_b _ _ _ _ _ [some (.ref 0), some (.int x0)] [] (((mm_fl b0 b1 b2), n1, n2, p, q, ad), I4, J4)
      show mm_wc d 162 [.ref 0] (((mm_fl b0 b1 b2), 0, 0, p, q, ad), I4, J4) _
      refine mm_wcm h4 ?_
      rintro v τ ⟨r5, I5, J5, rfl, rfl, h5⟩
      refine mm_r1' ⟨rfl, ?_⟩
      show mm_b _ _ _ _ _ [some (.ref 0), some (.int x0)] [.int r5] (((mm_fl b0 b1 b2), n1, n2, p, q, ad), I5, J5)
      show (r5 = 0 ∨ r5 = 1) ∧ _
      refine ⟨h5.1, ?_⟩
      exact h5.2
    · show mm_b _ _ _ _ _ [some (.ref 0), some (.int x0)] [] (((mm_fl b0 b1 b2), n1, n2, p, q, ad), I2, J2)
      show mm_wc d 161 [.ref 0, .int (nI 5)] (((mm_fl b0 b1 b2), 0, 0, p, q, ad), I2, J2) _
      refine mm_wcm (h2.2 c1) ?_
      rintro v τ ⟨r6, I6, J6, rfl, rfl, h6⟩
      refine mm_r1' ⟨rfl, ?_⟩
      show mm_b _ _ _ _ _ [some (.ref 0), some (.int x0)] [.int r6] (((mm_fl b0 b1 b2), n1, n2, p, q, ad), I6, J6)
      show (r6 = 0 ∨ r6 = 1) ∧ _
      refine ⟨h6.1, ?_⟩
      exact h6.2
  · show mm_b _ _ _ _ _ [some (.ref 0), some (.int x0)] [] (((mm_fl b0 b1 b2), n1, n2, p, q, ad), I1, J1)
    show mm_wc d 161 [.ref 0, .int (nI 1)] (((mm_fl b0 b1 b2), 0, 0, p, q, ad), I1, J1) _
    refine mm_wcm (h1.2 c0) ?_
    rintro v τ ⟨r7, I7, J7, rfl, rfl, h7⟩
    refine mm_r1' ⟨rfl, ?_⟩
    show mm_b _ _ _ _ _ [some (.ref 0), some (.int x0)] [.int r7] (((mm_fl b0 b1 b2), n1, n2, p, q, ad), I7, J7)
    show (r7 = 0 ∨ r7 = 1) ∧ _
    refine ⟨h7.1, ?_⟩
    exact h7.2
/- 128 ThreeBreaths all -/
theorem fx_128 {d : Nat} {b0 b1 b2 : Bool} {n1 n2 : Nat} {p q : Bool} {ad : Nat → Nat} {I : mmI} {J : mmJ} {Q : mmQ} (h : ((¬ (I 0 1) = (nI 0) → mm_wc d 16 [.ref 6] (((mm_fl b0 b1 b2), 0, 0, p, q, ad), I, J) (fun v τ => ∃ r1 I1 J1, v = some (.int r1) ∧ τ = (((mm_fl b0 b1 b2), 0, 0, p, q, ad), I1, J1) ∧ mm_wc d 50 [.ref 15, .int r1] (((mm_fl b0 b1 b2), 0, 0, p, q, ad), I1, J1) (fun v τ => ∃ I2 J2, v = none ∧ τ = (((mm_fl b0 b1 b2), 0, 0, p, q, ad), I2, J2) ∧ mm_wc d 162 [.ref 0] (((mm_fl b0 b1 b2), 0, 0, p, q, ad), I2, J2) (fun v τ => ∃ r3 I3 J3, v = some (.int r3) ∧ τ = (((mm_fl b0 b1 b2), 0, 0, p, q, ad), I3, J3) ∧ ((r3 = 0 ∨ r3 = 1) ∧ Q (some (.int r3)) (((mm_fl b0 b1 b2), n1, n2, p, q, ad), I3, J3)))))) ∧ ((I 0 1) = (nI 0) → mm_wc d 161 [.ref 0, .int (nI 1)] (((mm_fl b0 b1 b2), 0, 0, p, q, ad), I, J) (fun v τ => ∃ r4 I4 J4, v = some (.int r4) ∧ τ = (((mm_fl b0 b1 b2), 0, 0, p, q, ad), I4, J4) ∧ ((r4 = 0 ∨ r4 = 1) ∧ Q (some (.int r4)) (((mm_fl b0 b1 b2), n1, n2, p, q, ad), I4, J4)))))) : mm_wc (d + 1) 128 [.ref 0] (((mm_fl b0 b1 b2), n1, n2, p, q, ad), I, J) Q := by
  refine mm_call (c := 128) rfl rfl ?_
  refine mm_go [] 80 ?_
  show (¬ (I 0 1) = (nI 0) → _) ∧ ((I 0 1) = (nI 0) → _)
  refine ⟨fun c0 => ?_, fun c0 => ?_⟩
  · show mm_u _ _ _ _ _ _ [some (.ref 0)] [] (((mm_fl b0 b1 b2), n1, n2, p, q, ad), I, J)
    show mm_wc d 16 [.ref 6] (((mm_fl b0 b1 b2), 0, 0, p, q, ad), I, J) _
    refine mm_wcm (h.1 c0) ?_
    rintro v τ ⟨r1, I1, J1, rfl, rfl, h1⟩
    refine mm_r1' ⟨rfl, ?_⟩
    show mm_b _ _ _ _ _ [some (.ref 0)] [.int r1, .ref 15] (((mm_fl b0 b1 b2), n1, n2, p, q, ad), I1, J1)
    show mm_wc d 50 [.ref 15, .int r1] (((mm_fl b0 b1 b2), 0, 0, p, q, ad), I1, J1) _
    refine mm_wcm h1 ?_
    rintro v τ ⟨I2, J2, rfl, rfl, h2⟩
    refine mm_r0' ⟨rfl, ?_⟩
    show mm_b _ _ _ _ _ [some (.ref 0)] [] (((mm_fl b0 b1 b2), n1, n2, p, q, ad), I2, J2)
    show mm_wc d 162 [.ref 0] (((mm_fl b0 b1 b2), 0, 0, p, q, ad), I2, J2) _
    refine mm_wcm h2 ?_
    rintro v τ ⟨r3, I3, J3, rfl, rfl, h3⟩
    refine mm_r1' ⟨rfl, ?_⟩
    show mm_b _ _ _ _ _ [some (.ref 0)] [.int r3] (((mm_fl b0 b1 b2), n1, n2, p, q, ad), I3, J3)
    show (r3 = 0 ∨ r3 = 1) ∧ _
    refine ⟨h3.1, ?_⟩
    exact h3.2
  · show mm_b _ _ _ _ _ [some (.ref 0)] [] (((mm_fl b0 b1 b2), n1, n2, p, q, ad), I, J)
    show mm_wc d 161 [.ref 0, .int (nI 1)] (((mm_fl b0 b1 b2), 0, 0, p, q, ad), I, J) _
    refine mm_wcm (h.2 c0) ?_
    rintro v τ ⟨r4, I4, J4, rfl, rfl, h4⟩
    refine mm_r1' ⟨rfl, ?_⟩
    show mm_b _ _ _ _ _ [some (.ref 0)] [.int r4] (((mm_fl b0 b1 b2), n1, n2, p, q, ad), I4, J4)
    show (r4 = 0 ∨ r4 = 1) ∧ _
    refine ⟨h4.1, ?_⟩
    exact h4.2
/- 129 ThreeBreaths undo -/
theorem fx_129 {d : Nat} {b0 b1 b2 : Bool} {n1 n2 : Nat} {p q : Bool} {ad : Nat → Nat} {I : mmI} {J : mmJ} {Q : mmQ} (h : mm_wc d 51 [.ref 15] (((mm_fl b0 b1 b2), 0, 0, p, q, ad), I, J) (fun v τ => ∃ r1 I1 J1, v = some (.int r1) ∧ τ = (((mm_fl b0 b1 b2), 0, 0, p, q, ad), I1, J1) ∧ ((r1 = (nI 0) → mm_wc d 161 [.ref 0, .int (nI 6)] (((mm_fl b0 b1 b2), 0, 0, p, q, ad), I1, J1) (fun v τ => ∃ r2 I2 J2, v = some (.int r2) ∧ τ = (((mm_fl b0 b1 b2), 0, 0, p, q, ad), I2, J2) ∧ ((r2 = 0 ∨ r2 = 1) ∧ Q (some (.int r2)) (((mm_fl b0 b1 b2), n1, n2, p, q, ad), I2, J2)))) ∧ (¬ r1 = (nI 0) → mm_wc d 162 [.ref 0] (((mm_fl b0 b1 b2), 0, 0, p, q, ad), I1, J1) (fun v τ => ∃ r3 I3 J3, v = some (.int r3) ∧ τ = (((mm_fl b0 b1 b2), 0, 0, p, q, ad), I3, J3) ∧ ((r3 = 0 ∨ r3 = 1) ∧ Q (some (.int r3)) (((mm_fl b0 b1 b2), n1, n2, p, q, ad), I3, J3))))))) : mm_wc (d + 1) 129 [.ref 0] (((mm_fl b0 b1 b2), n1, n2, p, q, ad), I, J) Q := by
  refine mm_call (c := 129) rfl rfl ?_
  refine mm_go [] 80 ?_
  show mm_wc d 51 [.ref 15] (((mm_fl b0 b1 b2), 0, 0, p, q, ad), I, J) _
  refine mm_wcm h ?_
  rintro v τ ⟨r1, I1, J1, rfl, rfl, h1⟩
  refine mm_r1' ⟨rfl, ?_⟩
  show mm_b _ _ _ _ _ [some (.ref 0)] [.int r1] (((mm_fl b0 b1 b2), n1, n2, p, q, ad), I1, J1)
  show (r1 = (nI 0) → _) ∧ (¬ r1 = (nI 0) → _)
  refine ⟨fun c0 => ?_, fun c0 => ?_⟩
  · show mm_u _ _ _ _ _ _ [some (.ref 0)] [] (((mm_fl b0 b1 b2), n1, n2, p, q, ad), I1, J1)
    show mm_wc d 161 [.ref 0, .int (nI 6)] (((mm_fl b0 b1 b2), 0, 0, p, q, ad), I1, J1) _
    refine mm_wcm (h1.1 c0) ?_
    rintro v τ ⟨r2, I2, J2, rfl, rfl, h2⟩
    refine mm_r1' ⟨rfl, ?_⟩
    show mm_b _ _ _ _ _ [some (.ref 0)] [.int r2] (((mm_fl b0 b1 b2), n1, n2, p, q, ad), I2, J2)
    show (r2 = 0 ∨ r2 = 1) ∧ _
    refine ⟨h2.1, ?_⟩
    exact h2.2
  · show mm_b _ _ _ _ _ [some (.ref 0)] [] (((mm_fl b0 b1 b2), n1, n2, p, q, ad), I1, J1)
    show mm_wc d 162 [.ref 0] (((mm_fl b0 b1 b2), 0, 0, p, q, ad), I1, J1) _
    refine mm_wcm (h1.2 c0) ?_
    rintro v τ ⟨r3, I3, J3, rfl, rfl, h3⟩
    refine mm_r1' ⟨rfl, ?_⟩
    show mm_b _ _ _ _ _ [some (.ref 0)] [.int r3] (((mm_fl b0 b1 b2), n1, n2, p, q, ad), I3, J3)
    show (r3 = 0 ∨ r3 = 1) ∧ _
    refine ⟨h3.1, ?_⟩
    exact h3.2
/- 130 ThreeBreaths fewest -/
theorem fx_130 {d : Nat} {b0 b1 b2 : Bool} {n1 n2 : Nat} {p q : Bool} {ad : Nat → Nat} {I : mmI} {J : mmJ} {Q : mmQ} (h : (((I 0 1) = (nI 0) → mm_wc d 159 [.ref 0, .int (nI 1)] (((mm_fl b0 b1 b2), 0, 0, p, q, ad), I, J) (fun v τ => ∃ r1 I1 J1, v = some (.int r1) ∧ τ = (((mm_fl b0 b1 b2), 0, 0, p, q, ad), I1, J1) ∧ Q (some (.int r1)) (((mm_fl b0 b1 b2), n1, n2, p, q, ad), I1, J1))) ∧ (¬ (I 0 1) = (nI 0) → ∃ x2 y2, x2 ≤ n1 ∧ y2 ≤ n2 ∧ mm_wc d 1010 [.ref 0] (((mm_fl b0 b1 b2), x2, y2, p, q, ad), I, J) (fun v τ => ∃ z1 z2 ad2 I2, v = some (.ref 70) ∧ τ = (((mm_fl true b1 b2), z1, z2, p, q, ad2), I2, J) ∧ mm_wc d 83 [.ref 70, .int (I2 15 0)] (((mm_fl true b1 b2), 0, 0, p, q, ad2), I2, J) (fun v τ => ∃ r3 I3 J3, v = some (.int r3) ∧ τ = (((mm_fl true b1 b2), 0, 0, p, q, ad2), I3, J3) ∧ mm_wc d 160 [.ref 0, .int r3] (((mm_fl true b1 b2), 0, 0, p, q, ad2), I3, J3) (fun v τ => ∃ r4 I4 J4, v = some (.int r4) ∧ τ = (((mm_fl true b1 b2), 0, 0, p, q, ad2), I4, J4) ∧ Q (some (.int r4)) (((mm_fl true b1 b2), (n1 - x2), (n2 - y2), p, q, ad2), I4, J4))))))) : mm_wc (d + 1) 130 [.ref 0] (((mm_fl b0 b1 b2), n1, n2, p, q, ad), I, J) Q := by
  refine mm_call (c := 130) rfl rfl ?_
  refine mm_go [] 80 ?_
  show ((I 0 1) = (nI 0) → _) ∧ (¬ (I 0 1) = (nI 0) → _)
  refine ⟨fun c0 => ?_, fun c0 => ?_⟩
  · show mm_u _ _ _ _ _ _ [some (.ref 0)] [] (((mm_fl b0 b1 b2), n1, n2, p, q, ad), I, J)
    show mm_wc d 159 [.ref 0, .int (nI 1)] (((mm_fl b0 b1 b2), 0, 0, p, q, ad), I, J) _
    refine mm_wcm (h.1 c0) ?_
    rintro v τ ⟨r1, I1, J1, rfl, rfl, h1⟩
    refine mm_r1' ⟨rfl, ?_⟩
    exact h1
  · show mm_b _ _ _ _ _ [some (.ref 0)] [] (((mm_fl b0 b1 b2), n1, n2, p, q, ad), I, J)
    obtain ⟨x2, y2, u2, w2, h2⟩ := (h.2 c0)
    show ∃ x y, x ≤ n1 ∧ y ≤ n2 ∧ mm_wc d 1010 [.ref 0] (((mm_fl b0 b1 b2), x, y, p, q, ad), I, J) _
    refine ⟨x2, y2, u2, w2, mm_wcm h2 ?_⟩
    rintro v τ ⟨z1, z2, ad2, I2, rfl, rfl, h2⟩
    refine mm_r3' ?_
    show mm_b _ _ _ _ _ [some (.ref 0)] [.ref 70, .ref 0] (((mm_fl true b1 b2), (n1 - x2), (n2 - y2), p, q, ad2), I2, J)
    show mm_wc d 83 [.ref 70, .int (I2 15 0)] (((mm_fl true b1 b2), 0, 0, p, q, ad2), I2, J) _
    refine mm_wcm h2 ?_
    rintro v τ ⟨r3, I3, J3, rfl, rfl, h3⟩
    refine mm_r1' ⟨rfl, ?_⟩
    show mm_b _ _ _ _ _ [some (.ref 0)] [.int r3, .ref 0] (((mm_fl true b1 b2), (n1 - x2), (n2 - y2), p, q, ad2), I3, J3)
    show mm_wc d 160 [.ref 0, .int r3] (((mm_fl true b1 b2), 0, 0, p, q, ad2), I3, J3) _
    refine mm_wcm h3 ?_
    rintro v τ ⟨r4, I4, J4, rfl, rfl, h4⟩
    refine mm_r1' ⟨rfl, ?_⟩
    exact h4
/- 131 ThreeBreaths row -/
theorem fx_131 {d : Nat} {x0 : Int32} {b0 b1 b2 : Bool} {n1 n2 : Nat} {p q : Bool} {ad : Nat → Nat} {I : mmI} {J : mmJ} {Q : mmQ} (h : (((I 0 1) = (nI 0) → mm_wc d 159 [.ref 0, .int (nI 1)] (((mm_fl b0 b1 b2), 0, 0, p, q, ad), I, J) (fun v τ => ∃ r1 I1 J1, v = some (.int r1) ∧ τ = (((mm_fl b0 b1 b2), 0, 0, p, q, ad), I1, J1) ∧ Q (some (.int r1)) (((mm_fl b0 b1 b2), n1, n2, p, q, ad), I1, J1))) ∧ (¬ (I 0 1) = (nI 0) → (((nI 0) ≤ x0 → ∃ x2 y2, x2 ≤ n1 ∧ y2 ≤ n2 ∧ mm_wc d 1010 [.ref 0] (((mm_fl b0 b1 b2), x2, y2, p, q, ad), I, J) (fun v τ => ∃ z1 z2 ad2 I2, v = some (.ref 70) ∧ τ = (((mm_fl true b1 b2), z1, z2, p, q, ad2), I2, J) ∧ mm_wc d 83 [.ref 70, .int (I2 15 0)] (((mm_fl true b1 b2), 0, 0, p, q, ad2), I2, J) (fun v τ => ∃ r3 I3 J3, v = some (.int r3) ∧ τ = (((mm_fl true b1 b2), 0, 0, p, q, ad2), I3, J3) ∧ ((¬ r3 = (-2) → ((x0 < r3 → ∃ x4 y4, x4 ≤ (n1 - x2) ∧ y4 ≤ (n2 - y2) ∧ mm_wc d 1010 [.ref 0] (((mm_fl true b1 b2), x4, y4, p, q, ad2), I3, J3) (fun v τ => ∃ z1 z2 ad4 I4, v = some (.ref 70) ∧ τ = (((mm_fl true b1 b2), z1, z2, p, q, ad4), I4, J3) ∧ mm_wc d 92 [.ref 70, .int (I4 15 0), .int x0] (((mm_fl true b1 b2), 0, 0, p, q, ad4), I4, J3) (fun v τ => ∃ r5 I5 J5, v = some (.int r5) ∧ τ = (((mm_fl true b1 b2), 0, 0, p, q, ad4), I5, J5) ∧ mm_wc d 160 [.ref 0, .int r5] (((mm_fl true b1 b2), 0, 0, p, q, ad4), I5, J5) (fun v τ => ∃ r6 I6 J6, v = some (.int r6) ∧ τ = (((mm_fl true b1 b2), 0, 0, p, q, ad4), I6, J6) ∧ Q (some (.int r6)) (((mm_fl true b1 b2), ((n1 - x2) - x4), ((n2 - y2) - y4), p, q, ad4), I6, J6))))) ∧ (¬ x0 < r3 → mm_wc d 159 [.ref 0, .int (nI 1)] (((mm_fl true b1 b2), 0, 0, p, q, ad2), I3, J3) (fun v τ => ∃ r7 I7 J7, v = some (.int r7) ∧ τ = (((mm_fl true b1 b2), 0, 0, p, q, ad2), I7, J7) ∧ Q (some (.int r7)) (((mm_fl true b1 b2), (n1 - x2), (n2 - y2), p, q, ad2), I7, J7))))) ∧ (r3 = (-2) → mm_wc d 159 [.ref 0, .int (nI 6)] (((mm_fl true b1 b2), 0, 0, p, q, ad2), I3, J3) (fun v τ => ∃ r8 I8 J8, v = some (.int r8) ∧ τ = (((mm_fl true b1 b2), 0, 0, p, q, ad2), I8, J8) ∧ Q (some (.int r8)) (((mm_fl true b1 b2), (n1 - x2), (n2 - y2), p, q, ad2), I8, J8))))))) ∧ (¬ (nI 0) ≤ x0 → mm_wc d 159 [.ref 0, .int (nI 1)] (((mm_fl b0 b1 b2), 0, 0, p, q, ad), I, J) (fun v τ => ∃ r9 I9 J9, v = some (.int r9) ∧ τ = (((mm_fl b0 b1 b2), 0, 0, p, q, ad), I9, J9) ∧ Q (some (.int r9)) (((mm_fl b0 b1 b2), n1, n2, p, q, ad), I9, J9))))))) : mm_wc (d + 1) 131 [.ref 0, .int x0] (((mm_fl b0 b1 b2), n1, n2, p, q, ad), I, J) Q := by
  refine mm_call (c := 131) rfl rfl ?_
  refine mm_go [] 80 ?_
  show ((I 0 1) = (nI 0) → _) ∧ (¬ (I 0 1) = (nI 0) → _)
  refine ⟨fun c0 => ?_, fun c0 => ?_⟩
  · show mm_u _ _ _ _ _ _ [some (.ref 0), some (.int x0), none] [] (((mm_fl b0 b1 b2), n1, n2, p, q, ad), I, J)
    show mm_wc d 159 [.ref 0, .int (nI 1)] (((mm_fl b0 b1 b2), 0, 0, p, q, ad), I, J) _
    refine mm_wcm (h.1 c0) ?_
    rintro v τ ⟨r1, I1, J1, rfl, rfl, h1⟩
    refine mm_r1' ⟨rfl, ?_⟩
    exact h1
  · show mm_b _ _ _ _ _ [some (.ref 0), some (.int x0), none] [] (((mm_fl b0 b1 b2), n1, n2, p, q, ad), I, J)
    show ((nI 0) ≤ x0 → _) ∧ (¬ (nI 0) ≤ x0 → _)
    refine ⟨fun c1 => ?_, fun c1 => ?_⟩
    · show mm_u _ _ _ _ _ _ [some (.ref 0), some (.int x0), none] [] (((mm_fl b0 b1 b2), n1, n2, p, q, ad), I, J)
      obtain ⟨x2, y2, u2, w2, h2⟩ := ((h.2 c0).1 c1)
      show ∃ x y, x ≤ n1 ∧ y ≤ n2 ∧ mm_wc d 1010 [.ref 0] (((mm_fl b0 b1 b2), x, y, p, q, ad), I, J) _
      refine ⟨x2, y2, u2, w2, mm_wcm h2 ?_⟩
      rintro v τ ⟨z1, z2, ad2, I2, rfl, rfl, h2⟩
      refine mm_r3' ?_
      show mm_b _ _ _ _ _ [some (.ref 0), some (.int x0), none] [.ref 70] (((mm_fl true b1 b2), (n1 - x2), (n2 - y2), p, q, ad2), I2, J)
      show mm_wc d 83 [.ref 70, .int (I2 15 0)] (((mm_fl true b1 b2), 0, 0, p, q, ad2), I2, J) _
      refine mm_wcm h2 ?_
      rintro v τ ⟨r3, I3, J3, rfl, rfl, h3⟩
      refine mm_r1' ⟨rfl, ?_⟩
      show mm_b _ _ _ _ _ [some (.ref 0), some (.int x0), none] [.int r3] (((mm_fl true b1 b2), (n1 - x2), (n2 - y2), p, q, ad2), I3, J3)
      show (¬ r3 = (-2) → _) ∧ (r3 = (-2) → _)
      refine ⟨fun c2 => ?_, fun c2 => ?_⟩
      · show mm_u _ _ _ _ _ _ [some (.ref 0), some (.int x0), some (.int r3)] [] (((mm_fl true b1 b2), (n1 - x2), (n2 - y2), p, q, ad2), I3, J3)
        show (x0 < r3 → _) ∧ (¬ x0 < r3 → _)
        refine ⟨fun c3 => ?_, fun c3 => ?_⟩
        · show mm_u _ _ _ _ _ _ [some (.ref 0), some (.int x0), some (.int r3)] [] (((mm_fl true b1 b2), (n1 - x2), (n2 - y2), p, q, ad2), I3, J3)
          obtain ⟨x4, y4, u4, w4, h4⟩ := ((h3.1 c2).1 c3)
          show ∃ x y, x ≤ (n1 - x2) ∧ y ≤ (n2 - y2) ∧ mm_wc d 1010 [.ref 0] (((mm_fl true b1 b2), x, y, p, q, ad2), I3, J3) _
          refine ⟨x4, y4, u4, w4, mm_wcm h4 ?_⟩
          rintro v τ ⟨z1, z2, ad4, I4, rfl, rfl, h4⟩
          refine mm_r3' ?_
          show mm_b _ _ _ _ _ [some (.ref 0), some (.int x0), none] [.ref 70, .ref 0] (((mm_fl true b1 b2), ((n1 - x2) - x4), ((n2 - y2) - y4), p, q, ad4), I4, J3)
          show mm_wc d 92 [.ref 70, .int (I4 15 0), .int x0] (((mm_fl true b1 b2), 0, 0, p, q, ad4), I4, J3) _
          refine mm_wcm h4 ?_
          rintro v τ ⟨r5, I5, J5, rfl, rfl, h5⟩
          refine mm_r1' ⟨rfl, ?_⟩
          show mm_b _ _ _ _ _ [some (.ref 0), some (.int x0), none] [.int r5, .ref 0] (((mm_fl true b1 b2), ((n1 - x2) - x4), ((n2 - y2) - y4), p, q, ad4), I5, J5)
          show mm_wc d 160 [.ref 0, .int r5] (((mm_fl true b1 b2), 0, 0, p, q, ad4), I5, J5) _
          refine mm_wcm h5 ?_
          rintro v τ ⟨r6, I6, J6, rfl, rfl, h6⟩
          refine mm_r1' ⟨rfl, ?_⟩
          exact h6
        · show mm_b _ _ _ _ _ [some (.ref 0), some (.int x0), some (.int r3)] [] (((mm_fl true b1 b2), (n1 - x2), (n2 - y2), p, q, ad2), I3, J3)
          show mm_wc d 159 [.ref 0, .int (nI 1)] (((mm_fl true b1 b2), 0, 0, p, q, ad2), I3, J3) _
          refine mm_wcm ((h3.1 c2).2 c3) ?_
          rintro v τ ⟨r7, I7, J7, rfl, rfl, h7⟩
          refine mm_r1' ⟨rfl, ?_⟩
          exact h7
      · show mm_b _ _ _ _ _ [some (.ref 0), some (.int x0), some (.int r3)] [] (((mm_fl true b1 b2), (n1 - x2), (n2 - y2), p, q, ad2), I3, J3)
        show mm_wc d 159 [.ref 0, .int (nI 6)] (((mm_fl true b1 b2), 0, 0, p, q, ad2), I3, J3) _
        refine mm_wcm (h3.2 c2) ?_
        rintro v τ ⟨r8, I8, J8, rfl, rfl, h8⟩
        refine mm_r1' ⟨rfl, ?_⟩
        exact h8
    · show mm_b _ _ _ _ _ [some (.ref 0), some (.int x0), none] [] (((mm_fl b0 b1 b2), n1, n2, p, q, ad), I, J)
      show mm_wc d 159 [.ref 0, .int (nI 1)] (((mm_fl b0 b1 b2), 0, 0, p, q, ad), I, J) _
      refine mm_wcm ((h.2 c0).2 c1) ?_
      rintro v τ ⟨r9, I9, J9, rfl, rfl, h9⟩
      refine mm_r1' ⟨rfl, ?_⟩
      exact h9
/- 132 ThreeBreaths from -/
theorem fx_132 {d : Nat} {x0 : Int32} {b0 b1 b2 : Bool} {n1 n2 : Nat} {p q : Bool} {ad : Nat → Nat} {I : mmI} {J : mmJ} {Q : mmQ} (h : mm_wc d 154 [.ref 0, .int x0] (((mm_fl b0 b1 b2), 0, 0, p, q, ad), I, J) (fun v τ => ∃ r1 I1 J1, v = some (.int r1) ∧ τ = (((mm_fl b0 b1 b2), 0, 0, p, q, ad), I1, J1) ∧ ((¬ r1 = (nI 0) → ∃ x2 y2, x2 ≤ n1 ∧ y2 ≤ n2 ∧ mm_wc d 1010 [.ref 0] (((mm_fl b0 b1 b2), x2, y2, p, q, ad), I1, J1) (fun v τ => ∃ z1 z2 ad2 I2, v = some (.ref 70) ∧ τ = (((mm_fl true b1 b2), z1, z2, p, q, ad2), I2, J1) ∧ mm_wc d 84 [.ref 70, .int (I2 15 0), .int (nI 1), .int x0] (((mm_fl true b1 b2), 0, 0, p, q, ad2), I2, J1) (fun v τ => ∃ r3 I3 J3, v = some (.int r3) ∧ τ = (((mm_fl true b1 b2), 0, 0, p, q, ad2), I3, J3) ∧ mm_wc d 160 [.ref 0, .int r3] (((mm_fl true b1 b2), 0, 0, p, q, ad2), I3, J3) (fun v τ => ∃ r4 I4 J4, v = some (.int r4) ∧ τ = (((mm_fl true b1 b2), 0, 0, p, q, ad2), I4, J4) ∧ Q (some (.int r4)) (((mm_fl true b1 b2), (n1 - x2), (n2 - y2), p, q, ad2), I4, J4))))) ∧ (r1 = (nI 0) → mm_wc d 159 [.ref 0, .int (nI 1)] (((mm_fl b0 b1 b2), 0, 0, p, q, ad), I1, J1) (fun v τ => ∃ r5 I5 J5, v = some (.int r5) ∧ τ = (((mm_fl b0 b1 b2), 0, 0, p, q, ad), I5, J5) ∧ Q (some (.int r5)) (((mm_fl b0 b1 b2), n1, n2, p, q, ad), I5, J5)))))) : mm_wc (d + 1) 132 [.ref 0, .int x0] (((mm_fl b0 b1 b2), n1, n2, p, q, ad), I, J) Q := by
  refine mm_call (c := 132) rfl rfl ?_
  refine mm_go [] 80 ?_
  show mm_wc d 154 [.ref 0, .int x0] (((mm_fl b0 b1 b2), 0, 0, p, q, ad), I, J) _
  refine mm_wcm h ?_
  rintro v τ ⟨r1, I1, J1, rfl, rfl, h1⟩
  refine mm_r1' ⟨rfl, ?_⟩
  show mm_b _ _ _ _ _ [some (.ref 0), some (.int x0)] [.int r1] (((mm_fl b0 b1 b2), n1, n2, p, q, ad), I1, J1)
  show (¬ r1 = (nI 0) → _) ∧ (r1 = (nI 0) → _)
  refine ⟨fun c0 => ?_, fun c0 => ?_⟩
  · show mm_u _ _ _ _ _ _ [some (.ref 0), some (.int x0)] [] (((mm_fl b0 b1 b2), n1, n2, p, q, ad), I1, J1)
    obtain ⟨x2, y2, u2, w2, h2⟩ := (h1.1 c0)
    show ∃ x y, x ≤ n1 ∧ y ≤ n2 ∧ mm_wc d 1010 [.ref 0] (((mm_fl b0 b1 b2), x, y, p, q, ad), I1, J1) _
    refine ⟨x2, y2, u2, w2, mm_wcm h2 ?_⟩
    rintro v τ ⟨z1, z2, ad2, I2, rfl, rfl, h2⟩
    refine mm_r3' ?_
    show mm_b _ _ _ _ _ [some (.ref 0), some (.int x0)] [.ref 70, .ref 0] (((mm_fl true b1 b2), (n1 - x2), (n2 - y2), p, q, ad2), I2, J1)
    show mm_wc d 84 [.ref 70, .int (I2 15 0), .int (nI 1), .int x0] (((mm_fl true b1 b2), 0, 0, p, q, ad2), I2, J1) _
    refine mm_wcm h2 ?_
    rintro v τ ⟨r3, I3, J3, rfl, rfl, h3⟩
    refine mm_r1' ⟨rfl, ?_⟩
    show mm_b _ _ _ _ _ [some (.ref 0), some (.int x0)] [.int r3, .ref 0] (((mm_fl true b1 b2), (n1 - x2), (n2 - y2), p, q, ad2), I3, J3)
    show mm_wc d 160 [.ref 0, .int r3] (((mm_fl true b1 b2), 0, 0, p, q, ad2), I3, J3) _
    refine mm_wcm h3 ?_
    rintro v τ ⟨r4, I4, J4, rfl, rfl, h4⟩
    refine mm_r1' ⟨rfl, ?_⟩
    exact h4
  · show mm_b _ _ _ _ _ [some (.ref 0), some (.int x0)] [] (((mm_fl b0 b1 b2), n1, n2, p, q, ad), I1, J1)
    show mm_wc d 159 [.ref 0, .int (nI 1)] (((mm_fl b0 b1 b2), 0, 0, p, q, ad), I1, J1) _
    refine mm_wcm (h1.2 c0) ?_
    rintro v τ ⟨r5, I5, J5, rfl, rfl, h5⟩
    refine mm_r1' ⟨rfl, ?_⟩
    exact h5
/- 133 ThreeBreaths by -/
theorem fx_133 {d : Nat} {x0 : Int32} {b0 b1 b2 : Bool} {n1 n2 : Nat} {p q : Bool} {ad : Nat → Nat} {I : mmI} {J : mmJ} {Q : mmQ} (h : mm_wc d 155 [.ref 0, .int x0] (((mm_fl b0 b1 b2), 0, 0, p, q, ad), I, J) (fun v τ => ∃ r1 I1 J1, v = some (.int r1) ∧ τ = (((mm_fl b0 b1 b2), 0, 0, p, q, ad), I1, J1) ∧ ((¬ r1 = (nI 0) → ∃ x2 y2, x2 ≤ n1 ∧ y2 ≤ n2 ∧ mm_wc d 1010 [.ref 0] (((mm_fl b0 b1 b2), x2, y2, p, q, ad), I1, J1) (fun v τ => ∃ z1 z2 ad2 I2, v = some (.ref 70) ∧ τ = (((mm_fl true b1 b2), z1, z2, p, q, ad2), I2, J1) ∧ mm_wc d 84 [.ref 70, .int (I2 15 0), .int (nI 2), .int x0] (((mm_fl true b1 b2), 0, 0, p, q, ad2), I2, J1) (fun v τ => ∃ r3 I3 J3, v = some (.int r3) ∧ τ = (((mm_fl true b1 b2), 0, 0, p, q, ad2), I3, J3) ∧ mm_wc d 160 [.ref 0, .int r3] (((mm_fl true b1 b2), 0, 0, p, q, ad2), I3, J3) (fun v τ => ∃ r4 I4 J4, v = some (.int r4) ∧ τ = (((mm_fl true b1 b2), 0, 0, p, q, ad2), I4, J4) ∧ Q (some (.int r4)) (((mm_fl true b1 b2), (n1 - x2), (n2 - y2), p, q, ad2), I4, J4))))) ∧ (r1 = (nI 0) → mm_wc d 159 [.ref 0, .int (nI 1)] (((mm_fl b0 b1 b2), 0, 0, p, q, ad), I1, J1) (fun v τ => ∃ r5 I5 J5, v = some (.int r5) ∧ τ = (((mm_fl b0 b1 b2), 0, 0, p, q, ad), I5, J5) ∧ Q (some (.int r5)) (((mm_fl b0 b1 b2), n1, n2, p, q, ad), I5, J5)))))) : mm_wc (d + 1) 133 [.ref 0, .int x0] (((mm_fl b0 b1 b2), n1, n2, p, q, ad), I, J) Q := by
  refine mm_call (c := 133) rfl rfl ?_
  refine mm_go [] 80 ?_
  show mm_wc d 155 [.ref 0, .int x0] (((mm_fl b0 b1 b2), 0, 0, p, q, ad), I, J) _
  refine mm_wcm h ?_
  rintro v τ ⟨r1, I1, J1, rfl, rfl, h1⟩
  refine mm_r1' ⟨rfl, ?_⟩
  show mm_b _ _ _ _ _ [some (.ref 0), some (.int x0)] [.int r1] (((mm_fl b0 b1 b2), n1, n2, p, q, ad), I1, J1)
  show (¬ r1 = (nI 0) → _) ∧ (r1 = (nI 0) → _)
  refine ⟨fun c0 => ?_, fun c0 => ?_⟩
  · show mm_u _ _ _ _ _ _ [some (.ref 0), some (.int x0)] [] (((mm_fl b0 b1 b2), n1, n2, p, q, ad), I1, J1)
    obtain ⟨x2, y2, u2, w2, h2⟩ := (h1.1 c0)
    show ∃ x y, x ≤ n1 ∧ y ≤ n2 ∧ mm_wc d 1010 [.ref 0] (((mm_fl b0 b1 b2), x, y, p, q, ad), I1, J1) _
    refine ⟨x2, y2, u2, w2, mm_wcm h2 ?_⟩
    rintro v τ ⟨z1, z2, ad2, I2, rfl, rfl, h2⟩
    refine mm_r3' ?_
    show mm_b _ _ _ _ _ [some (.ref 0), some (.int x0)] [.ref 70, .ref 0] (((mm_fl true b1 b2), (n1 - x2), (n2 - y2), p, q, ad2), I2, J1)
    show mm_wc d 84 [.ref 70, .int (I2 15 0), .int (nI 2), .int x0] (((mm_fl true b1 b2), 0, 0, p, q, ad2), I2, J1) _
    refine mm_wcm h2 ?_
    rintro v τ ⟨r3, I3, J3, rfl, rfl, h3⟩
    refine mm_r1' ⟨rfl, ?_⟩
    show mm_b _ _ _ _ _ [some (.ref 0), some (.int x0)] [.int r3, .ref 0] (((mm_fl true b1 b2), (n1 - x2), (n2 - y2), p, q, ad2), I3, J3)
    show mm_wc d 160 [.ref 0, .int r3] (((mm_fl true b1 b2), 0, 0, p, q, ad2), I3, J3) _
    refine mm_wcm h3 ?_
    rintro v τ ⟨r4, I4, J4, rfl, rfl, h4⟩
    refine mm_r1' ⟨rfl, ?_⟩
    exact h4
  · show mm_b _ _ _ _ _ [some (.ref 0), some (.int x0)] [] (((mm_fl b0 b1 b2), n1, n2, p, q, ad), I1, J1)
    show mm_wc d 159 [.ref 0, .int (nI 1)] (((mm_fl b0 b1 b2), 0, 0, p, q, ad), I1, J1) _
    refine mm_wcm (h1.2 c0) ?_
    rintro v τ ⟨r5, I5, J5, rfl, rfl, h5⟩
    refine mm_r1' ⟨rfl, ?_⟩
    exact h5
/- 134 ThreeBreaths inTime -/
theorem fx_134 {d : Nat} {b0 b1 b2 : Bool} {n1 n2 : Nat} {p q : Bool} {ad : Nat → Nat} {I : mmI} {J : mmJ} {Q : mmQ} (h : ((¬ (I 0 1) = (nI 0) → ∃ x1 y1, x1 ≤ n1 ∧ y1 ≤ n2 ∧ mm_wc d 1010 [.ref 0] (((mm_fl b0 b1 b2), x1, y1, p, q, ad), I, J) (fun v τ => ∃ z1 z2 ad1 I1, v = some (.ref 70) ∧ τ = (((mm_fl true b1 b2), z1, z2, p, q, ad1), I1, J) ∧ mm_wc d 83 [.ref 70, .int (I1 15 0)] (((mm_fl true b1 b2), 0, 0, p, q, ad1), I1, J) (fun v τ => ∃ r2 I2 J2, v = some (.int r2) ∧ τ = (((mm_fl true b1 b2), 0, 0, p, q, ad1), I2, J2) ∧ ((r2 = (-2) → mm_wc d 160 [.ref 0, .int (nI 0)] (((mm_fl true b1 b2), 0, 0, p, q, ad1), I2, J2) (fun v τ => ∃ r3 I3 J3, v = some (.int r3) ∧ τ = (((mm_fl true b1 b2), 0, 0, p, q, ad1), I3, J3) ∧ Q (some (.int r3)) (((mm_fl true b1 b2), (n1 - x1), (n2 - y1), p, q, ad1), I3, J3))) ∧ (¬ r2 = (-2) → (((I2 (mm_ck p 0) 8) < r2 → mm_wc d 160 [.ref 0, .int (nI 0)] (((mm_fl true b1 b2), 0, 0, p, q, ad1), I2, J2) (fun v τ => ∃ r4 I4 J4, v = some (.int r4) ∧ τ = (((mm_fl true b1 b2), 0, 0, p, q, ad1), I4, J4) ∧ Q (some (.int r4)) (((mm_fl true b1 b2), (n1 - x1), (n2 - y1), p, q, ad1), I4, J4))) ∧ (¬ (I2 (mm_ck p 0) 8) < r2 → mm_wc d 160 [.ref 0, .int (nI 1)] (((mm_fl true b1 b2), 0, 0, p, q, ad1), I2, J2) (fun v τ => ∃ r5 I5 J5, v = some (.int r5) ∧ τ = (((mm_fl true b1 b2), 0, 0, p, q, ad1), I5, J5) ∧ Q (some (.int r5)) (((mm_fl true b1 b2), (n1 - x1), (n2 - y1), p, q, ad1), I5, J5))))))))) ∧ ((I 0 1) = (nI 0) → mm_wc d 159 [.ref 0, .int (nI 1)] (((mm_fl b0 b1 b2), 0, 0, p, q, ad), I, J) (fun v τ => ∃ r6 I6 J6, v = some (.int r6) ∧ τ = (((mm_fl b0 b1 b2), 0, 0, p, q, ad), I6, J6) ∧ Q (some (.int r6)) (((mm_fl b0 b1 b2), n1, n2, p, q, ad), I6, J6))))) : mm_wc (d + 1) 134 [.ref 0] (((mm_fl b0 b1 b2), n1, n2, p, q, ad), I, J) Q := by
  cases p
  · refine mm_call (c := 134) rfl rfl ?_
    refine mm_go [] 80 ?_
    show (¬ (I 0 1) = (nI 0) → _) ∧ ((I 0 1) = (nI 0) → _)
    refine ⟨fun c0 => ?_, fun c0 => ?_⟩
    · show mm_u _ _ _ _ _ _ [some (.ref 0), none] [] (((mm_fl b0 b1 b2), n1, n2, false, q, ad), I, J)
      obtain ⟨x1, y1, u1, w1, h1⟩ := (h.1 c0)
      show ∃ x y, x ≤ n1 ∧ y ≤ n2 ∧ mm_wc d 1010 [.ref 0] (((mm_fl b0 b1 b2), x, y, false, q, ad), I, J) _
      refine ⟨x1, y1, u1, w1, mm_wcm h1 ?_⟩
      rintro v τ ⟨z1, z2, ad1, I1, rfl, rfl, h1⟩
      refine mm_r3' ?_
      show mm_b _ _ _ _ _ [some (.ref 0), none] [.ref 70] (((mm_fl true b1 b2), (n1 - x1), (n2 - y1), false, q, ad1), I1, J)
      show mm_wc d 83 [.ref 70, .int (I1 15 0)] (((mm_fl true b1 b2), 0, 0, false, q, ad1), I1, J) _
      refine mm_wcm h1 ?_
      rintro v τ ⟨r2, I2, J2, rfl, rfl, h2⟩
      refine mm_r1' ⟨rfl, ?_⟩
      show mm_b _ _ _ _ _ [some (.ref 0), none] [.int r2] (((mm_fl true b1 b2), (n1 - x1), (n2 - y1), false, q, ad1), I2, J2)
      show (r2 = (-2) → _) ∧ (¬ r2 = (-2) → _)
      refine ⟨fun c1 => ?_, fun c1 => ?_⟩
      · show mm_u _ _ _ _ _ _ [some (.ref 0), some (.int r2)] [.ref 0] (((mm_fl true b1 b2), (n1 - x1), (n2 - y1), false, q, ad1), I2, J2)
        show mm_wc d 160 [.ref 0, .int (nI 0)] (((mm_fl true b1 b2), 0, 0, false, q, ad1), I2, J2) _
        refine mm_wcm (h2.1 c1) ?_
        rintro v τ ⟨r3, I3, J3, rfl, rfl, h3⟩
        refine mm_r1' ⟨rfl, ?_⟩
        exact h3
      · show mm_b _ _ _ _ _ [some (.ref 0), some (.int r2)] [.ref 0] (((mm_fl true b1 b2), (n1 - x1), (n2 - y1), false, q, ad1), I2, J2)
        show ((I2 32 8) < r2 → _) ∧ (¬ (I2 32 8) < r2 → _)
        refine ⟨fun c2 => ?_, fun c2 => ?_⟩
        · show mm_u _ _ _ _ _ _ [some (.ref 0), some (.int r2)] [.ref 0] (((mm_fl true b1 b2), (n1 - x1), (n2 - y1), false, q, ad1), I2, J2)
          show mm_wc d 160 [.ref 0, .int (nI 0)] (((mm_fl true b1 b2), 0, 0, false, q, ad1), I2, J2) _
          refine mm_wcm ((h2.2 c1).1 c2) ?_
          rintro v τ ⟨r4, I4, J4, rfl, rfl, h4⟩
          refine mm_r1' ⟨rfl, ?_⟩
          exact h4
        · show mm_b _ _ _ _ _ [some (.ref 0), some (.int r2)] [.ref 0] (((mm_fl true b1 b2), (n1 - x1), (n2 - y1), false, q, ad1), I2, J2)
          show mm_wc d 160 [.ref 0, .int (nI 1)] (((mm_fl true b1 b2), 0, 0, false, q, ad1), I2, J2) _
          refine mm_wcm ((h2.2 c1).2 c2) ?_
          rintro v τ ⟨r5, I5, J5, rfl, rfl, h5⟩
          refine mm_r1' ⟨rfl, ?_⟩
          exact h5
    · show mm_b _ _ _ _ _ [some (.ref 0), none] [] (((mm_fl b0 b1 b2), n1, n2, false, q, ad), I, J)
      show mm_wc d 159 [.ref 0, .int (nI 1)] (((mm_fl b0 b1 b2), 0, 0, false, q, ad), I, J) _
      refine mm_wcm (h.2 c0) ?_
      rintro v τ ⟨r6, I6, J6, rfl, rfl, h6⟩
      refine mm_r1' ⟨rfl, ?_⟩
      exact h6
  · refine mm_call (c := 134) rfl rfl ?_
    refine mm_go [] 80 ?_
    show (¬ (I 0 1) = (nI 0) → _) ∧ ((I 0 1) = (nI 0) → _)
    refine ⟨fun c0 => ?_, fun c0 => ?_⟩
    · show mm_u _ _ _ _ _ _ [some (.ref 0), none] [] (((mm_fl b0 b1 b2), n1, n2, true, q, ad), I, J)
      obtain ⟨x1, y1, u1, w1, h1⟩ := (h.1 c0)
      show ∃ x y, x ≤ n1 ∧ y ≤ n2 ∧ mm_wc d 1010 [.ref 0] (((mm_fl b0 b1 b2), x, y, true, q, ad), I, J) _
      refine ⟨x1, y1, u1, w1, mm_wcm h1 ?_⟩
      rintro v τ ⟨z1, z2, ad1, I1, rfl, rfl, h1⟩
      refine mm_r3' ?_
      show mm_b _ _ _ _ _ [some (.ref 0), none] [.ref 70] (((mm_fl true b1 b2), (n1 - x1), (n2 - y1), true, q, ad1), I1, J)
      show mm_wc d 83 [.ref 70, .int (I1 15 0)] (((mm_fl true b1 b2), 0, 0, true, q, ad1), I1, J) _
      refine mm_wcm h1 ?_
      rintro v τ ⟨r2, I2, J2, rfl, rfl, h2⟩
      refine mm_r1' ⟨rfl, ?_⟩
      show mm_b _ _ _ _ _ [some (.ref 0), none] [.int r2] (((mm_fl true b1 b2), (n1 - x1), (n2 - y1), true, q, ad1), I2, J2)
      show (r2 = (-2) → _) ∧ (¬ r2 = (-2) → _)
      refine ⟨fun c1 => ?_, fun c1 => ?_⟩
      · show mm_u _ _ _ _ _ _ [some (.ref 0), some (.int r2)] [.ref 0] (((mm_fl true b1 b2), (n1 - x1), (n2 - y1), true, q, ad1), I2, J2)
        show mm_wc d 160 [.ref 0, .int (nI 0)] (((mm_fl true b1 b2), 0, 0, true, q, ad1), I2, J2) _
        refine mm_wcm (h2.1 c1) ?_
        rintro v τ ⟨r3, I3, J3, rfl, rfl, h3⟩
        refine mm_r1' ⟨rfl, ?_⟩
        exact h3
      · show mm_b _ _ _ _ _ [some (.ref 0), some (.int r2)] [.ref 0] (((mm_fl true b1 b2), (n1 - x1), (n2 - y1), true, q, ad1), I2, J2)
        show ((I2 18 8) < r2 → _) ∧ (¬ (I2 18 8) < r2 → _)
        refine ⟨fun c2 => ?_, fun c2 => ?_⟩
        · show mm_u _ _ _ _ _ _ [some (.ref 0), some (.int r2)] [.ref 0] (((mm_fl true b1 b2), (n1 - x1), (n2 - y1), true, q, ad1), I2, J2)
          show mm_wc d 160 [.ref 0, .int (nI 0)] (((mm_fl true b1 b2), 0, 0, true, q, ad1), I2, J2) _
          refine mm_wcm ((h2.2 c1).1 c2) ?_
          rintro v τ ⟨r4, I4, J4, rfl, rfl, h4⟩
          refine mm_r1' ⟨rfl, ?_⟩
          exact h4
        · show mm_b _ _ _ _ _ [some (.ref 0), some (.int r2)] [.ref 0] (((mm_fl true b1 b2), (n1 - x1), (n2 - y1), true, q, ad1), I2, J2)
          show mm_wc d 160 [.ref 0, .int (nI 1)] (((mm_fl true b1 b2), 0, 0, true, q, ad1), I2, J2) _
          refine mm_wcm ((h2.2 c1).2 c2) ?_
          rintro v τ ⟨r5, I5, J5, rfl, rfl, h5⟩
          refine mm_r1' ⟨rfl, ?_⟩
          exact h5
    · show mm_b _ _ _ _ _ [some (.ref 0), none] [] (((mm_fl b0 b1 b2), n1, n2, true, q, ad), I, J)
      show mm_wc d 159 [.ref 0, .int (nI 1)] (((mm_fl b0 b1 b2), 0, 0, true, q, ad), I, J) _
      refine mm_wcm (h.2 c0) ?_
      rintro v τ ⟨r6, I6, J6, rfl, rfl, h6⟩
      refine mm_r1' ⟨rfl, ?_⟩
      exact h6
/- 135 ThreeBreaths walk -/
theorem fx_135 {d : Nat} {x0 : Int32} {x1 : Int32} {b0 b1 b2 : Bool} {n1 n2 : Nat} {p q : Bool} {ad : Nat → Nat} {I : mmI} {J : mmJ} {Q : mmQ} (h : mm_wc d 155 [.ref 0, .int x0] (((mm_fl b0 b1 b2), 0, 0, p, q, ad), I, J) (fun v τ => ∃ r1 I1 J1, v = some (.int r1) ∧ τ = (((mm_fl b0 b1 b2), 0, 0, p, q, ad), I1, J1) ∧ ((r1 = (nI 0) → mm_wc d 159 [.ref 0, .int (nI 1)] (((mm_fl b0 b1 b2), 0, 0, p, q, ad), I1, J1) (fun v τ => ∃ r2 I2 J2, v = some (.int r2) ∧ τ = (((mm_fl b0 b1 b2), 0, 0, p, q, ad), I2, J2) ∧ Q (some (.int r2)) (((mm_fl b0 b1 b2), n1, n2, p, q, ad), I2, J2))) ∧ (¬ r1 = (nI 0) → mm_wc d 154 [.ref 0, .int x1] (((mm_fl b0 b1 b2), 0, 0, p, q, ad), I1, J1) (fun v τ => ∃ r3 I3 J3, v = some (.int r3) ∧ τ = (((mm_fl b0 b1 b2), 0, 0, p, q, ad), I3, J3) ∧ ((¬ r3 = (nI 0) → ∃ x4 y4, x4 ≤ n1 ∧ y4 ≤ n2 ∧ mm_wc d 1010 [.ref 0] (((mm_fl b0 b1 b2), x4, y4, p, q, ad), I3, J3) (fun v τ => ∃ z1 z2 ad4 I4, v = some (.ref 70) ∧ τ = (((mm_fl true b1 b2), z1, z2, p, q, ad4), I4, J3) ∧ mm_wc d 96 [.ref 70, .int (I4 15 0), .int x0, .int x1] (((mm_fl true b1 b2), 0, 0, p, q, ad4), I4, J3) (fun v τ => ∃ r5 I5 J5, v = some (.int r5) ∧ τ = (((mm_fl true b1 b2), 0, 0, p, q, ad4), I5, J5) ∧ mm_wc d 160 [.ref 0, .int r5] (((mm_fl true b1 b2), 0, 0, p, q, ad4), I5, J5) (fun v τ => ∃ r6 I6 J6, v = some (.int r6) ∧ τ = (((mm_fl true b1 b2), 0, 0, p, q, ad4), I6, J6) ∧ Q (some (.int r6)) (((mm_fl true b1 b2), (n1 - x4), (n2 - y4), p, q, ad4), I6, J6))))) ∧ (r3 = (nI 0) → mm_wc d 159 [.ref 0, .int (nI 1)] (((mm_fl b0 b1 b2), 0, 0, p, q, ad), I3, J3) (fun v τ => ∃ r7 I7 J7, v = some (.int r7) ∧ τ = (((mm_fl b0 b1 b2), 0, 0, p, q, ad), I7, J7) ∧ Q (some (.int r7)) (((mm_fl b0 b1 b2), n1, n2, p, q, ad), I7, J7))))))))) : mm_wc (d + 1) 135 [.ref 0, .int x0, .int x1] (((mm_fl b0 b1 b2), n1, n2, p, q, ad), I, J) Q := by
  refine mm_call (c := 135) rfl rfl ?_
  refine mm_go [] 80 ?_
  show mm_wc d 155 [.ref 0, .int x0] (((mm_fl b0 b1 b2), 0, 0, p, q, ad), I, J) _
  refine mm_wcm h ?_
  rintro v τ ⟨r1, I1, J1, rfl, rfl, h1⟩
  refine mm_r1' ⟨rfl, ?_⟩
  show mm_b _ _ _ _ _ [some (.ref 0), some (.int x0), some (.int x1)] [.int r1] (((mm_fl b0 b1 b2), n1, n2, p, q, ad), I1, J1)
  show (r1 = (nI 0) → _) ∧ (¬ r1 = (nI 0) → _)
  refine ⟨fun c0 => ?_, fun c0 => ?_⟩
  · show mm_u _ _ _ _ _ _ [some (.ref 0), some (.int x0), some (.int x1)] [] (((mm_fl b0 b1 b2), n1, n2, p, q, ad), I1, J1)
    show mm_wc d 159 [.ref 0, .int (nI 1)] (((mm_fl b0 b1 b2), 0, 0, p, q, ad), I1, J1) _
    refine mm_wcm (h1.1 c0) ?_
    rintro v τ ⟨r2, I2, J2, rfl, rfl, h2⟩
    refine mm_r1' ⟨rfl, ?_⟩
    exact h2
  · show mm_b _ _ _ _ _ [some (.ref 0), some (.int x0), some (.int x1)] [] (((mm_fl b0 b1 b2), n1, n2, p, q, ad), I1, J1)
    show mm_wc d 154 [.ref 0, .int x1] (((mm_fl b0 b1 b2), 0, 0, p, q, ad), I1, J1) _
    refine mm_wcm (h1.2 c0) ?_
    rintro v τ ⟨r3, I3, J3, rfl, rfl, h3⟩
    refine mm_r1' ⟨rfl, ?_⟩
    show mm_b _ _ _ _ _ [some (.ref 0), some (.int x0), some (.int x1)] [.int r3] (((mm_fl b0 b1 b2), n1, n2, p, q, ad), I3, J3)
    show (¬ r3 = (nI 0) → _) ∧ (r3 = (nI 0) → _)
    refine ⟨fun c1 => ?_, fun c1 => ?_⟩
    · show mm_u _ _ _ _ _ _ [some (.ref 0), some (.int x0), some (.int x1)] [] (((mm_fl b0 b1 b2), n1, n2, p, q, ad), I3, J3)
      obtain ⟨x4, y4, u4, w4, h4⟩ := (h3.1 c1)
      show ∃ x y, x ≤ n1 ∧ y ≤ n2 ∧ mm_wc d 1010 [.ref 0] (((mm_fl b0 b1 b2), x, y, p, q, ad), I3, J3) _
      refine ⟨x4, y4, u4, w4, mm_wcm h4 ?_⟩
      rintro v τ ⟨z1, z2, ad4, I4, rfl, rfl, h4⟩
      refine mm_r3' ?_
      show mm_b _ _ _ _ _ [some (.ref 0), some (.int x0), some (.int x1)] [.ref 70, .ref 0] (((mm_fl true b1 b2), (n1 - x4), (n2 - y4), p, q, ad4), I4, J3)
      show mm_wc d 96 [.ref 70, .int (I4 15 0), .int x0, .int x1] (((mm_fl true b1 b2), 0, 0, p, q, ad4), I4, J3) _
      refine mm_wcm h4 ?_
      rintro v τ ⟨r5, I5, J5, rfl, rfl, h5⟩
      refine mm_r1' ⟨rfl, ?_⟩
      show mm_b _ _ _ _ _ [some (.ref 0), some (.int x0), some (.int x1)] [.int r5, .ref 0] (((mm_fl true b1 b2), (n1 - x4), (n2 - y4), p, q, ad4), I5, J5)
      show mm_wc d 160 [.ref 0, .int r5] (((mm_fl true b1 b2), 0, 0, p, q, ad4), I5, J5) _
      refine mm_wcm h5 ?_
      rintro v τ ⟨r6, I6, J6, rfl, rfl, h6⟩
      refine mm_r1' ⟨rfl, ?_⟩
      exact h6
    · show mm_b _ _ _ _ _ [some (.ref 0), some (.int x0), some (.int x1)] [] (((mm_fl b0 b1 b2), n1, n2, p, q, ad), I3, J3)
      show mm_wc d 159 [.ref 0, .int (nI 1)] (((mm_fl b0 b1 b2), 0, 0, p, q, ad), I3, J3) _
      refine mm_wcm (h3.2 c1) ?_
      rintro v τ ⟨r7, I7, J7, rfl, rfl, h7⟩
      refine mm_r1' ⟨rfl, ?_⟩
      exact h7
/- 136 ThreeBreaths each -/
theorem fx_136 {d : Nat} {b0 b1 b2 : Bool} {n1 n2 : Nat} {p q : Bool} {ad : Nat → Nat} {I : mmI} {J : mmJ} {Q : mmQ} (h : ((¬ (I 0 1) = (nI 0) → ∃ x1 y1, x1 ≤ n1 ∧ y1 ≤ n2 ∧ mm_wc d 1010 [.ref 0] (((mm_fl b0 b1 b2), x1, y1, p, q, ad), I, J) (fun v τ => ∃ z1 z2 ad1 I1, v = some (.ref 70) ∧ τ = (((mm_fl true b1 b2), z1, z2, p, q, ad1), I1, J) ∧ mm_wc d 100 [.ref 70, .int (I1 15 0)] (((mm_fl true b1 b2), 0, 0, p, q, ad1), I1, J) (fun v τ => ∃ r2 I2 J2, v = some (.int r2) ∧ τ = (((mm_fl true b1 b2), 0, 0, p, q, ad1), I2, J2) ∧ ((¬ r2 = (-2) → mm_wc d 278 [.int r2] (((mm_fl true b1 b2), 0, 0, p, q, ad1), I2, J2) (fun v τ => ∃ r3 I3 J3, v = some (.int r3) ∧ τ = (((mm_fl true b1 b2), 0, 0, p, q, ad1), I3, J3) ∧ mm_wc d 160 [.ref 0, .int r3] (((mm_fl true b1 b2), 0, 0, p, q, ad1), I3, J3) (fun v τ => ∃ r4 I4 J4, v = some (.int r4) ∧ τ = (((mm_fl true b1 b2), 0, 0, p, q, ad1), I4, J4) ∧ Q (some (.int r4)) (((mm_fl true b1 b2), (n1 - x1), (n2 - y1), p, q, ad1), I4, J4)))) ∧ (r2 = (-2) → mm_wc d 160 [.ref 0, .int (-2)] (((mm_fl true b1 b2), 0, 0, p, q, ad1), I2, J2) (fun v τ => ∃ r5 I5 J5, v = some (.int r5) ∧ τ = (((mm_fl true b1 b2), 0, 0, p, q, ad1), I5, J5) ∧ Q (some (.int r5)) (((mm_fl true b1 b2), (n1 - x1), (n2 - y1), p, q, ad1), I5, J5))))))) ∧ ((I 0 1) = (nI 0) → mm_wc d 159 [.ref 0, .int (nI 1)] (((mm_fl b0 b1 b2), 0, 0, p, q, ad), I, J) (fun v τ => ∃ r6 I6 J6, v = some (.int r6) ∧ τ = (((mm_fl b0 b1 b2), 0, 0, p, q, ad), I6, J6) ∧ Q (some (.int r6)) (((mm_fl b0 b1 b2), n1, n2, p, q, ad), I6, J6))))) : mm_wc (d + 1) 136 [.ref 0] (((mm_fl b0 b1 b2), n1, n2, p, q, ad), I, J) Q := by
  refine mm_call (c := 136) rfl rfl ?_
  refine mm_go [] 80 ?_
  show (¬ (I 0 1) = (nI 0) → _) ∧ ((I 0 1) = (nI 0) → _)
  refine ⟨fun c0 => ?_, fun c0 => ?_⟩
  · show mm_u _ _ _ _ _ _ [some (.ref 0), none] [] (((mm_fl b0 b1 b2), n1, n2, p, q, ad), I, J)
    obtain ⟨x1, y1, u1, w1, h1⟩ := (h.1 c0)
    show ∃ x y, x ≤ n1 ∧ y ≤ n2 ∧ mm_wc d 1010 [.ref 0] (((mm_fl b0 b1 b2), x, y, p, q, ad), I, J) _
    refine ⟨x1, y1, u1, w1, mm_wcm h1 ?_⟩
    rintro v τ ⟨z1, z2, ad1, I1, rfl, rfl, h1⟩
    refine mm_r3' ?_
    show mm_b _ _ _ _ _ [some (.ref 0), none] [.ref 70] (((mm_fl true b1 b2), (n1 - x1), (n2 - y1), p, q, ad1), I1, J)
    show mm_wc d 100 [.ref 70, .int (I1 15 0)] (((mm_fl true b1 b2), 0, 0, p, q, ad1), I1, J) _
    refine mm_wcm h1 ?_
    rintro v τ ⟨r2, I2, J2, rfl, rfl, h2⟩
    refine mm_r1' ⟨rfl, ?_⟩
    show mm_b _ _ _ _ _ [some (.ref 0), none] [.int r2] (((mm_fl true b1 b2), (n1 - x1), (n2 - y1), p, q, ad1), I2, J2)
    show (¬ r2 = (-2) → _) ∧ (r2 = (-2) → _)
    refine ⟨fun c1 => ?_, fun c1 => ?_⟩
    · show mm_u _ _ _ _ _ _ [some (.ref 0), some (.int r2)] [.ref 0] (((mm_fl true b1 b2), (n1 - x1), (n2 - y1), p, q, ad1), I2, J2)
      show mm_wc d 278 [.int r2] (((mm_fl true b1 b2), 0, 0, p, q, ad1), I2, J2) _
      refine mm_wcm (h2.1 c1) ?_
      rintro v τ ⟨r3, I3, J3, rfl, rfl, h3⟩
      refine mm_r1' ⟨rfl, ?_⟩
      show mm_b _ _ _ _ _ [none, some (.int r2)] [.int r3, .ref 0] (((mm_fl true b1 b2), (n1 - x1), (n2 - y1), p, q, ad1), I3, J3)
      show mm_wc d 160 [.ref 0, .int r3] (((mm_fl true b1 b2), 0, 0, p, q, ad1), I3, J3) _
      refine mm_wcm h3 ?_
      rintro v τ ⟨r4, I4, J4, rfl, rfl, h4⟩
      refine mm_r1' ⟨rfl, ?_⟩
      exact h4
    · show mm_b _ _ _ _ _ [some (.ref 0), some (.int r2)] [.ref 0] (((mm_fl true b1 b2), (n1 - x1), (n2 - y1), p, q, ad1), I2, J2)
      show mm_wc d 160 [.ref 0, .int (-2)] (((mm_fl true b1 b2), 0, 0, p, q, ad1), I2, J2) _
      refine mm_wcm (h2.2 c1) ?_
      rintro v τ ⟨r5, I5, J5, rfl, rfl, h5⟩
      refine mm_r1' ⟨rfl, ?_⟩
      exact h5
  · show mm_b _ _ _ _ _ [some (.ref 0), none] [] (((mm_fl b0 b1 b2), n1, n2, p, q, ad), I, J)
    show mm_wc d 159 [.ref 0, .int (nI 1)] (((mm_fl b0 b1 b2), 0, 0, p, q, ad), I, J) _
    refine mm_wcm (h.2 c0) ?_
    rintro v τ ⟨r6, I6, J6, rfl, rfl, h6⟩
    refine mm_r1' ⟨rfl, ?_⟩
    exact h6
/- 137 ThreeBreaths team -/
theorem fx_137 {d : Nat} {b0 b1 b2 : Bool} {n1 n2 : Nat} {p q : Bool} {ad : Nat → Nat} {I : mmI} {J : mmJ} {Q : mmQ} (h : (((I 0 1) = (nI 0) → mm_wc d 159 [.ref 0, .int (nI 1)] (((mm_fl b0 b1 b2), 0, 0, p, q, ad), I, J) (fun v τ => ∃ r1 I1 J1, v = some (.int r1) ∧ τ = (((mm_fl b0 b1 b2), 0, 0, p, q, ad), I1, J1) ∧ Q (some (.int r1)) (((mm_fl b0 b1 b2), n1, n2, p, q, ad), I1, J1))) ∧ (¬ (I 0 1) = (nI 0) → ∃ x2 y2, x2 ≤ n1 ∧ y2 ≤ n2 ∧ mm_wc d 1010 [.ref 0] (((mm_fl b0 b1 b2), x2, y2, p, q, ad), I, J) (fun v τ => ∃ z1 z2 ad2 I2, v = some (.ref 70) ∧ τ = (((mm_fl true b1 b2), z1, z2, p, q, ad2), I2, J) ∧ mm_wc d 100 [.ref 70, .int (I2 15 0)] (((mm_fl true b1 b2), 0, 0, p, q, ad2), I2, J) (fun v τ => ∃ r3 I3 J3, v = some (.int r3) ∧ τ = (((mm_fl true b1 b2), 0, 0, p, q, ad2), I3, J3) ∧ mm_wc d 160 [.ref 0, .int r3] (((mm_fl true b1 b2), 0, 0, p, q, ad2), I3, J3) (fun v τ => ∃ r4 I4 J4, v = some (.int r4) ∧ τ = (((mm_fl true b1 b2), 0, 0, p, q, ad2), I4, J4) ∧ Q (some (.int r4)) (((mm_fl true b1 b2), (n1 - x2), (n2 - y2), p, q, ad2), I4, J4))))))) : mm_wc (d + 1) 137 [.ref 0] (((mm_fl b0 b1 b2), n1, n2, p, q, ad), I, J) Q := by
  refine mm_call (c := 137) rfl rfl ?_
  refine mm_go [] 80 ?_
  show ((I 0 1) = (nI 0) → _) ∧ (¬ (I 0 1) = (nI 0) → _)
  refine ⟨fun c0 => ?_, fun c0 => ?_⟩
  · show mm_u _ _ _ _ _ _ [some (.ref 0)] [] (((mm_fl b0 b1 b2), n1, n2, p, q, ad), I, J)
    show mm_wc d 159 [.ref 0, .int (nI 1)] (((mm_fl b0 b1 b2), 0, 0, p, q, ad), I, J) _
    refine mm_wcm (h.1 c0) ?_
    rintro v τ ⟨r1, I1, J1, rfl, rfl, h1⟩
    refine mm_r1' ⟨rfl, ?_⟩
    exact h1
  · show mm_b _ _ _ _ _ [some (.ref 0)] [] (((mm_fl b0 b1 b2), n1, n2, p, q, ad), I, J)
    obtain ⟨x2, y2, u2, w2, h2⟩ := (h.2 c0)
    show ∃ x y, x ≤ n1 ∧ y ≤ n2 ∧ mm_wc d 1010 [.ref 0] (((mm_fl b0 b1 b2), x, y, p, q, ad), I, J) _
    refine ⟨x2, y2, u2, w2, mm_wcm h2 ?_⟩
    rintro v τ ⟨z1, z2, ad2, I2, rfl, rfl, h2⟩
    refine mm_r3' ?_
    show mm_b _ _ _ _ _ [some (.ref 0)] [.ref 70, .ref 0] (((mm_fl true b1 b2), (n1 - x2), (n2 - y2), p, q, ad2), I2, J)
    show mm_wc d 100 [.ref 70, .int (I2 15 0)] (((mm_fl true b1 b2), 0, 0, p, q, ad2), I2, J) _
    refine mm_wcm h2 ?_
    rintro v τ ⟨r3, I3, J3, rfl, rfl, h3⟩
    refine mm_r1' ⟨rfl, ?_⟩
    show mm_b _ _ _ _ _ [some (.ref 0)] [.int r3, .ref 0] (((mm_fl true b1 b2), (n1 - x2), (n2 - y2), p, q, ad2), I3, J3)
    show mm_wc d 160 [.ref 0, .int r3] (((mm_fl true b1 b2), 0, 0, p, q, ad2), I3, J3) _
    refine mm_wcm h3 ?_
    rintro v τ ⟨r4, I4, J4, rfl, rfl, h4⟩
    refine mm_r1' ⟨rfl, ?_⟩
    exact h4
/- 138 ThreeBreaths greedyEnd -/
theorem fx_138 {d : Nat} {b0 b1 b2 : Bool} {n1 n2 : Nat} {p q : Bool} {ad : Nat → Nat} {I : mmI} {J : mmJ} {Q : mmQ} (h : (((I 0 1) = (nI 0) → mm_wc d 159 [.ref 0, .int (nI 1)] (((mm_fl b0 b1 b2), 0, 0, p, q, ad), I, J) (fun v τ => ∃ r1 I1 J1, v = some (.int r1) ∧ τ = (((mm_fl b0 b1 b2), 0, 0, p, q, ad), I1, J1) ∧ Q (some (.int r1)) (((mm_fl b0 b1 b2), n1, n2, p, q, ad), I1, J1))) ∧ (¬ (I 0 1) = (nI 0) → mm_wc d 27 [.ref 6, .int (I 15 0)] (((mm_fl b0 b1 b2), 0, 0, p, q, ad), I, J) (fun v τ => ∃ r2 I2 J2, v = some (.int r2) ∧ τ = (((mm_fl b0 b1 b2), 0, 0, p, q, ad), I2, J2) ∧ mm_wc d 18 [.ref 6, .int r2] (((mm_fl b0 b1 b2), 0, 0, p, q, ad), I2, J2) (fun v τ => ∃ r3 I3 J3, v = some (.int r3) ∧ τ = (((mm_fl b0 b1 b2), 0, 0, p, q, ad), I3, J3) ∧ mm_wc d 160 [.ref 0, .int r3] (((mm_fl b0 b1 b2), 0, 0, p, q, ad), I3, J3) (fun v τ => ∃ r4 I4 J4, v = some (.int r4) ∧ τ = (((mm_fl b0 b1 b2), 0, 0, p, q, ad), I4, J4) ∧ Q (some (.int r4)) (((mm_fl b0 b1 b2), n1, n2, p, q, ad), I4, J4))))))) : mm_wc (d + 1) 138 [.ref 0] (((mm_fl b0 b1 b2), n1, n2, p, q, ad), I, J) Q := by
  refine mm_call (c := 138) rfl rfl ?_
  refine mm_go [] 80 ?_
  show ((I 0 1) = (nI 0) → _) ∧ (¬ (I 0 1) = (nI 0) → _)
  refine ⟨fun c0 => ?_, fun c0 => ?_⟩
  · show mm_u _ _ _ _ _ _ [some (.ref 0)] [] (((mm_fl b0 b1 b2), n1, n2, p, q, ad), I, J)
    show mm_wc d 159 [.ref 0, .int (nI 1)] (((mm_fl b0 b1 b2), 0, 0, p, q, ad), I, J) _
    refine mm_wcm (h.1 c0) ?_
    rintro v τ ⟨r1, I1, J1, rfl, rfl, h1⟩
    refine mm_r1' ⟨rfl, ?_⟩
    exact h1
  · show mm_b _ _ _ _ _ [some (.ref 0)] [] (((mm_fl b0 b1 b2), n1, n2, p, q, ad), I, J)
    show mm_wc d 27 [.ref 6, .int (I 15 0)] (((mm_fl b0 b1 b2), 0, 0, p, q, ad), I, J) _
    refine mm_wcm (h.2 c0) ?_
    rintro v τ ⟨r2, I2, J2, rfl, rfl, h2⟩
    refine mm_r1' ⟨rfl, ?_⟩
    show mm_b _ _ _ _ _ [some (.ref 0)] [.int r2, .ref 6, .ref 0] (((mm_fl b0 b1 b2), n1, n2, p, q, ad), I2, J2)
    show mm_wc d 18 [.ref 6, .int r2] (((mm_fl b0 b1 b2), 0, 0, p, q, ad), I2, J2) _
    refine mm_wcm h2 ?_
    rintro v τ ⟨r3, I3, J3, rfl, rfl, h3⟩
    refine mm_r1' ⟨rfl, ?_⟩
    show mm_b _ _ _ _ _ [some (.ref 0)] [.int r3, .ref 0] (((mm_fl b0 b1 b2), n1, n2, p, q, ad), I3, J3)
    show mm_wc d 160 [.ref 0, .int r3] (((mm_fl b0 b1 b2), 0, 0, p, q, ad), I3, J3) _
    refine mm_wcm h3 ?_
    rintro v τ ⟨r4, I4, J4, rfl, rfl, h4⟩
    refine mm_r1' ⟨rfl, ?_⟩
    exact h4
/- 139 ThreeBreaths soonest -/
theorem fx_139 {d : Nat} {x0 : Int32} {b0 b1 b2 : Bool} {n1 n2 : Nat} {p q : Bool} {ad : Nat → Nat} {I : mmI} {J : mmJ} {Q : mmQ} (h : mm_wc d 153 [.ref 0, .int x0] (((mm_fl b0 b1 b2), 0, 0, p, q, ad), I, J) (fun v τ => ∃ r1 I1 J1, v = some (.int r1) ∧ τ = (((mm_fl b0 b1 b2), 0, 0, p, q, ad), I1, J1) ∧ ((¬ r1 = (nI 0) → ∃ x2 y2, x2 ≤ n1 ∧ y2 ≤ n2 ∧ mm_wc d 1010 [.ref 0] (((mm_fl b0 b1 b2), x2, y2, p, q, ad), I1, J1) (fun v τ => ∃ z1 z2 ad2 I2, v = some (.ref 70) ∧ τ = (((mm_fl true b1 b2), z1, z2, p, q, ad2), I2, J1) ∧ mm_wc d 88 [.ref 70, .int (I2 15 0), .int x0] (((mm_fl true b1 b2), 0, 0, p, q, ad2), I2, J1) (fun v τ => ∃ r3 I3 J3, v = some (.int r3) ∧ τ = (((mm_fl true b1 b2), 0, 0, p, q, ad2), I3, J3) ∧ mm_wc d 160 [.ref 0, .int r3] (((mm_fl true b1 b2), 0, 0, p, q, ad2), I3, J3) (fun v τ => ∃ r4 I4 J4, v = some (.int r4) ∧ τ = (((mm_fl true b1 b2), 0, 0, p, q, ad2), I4, J4) ∧ Q (some (.int r4)) (((mm_fl true b1 b2), (n1 - x2), (n2 - y2), p, q, ad2), I4, J4))))) ∧ (r1 = (nI 0) → mm_wc d 159 [.ref 0, .int (nI 1)] (((mm_fl b0 b1 b2), 0, 0, p, q, ad), I1, J1) (fun v τ => ∃ r5 I5 J5, v = some (.int r5) ∧ τ = (((mm_fl b0 b1 b2), 0, 0, p, q, ad), I5, J5) ∧ Q (some (.int r5)) (((mm_fl b0 b1 b2), n1, n2, p, q, ad), I5, J5)))))) : mm_wc (d + 1) 139 [.ref 0, .int x0] (((mm_fl b0 b1 b2), n1, n2, p, q, ad), I, J) Q := by
  refine mm_call (c := 139) rfl rfl ?_
  refine mm_go [] 80 ?_
  show mm_wc d 153 [.ref 0, .int x0] (((mm_fl b0 b1 b2), 0, 0, p, q, ad), I, J) _
  refine mm_wcm h ?_
  rintro v τ ⟨r1, I1, J1, rfl, rfl, h1⟩
  refine mm_r1' ⟨rfl, ?_⟩
  show mm_b _ _ _ _ _ [some (.ref 0), some (.int x0)] [.int r1] (((mm_fl b0 b1 b2), n1, n2, p, q, ad), I1, J1)
  show (¬ r1 = (nI 0) → _) ∧ (r1 = (nI 0) → _)
  refine ⟨fun c0 => ?_, fun c0 => ?_⟩
  · show mm_u _ _ _ _ _ _ [some (.ref 0), some (.int x0)] [] (((mm_fl b0 b1 b2), n1, n2, p, q, ad), I1, J1)
    obtain ⟨x2, y2, u2, w2, h2⟩ := (h1.1 c0)
    show ∃ x y, x ≤ n1 ∧ y ≤ n2 ∧ mm_wc d 1010 [.ref 0] (((mm_fl b0 b1 b2), x, y, p, q, ad), I1, J1) _
    refine ⟨x2, y2, u2, w2, mm_wcm h2 ?_⟩
    rintro v τ ⟨z1, z2, ad2, I2, rfl, rfl, h2⟩
    refine mm_r3' ?_
    show mm_b _ _ _ _ _ [some (.ref 0), some (.int x0)] [.ref 70, .ref 0] (((mm_fl true b1 b2), (n1 - x2), (n2 - y2), p, q, ad2), I2, J1)
    show mm_wc d 88 [.ref 70, .int (I2 15 0), .int x0] (((mm_fl true b1 b2), 0, 0, p, q, ad2), I2, J1) _
    refine mm_wcm h2 ?_
    rintro v τ ⟨r3, I3, J3, rfl, rfl, h3⟩
    refine mm_r1' ⟨rfl, ?_⟩
    show mm_b _ _ _ _ _ [some (.ref 0), some (.int x0)] [.int r3, .ref 0] (((mm_fl true b1 b2), (n1 - x2), (n2 - y2), p, q, ad2), I3, J3)
    show mm_wc d 160 [.ref 0, .int r3] (((mm_fl true b1 b2), 0, 0, p, q, ad2), I3, J3) _
    refine mm_wcm h3 ?_
    rintro v τ ⟨r4, I4, J4, rfl, rfl, h4⟩
    refine mm_r1' ⟨rfl, ?_⟩
    exact h4
  · show mm_b _ _ _ _ _ [some (.ref 0), some (.int x0)] [] (((mm_fl b0 b1 b2), n1, n2, p, q, ad), I1, J1)
    show mm_wc d 159 [.ref 0, .int (nI 1)] (((mm_fl b0 b1 b2), 0, 0, p, q, ad), I1, J1) _
    refine mm_wcm (h1.2 c0) ?_
    rintro v τ ⟨r5, I5, J5, rfl, rfl, h5⟩
    refine mm_r1' ⟨rfl, ?_⟩
    exact h5
/- 140 ThreeBreaths few -/
theorem fx_140 {d : Nat} {x0 : Int32} {b0 b1 b2 : Bool} {n1 n2 : Nat} {p q : Bool} {ad : Nat → Nat} {I : mmI} {J : mmJ} {Q : mmQ} (h : ((¬ (I 0 1) = (nI 0) → ((x0 < (nI 0) → mm_wc d 159 [.ref 0, .int (nI 2)] (((mm_fl b0 b1 b2), 0, 0, p, q, ad), I, J) (fun v τ => ∃ r1 I1 J1, v = some (.int r1) ∧ τ = (((mm_fl b0 b1 b2), 0, 0, p, q, ad), I1, J1) ∧ Q (some (.int r1)) (((mm_fl b0 b1 b2), n1, n2, p, q, ad), I1, J1))) ∧ (¬ x0 < (nI 0) → ((x0 ≤ (nI 9) → ∃ x2 y2, x2 ≤ n1 ∧ y2 ≤ n2 ∧ mm_wc d 1010 [.ref 0] (((mm_fl b0 b1 b2), x2, y2, p, q, ad), I, J) (fun v τ => ∃ z1 z2 ad2 I2, v = some (.ref 70) ∧ τ = (((mm_fl true b1 b2), z1, z2, p, q, ad2), I2, J) ∧ mm_wc d 104 [.ref 70, .int (I2 15 0), .int x0] (((mm_fl true b1 b2), 0, 0, p, q, ad2), I2, J) (fun v τ => ∃ r3 I3 J3, v = some (.int r3) ∧ τ = (((mm_fl true b1 b2), 0, 0, p, q, ad2), I3, J3) ∧ mm_wc d 160 [.ref 0, .int r3] (((mm_fl true b1 b2), 0, 0, p, q, ad2), I3, J3) (fun v τ => ∃ r4 I4 J4, v = some (.int r4) ∧ τ = (((mm_fl true b1 b2), 0, 0, p, q, ad2), I4, J4) ∧ Q (some (.int r4)) (((mm_fl true b1 b2), (n1 - x2), (n2 - y2), p, q, ad2), I4, J4))))) ∧ (¬ x0 ≤ (nI 9) → mm_wc d 159 [.ref 0, .int (nI 2)] (((mm_fl b0 b1 b2), 0, 0, p, q, ad), I, J) (fun v τ => ∃ r5 I5 J5, v = some (.int r5) ∧ τ = (((mm_fl b0 b1 b2), 0, 0, p, q, ad), I5, J5) ∧ Q (some (.int r5)) (((mm_fl b0 b1 b2), n1, n2, p, q, ad), I5, J5))))))) ∧ ((I 0 1) = (nI 0) → mm_wc d 159 [.ref 0, .int (nI 1)] (((mm_fl b0 b1 b2), 0, 0, p, q, ad), I, J) (fun v τ => ∃ r6 I6 J6, v = some (.int r6) ∧ τ = (((mm_fl b0 b1 b2), 0, 0, p, q, ad), I6, J6) ∧ Q (some (.int r6)) (((mm_fl b0 b1 b2), n1, n2, p, q, ad), I6, J6))))) : mm_wc (d + 1) 140 [.ref 0, .int x0] (((mm_fl b0 b1 b2), n1, n2, p, q, ad), I, J) Q := by
  refine mm_call (c := 140) rfl rfl ?_
  refine mm_go [] 80 ?_
  show (¬ (I 0 1) = (nI 0) → _) ∧ ((I 0 1) = (nI 0) → _)
  refine ⟨fun c0 => ?_, fun c0 => ?_⟩
  · show mm_u _ _ _ _ _ _ [some (.ref 0), some (.int x0)] [] (((mm_fl b0 b1 b2), n1, n2, p, q, ad), I, J)
    show (x0 < (nI 0) → _) ∧ (¬ x0 < (nI 0) → _)
    refine ⟨fun c1 => ?_, fun c1 => ?_⟩
    · show mm_u _ _ _ _ _ _ [some (.ref 0), some (.int x0)] [] (((mm_fl b0 b1 b2), n1, n2, p, q, ad), I, J)
      show mm_wc d 159 [.ref 0, .int (nI 2)] (((mm_fl b0 b1 b2), 0, 0, p, q, ad), I, J) _
      refine mm_wcm ((h.1 c0).1 c1) ?_
      rintro v τ ⟨r1, I1, J1, rfl, rfl, h1⟩
      refine mm_r1' ⟨rfl, ?_⟩
      exact h1
    · show mm_b _ _ _ _ _ [some (.ref 0), some (.int x0)] [] (((mm_fl b0 b1 b2), n1, n2, p, q, ad), I, J)
      show (x0 ≤ (nI 9) → _) ∧ (¬ x0 ≤ (nI 9) → _)
      refine ⟨fun c2 => ?_, fun c2 => ?_⟩
      · show mm_u _ _ _ _ _ _ [some (.ref 0), some (.int x0)] [] (((mm_fl b0 b1 b2), n1, n2, p, q, ad), I, J)
        obtain ⟨x2, y2, u2, w2, h2⟩ := (((h.1 c0).2 c1).1 c2)
        show ∃ x y, x ≤ n1 ∧ y ≤ n2 ∧ mm_wc d 1010 [.ref 0] (((mm_fl b0 b1 b2), x, y, p, q, ad), I, J) _
        refine ⟨x2, y2, u2, w2, mm_wcm h2 ?_⟩
        rintro v τ ⟨z1, z2, ad2, I2, rfl, rfl, h2⟩
        refine mm_r3' ?_
        show mm_b _ _ _ _ _ [some (.ref 0), some (.int x0)] [.ref 70, .ref 0] (((mm_fl true b1 b2), (n1 - x2), (n2 - y2), p, q, ad2), I2, J)
        show mm_wc d 104 [.ref 70, .int (I2 15 0), .int x0] (((mm_fl true b1 b2), 0, 0, p, q, ad2), I2, J) _
        refine mm_wcm h2 ?_
        rintro v τ ⟨r3, I3, J3, rfl, rfl, h3⟩
        refine mm_r1' ⟨rfl, ?_⟩
        show mm_b _ _ _ _ _ [some (.ref 0), some (.int x0)] [.int r3, .ref 0] (((mm_fl true b1 b2), (n1 - x2), (n2 - y2), p, q, ad2), I3, J3)
        show mm_wc d 160 [.ref 0, .int r3] (((mm_fl true b1 b2), 0, 0, p, q, ad2), I3, J3) _
        refine mm_wcm h3 ?_
        rintro v τ ⟨r4, I4, J4, rfl, rfl, h4⟩
        refine mm_r1' ⟨rfl, ?_⟩
        exact h4
      · show mm_b _ _ _ _ _ [some (.ref 0), some (.int x0)] [] (((mm_fl b0 b1 b2), n1, n2, p, q, ad), I, J)
        show mm_wc d 159 [.ref 0, .int (nI 2)] (((mm_fl b0 b1 b2), 0, 0, p, q, ad), I, J) _
        refine mm_wcm (((h.1 c0).2 c1).2 c2) ?_
        rintro v τ ⟨r5, I5, J5, rfl, rfl, h5⟩
        refine mm_r1' ⟨rfl, ?_⟩
        exact h5
  · show mm_b _ _ _ _ _ [some (.ref 0), some (.int x0)] [] (((mm_fl b0 b1 b2), n1, n2, p, q, ad), I, J)
    show mm_wc d 159 [.ref 0, .int (nI 1)] (((mm_fl b0 b1 b2), 0, 0, p, q, ad), I, J) _
    refine mm_wcm (h.2 c0) ?_
    rintro v τ ⟨r6, I6, J6, rfl, rfl, h6⟩
    refine mm_r1' ⟨rfl, ?_⟩
    exact h6
/- 141 ThreeBreaths chance -/
theorem fx_141 {d : Nat} {x0 : Int32} {x1 : Int32} {b0 b1 b2 : Bool} {n1 n2 : Nat} {p q : Bool} {ad : Nat → Nat} {I : mmI} {J : mmJ} {Q : mmQ} (h : mm_wc d 157 [.ref 0, .int x0, .int (nI 3)] (((mm_fl b0 b1 b2), 0, 0, p, q, ad), I, J) (fun v τ => ∃ r1 I1 J1, v = some (.int r1) ∧ τ = (((mm_fl b0 b1 b2), 0, 0, p, q, ad), I1, J1) ∧ ((r1 = (nI 0) → ∃ x2 y2, x2 ≤ n1 ∧ y2 ≤ n2 ∧ mm_wc d 1011 [.ref 0] (((mm_fl b0 b1 b2), x2, y2, p, q, ad), I1, J1) (fun v τ => ∃ z1 z2 ad2 I2, v = some (.ref 81) ∧ τ = (((mm_fl b0 true b2), z1, z2, p, q, ad2), I2, J1) ∧ mm_wc d 39 [.ref 81, .int (I2 15 0), .int x0] (((mm_fl b0 true b2), 0, 0, p, q, ad2), I2, J1) (fun v τ => ∃ r3 I3 J3, v = some (.int r3) ∧ τ = (((mm_fl b0 true b2), 0, 0, p, q, ad2), I3, J3) ∧ ∃ x4 y4, x4 ≤ (n1 - x2) ∧ y4 ≤ (n2 - y2) ∧ mm_wc d 1011 [.ref 0] (((mm_fl b0 true b2), x4, y4, p, q, ad2), I3, J3) (fun v τ => ∃ z1 z2 ad4 I4, v = some (.ref 81) ∧ τ = (((mm_fl b0 true b2), z1, z2, p, q, ad4), I4, J3) ∧ mm_wc d 38 [.ref 81, .int x0] (((mm_fl b0 true b2), 0, 0, p, q, ad4), I4, J3) (fun v τ => ∃ r5 I5 J5, v = some (.int r5) ∧ τ = (((mm_fl b0 true b2), 0, 0, p, q, ad4), I5, J5) ∧ mm_wc d 163 [.ref 0, .long (Int32.toInt64 r3), .long (Int32.toInt64 r5), .int x1] (((mm_fl b0 true b2), 0, 0, p, q, ad4), I5, J5) (fun v τ => ∃ r6 I6 J6, v = some (.long r6) ∧ τ = (((mm_fl b0 true b2), 0, 0, p, q, ad4), I6, J6) ∧ Q (some (.long r6)) (((mm_fl b0 true b2), ((n1 - x2) - x4), ((n2 - y2) - y4), p, q, ad4), I6, J6))))))) ∧ (¬ r1 = (nI 0) → Q (some (.long (-1))) (((mm_fl b0 b1 b2), n1, n2, p, q, ad), I1, J1))))) : mm_wc (d + 1) 141 [.ref 0, .int x0, .int x1] (((mm_fl b0 b1 b2), n1, n2, p, q, ad), I, J) Q := by
  refine mm_call (c := 141) rfl rfl ?_
  refine mm_go [] 80 ?_
  show mm_wc d 157 [.ref 0, .int x0, .int (nI 3)] (((mm_fl b0 b1 b2), 0, 0, p, q, ad), I, J) _
  refine mm_wcm h ?_
  rintro v τ ⟨r1, I1, J1, rfl, rfl, h1⟩
  refine mm_r1' ⟨rfl, ?_⟩
  show mm_b _ _ _ _ _ [some (.ref 0), some (.int x0), some (.int x1)] [.int r1] (((mm_fl b0 b1 b2), n1, n2, p, q, ad), I1, J1)
  show (r1 = (nI 0) → _) ∧ (¬ r1 = (nI 0) → _)
  refine ⟨fun c0 => ?_, fun c0 => ?_⟩
  · show mm_u _ _ _ _ _ _ [some (.ref 0), some (.int x0), some (.int x1)] [] (((mm_fl b0 b1 b2), n1, n2, p, q, ad), I1, J1)
    obtain ⟨x2, y2, u2, w2, h2⟩ := (h1.1 c0)
    show ∃ x y, x ≤ n1 ∧ y ≤ n2 ∧ mm_wc d 1011 [.ref 0] (((mm_fl b0 b1 b2), x, y, p, q, ad), I1, J1) _
    refine ⟨x2, y2, u2, w2, mm_wcm h2 ?_⟩
    rintro v τ ⟨z1, z2, ad2, I2, rfl, rfl, h2⟩
    refine mm_r3' ?_
    show mm_b _ _ _ _ _ [some (.ref 0), some (.int x0), some (.int x1)] [.ref 81, .ref 0] (((mm_fl b0 true b2), (n1 - x2), (n2 - y2), p, q, ad2), I2, J1)
    show mm_wc d 39 [.ref 81, .int (I2 15 0), .int x0] (((mm_fl b0 true b2), 0, 0, p, q, ad2), I2, J1) _
    refine mm_wcm h2 ?_
    rintro v τ ⟨r3, I3, J3, rfl, rfl, h3⟩
    refine mm_r1' ⟨rfl, ?_⟩
    show mm_b _ _ _ _ _ [some (.ref 0), some (.int x0), some (.int x1)] [.int r3, .ref 0] (((mm_fl b0 true b2), (n1 - x2), (n2 - y2), p, q, ad2), I3, J3)
    obtain ⟨x4, y4, u4, w4, h4⟩ := h3
    show ∃ x y, x ≤ (n1 - x2) ∧ y ≤ (n2 - y2) ∧ mm_wc d 1011 [.ref 0] (((mm_fl b0 true b2), x, y, p, q, ad2), I3, J3) _
    refine ⟨x4, y4, u4, w4, mm_wcm h4 ?_⟩
    rintro v τ ⟨z1, z2, ad4, I4, rfl, rfl, h4⟩
    refine mm_r3' ?_
    show mm_b _ _ _ _ _ [some (.ref 0), some (.int x0), some (.int x1)] [.ref 81, .long (Int32.toInt64 r3), .ref 0] (((mm_fl b0 true b2), ((n1 - x2) - x4), ((n2 - y2) - y4), p, q, ad4), I4, J3)
    show mm_wc d 38 [.ref 81, .int x0] (((mm_fl b0 true b2), 0, 0, p, q, ad4), I4, J3) _
    refine mm_wcm h4 ?_
    rintro v τ ⟨r5, I5, J5, rfl, rfl, h5⟩
    refine mm_r1' ⟨rfl, ?_⟩
    show mm_b _ _ _ _ _ [some (.ref 0), some (.int x0), some (.int x1)] [.int r5, .long (Int32.toInt64 r3), .ref 0] (((mm_fl b0 true b2), ((n1 - x2) - x4), ((n2 - y2) - y4), p, q, ad4), I5, J5)
    show mm_wc d 163 [.ref 0, .long (Int32.toInt64 r3), .long (Int32.toInt64 r5), .int x1] (((mm_fl b0 true b2), 0, 0, p, q, ad4), I5, J5) _
    refine mm_wcm h5 ?_
    rintro v τ ⟨r6, I6, J6, rfl, rfl, h6⟩
    refine mm_r2' ⟨rfl, ?_⟩
    exact h6
  · exact (h1.2 c0)
/- 142 ThreeBreaths best -/
theorem fx_142 {d : Nat} {x0 : Int32} {b0 b1 b2 : Bool} {n1 n2 : Nat} {p q : Bool} {ad : Nat → Nat} {I : mmI} {J : mmJ} {Q : mmQ} (h : mm_wc d 157 [.ref 0, .int x0, .int (nI 3)] (((mm_fl b0 b1 b2), 0, 0, p, q, ad), I, J) (fun v τ => ∃ r1 I1 J1, v = some (.int r1) ∧ τ = (((mm_fl b0 b1 b2), 0, 0, p, q, ad), I1, J1) ∧ ((r1 = (nI 0) → mm_wc d 18 [.ref 6, .int (I1 15 0)] (((mm_fl b0 b1 b2), 0, 0, p, q, ad), I1, J1) (fun v τ => ∃ r2 I2 J2, v = some (.int r2) ∧ τ = (((mm_fl b0 b1 b2), 0, 0, p, q, ad), I2, J2) ∧ ((¬ r2 = (nI 0) → ∃ x3 y3, x3 ≤ n1 ∧ y3 ≤ n2 ∧ mm_wc d 1011 [.ref 0] (((mm_fl b0 b1 b2), x3, y3, p, q, ad), I2, J2) (fun v τ => ∃ z1 z2 ad3 I3, v = some (.ref 81) ∧ τ = (((mm_fl b0 true b2), z1, z2, p, q, ad3), I3, J2) ∧ mm_wc d 41 [.ref 81, .int (I3 15 0), .int x0] (((mm_fl b0 true b2), 0, 0, p, q, ad3), I3, J2) (fun v τ => ∃ r4 I4 J4, v = some (.int r4) ∧ τ = (((mm_fl b0 true b2), 0, 0, p, q, ad3), I4, J4) ∧ mm_wc d 160 [.ref 0, .int r4] (((mm_fl b0 true b2), 0, 0, p, q, ad3), I4, J4) (fun v τ => ∃ r5 I5 J5, v = some (.int r5) ∧ τ = (((mm_fl b0 true b2), 0, 0, p, q, ad3), I5, J5) ∧ Q (some (.int r5)) (((mm_fl b0 true b2), (n1 - x3), (n2 - y3), p, q, ad3), I5, J5))))) ∧ (r2 = (nI 0) → mm_wc d 160 [.ref 0, .int (-2)] (((mm_fl b0 b1 b2), 0, 0, p, q, ad), I2, J2) (fun v τ => ∃ r6 I6 J6, v = some (.int r6) ∧ τ = (((mm_fl b0 b1 b2), 0, 0, p, q, ad), I6, J6) ∧ Q (some (.int r6)) (((mm_fl b0 b1 b2), n1, n2, p, q, ad), I6, J6)))))) ∧ (¬ r1 = (nI 0) → Q (some (.int (-1))) (((mm_fl b0 b1 b2), n1, n2, p, q, ad), I1, J1))))) : mm_wc (d + 1) 142 [.ref 0, .int x0] (((mm_fl b0 b1 b2), n1, n2, p, q, ad), I, J) Q := by
  refine mm_call (c := 142) rfl rfl ?_
  refine mm_go [] 80 ?_
  show mm_wc d 157 [.ref 0, .int x0, .int (nI 3)] (((mm_fl b0 b1 b2), 0, 0, p, q, ad), I, J) _
  refine mm_wcm h ?_
  rintro v τ ⟨r1, I1, J1, rfl, rfl, h1⟩
  refine mm_r1' ⟨rfl, ?_⟩
  show mm_b _ _ _ _ _ [some (.ref 0), some (.int x0)] [.int r1] (((mm_fl b0 b1 b2), n1, n2, p, q, ad), I1, J1)
  show (r1 = (nI 0) → _) ∧ (¬ r1 = (nI 0) → _)
  refine ⟨fun c0 => ?_, fun c0 => ?_⟩
  · show mm_u _ _ _ _ _ _ [some (.ref 0), some (.int x0)] [] (((mm_fl b0 b1 b2), n1, n2, p, q, ad), I1, J1)
    show mm_wc d 18 [.ref 6, .int (I1 15 0)] (((mm_fl b0 b1 b2), 0, 0, p, q, ad), I1, J1) _
    refine mm_wcm (h1.1 c0) ?_
    rintro v τ ⟨r2, I2, J2, rfl, rfl, h2⟩
    refine mm_r1' ⟨rfl, ?_⟩
    show mm_b _ _ _ _ _ [some (.ref 0), some (.int x0)] [.int r2, .ref 0] (((mm_fl b0 b1 b2), n1, n2, p, q, ad), I2, J2)
    show (¬ r2 = (nI 0) → _) ∧ (r2 = (nI 0) → _)
    refine ⟨fun c1 => ?_, fun c1 => ?_⟩
    · show mm_u _ _ _ _ _ _ [some (.ref 0), some (.int x0)] [.ref 0] (((mm_fl b0 b1 b2), n1, n2, p, q, ad), I2, J2)
      obtain ⟨x3, y3, u3, w3, h3⟩ := (h2.1 c1)
      show ∃ x y, x ≤ n1 ∧ y ≤ n2 ∧ mm_wc d 1011 [.ref 0] (((mm_fl b0 b1 b2), x, y, p, q, ad), I2, J2) _
      refine ⟨x3, y3, u3, w3, mm_wcm h3 ?_⟩
      rintro v τ ⟨z1, z2, ad3, I3, rfl, rfl, h3⟩
      refine mm_r3' ?_
      show mm_b _ _ _ _ _ [some (.ref 0), some (.int x0)] [.ref 81, .ref 0] (((mm_fl b0 true b2), (n1 - x3), (n2 - y3), p, q, ad3), I3, J2)
      show mm_wc d 41 [.ref 81, .int (I3 15 0), .int x0] (((mm_fl b0 true b2), 0, 0, p, q, ad3), I3, J2) _
      refine mm_wcm h3 ?_
      rintro v τ ⟨r4, I4, J4, rfl, rfl, h4⟩
      refine mm_r1' ⟨rfl, ?_⟩
      show mm_b _ _ _ _ _ [some (.ref 0), some (.int x0)] [.int r4, .ref 0] (((mm_fl b0 true b2), (n1 - x3), (n2 - y3), p, q, ad3), I4, J4)
      show mm_wc d 160 [.ref 0, .int r4] (((mm_fl b0 true b2), 0, 0, p, q, ad3), I4, J4) _
      refine mm_wcm h4 ?_
      rintro v τ ⟨r5, I5, J5, rfl, rfl, h5⟩
      refine mm_r1' ⟨rfl, ?_⟩
      exact h5
    · show mm_b _ _ _ _ _ [some (.ref 0), some (.int x0)] [.ref 0] (((mm_fl b0 b1 b2), n1, n2, p, q, ad), I2, J2)
      show mm_wc d 160 [.ref 0, .int (-2)] (((mm_fl b0 b1 b2), 0, 0, p, q, ad), I2, J2) _
      refine mm_wcm (h2.2 c1) ?_
      rintro v τ ⟨r6, I6, J6, rfl, rfl, h6⟩
      refine mm_r1' ⟨rfl, ?_⟩
      exact h6
  · exact (h1.2 c0)
/- 143 ThreeBreaths content -/
theorem fx_143 {d : Nat} {x0 : Int32} {x1 : Int32} {b0 b1 b2 : Bool} {n1 n2 : Nat} {p q : Bool} {ad : Nat → Nat} {I : mmI} {J : mmJ} {Q : mmQ} (h : mm_wc d 157 [.ref 0, .int x0, .int (nI 3)] (((mm_fl b0 b1 b2), 0, 0, p, q, ad), I, J) (fun v τ => ∃ r1 I1 J1, v = some (.int r1) ∧ τ = (((mm_fl b0 b1 b2), 0, 0, p, q, ad), I1, J1) ∧ ((r1 = (nI 0) → ∃ x2 y2, x2 ≤ n1 ∧ y2 ≤ n2 ∧ mm_wc d 1011 [.ref 0] (((mm_fl b0 b1 b2), x2, y2, p, q, ad), I1, J1) (fun v τ => ∃ z1 z2 ad2 I2, v = some (.ref 81) ∧ τ = (((mm_fl b0 true b2), z1, z2, p, q, ad2), I2, J1) ∧ mm_wc d 40 [.ref 81, .int (I2 15 0), .int x0] (((mm_fl b0 true b2), 0, 0, p, q, ad2), I2, J1) (fun v τ => ∃ r3 I3 J3, v = some (.int r3) ∧ τ = (((mm_fl b0 true b2), 0, 0, p, q, ad2), I3, J3) ∧ ∃ x4 y4, x4 ≤ (n1 - x2) ∧ y4 ≤ (n2 - y2) ∧ mm_wc d 1011 [.ref 0] (((mm_fl b0 true b2), x4, y4, p, q, ad2), I3, J3) (fun v τ => ∃ z1 z2 ad4 I4, v = some (.ref 81) ∧ τ = (((mm_fl b0 true b2), z1, z2, p, q, ad4), I4, J3) ∧ mm_wc d 38 [.ref 81, .int x0] (((mm_fl b0 true b2), 0, 0, p, q, ad4), I4, J3) (fun v τ => ∃ r5 I5 J5, v = some (.int r5) ∧ τ = (((mm_fl b0 true b2), 0, 0, p, q, ad4), I5, J5) ∧ mm_wc d 163 [.ref 0, .long (Int32.toInt64 r3), .long (Int32.toInt64 r5), .int x1] (((mm_fl b0 true b2), 0, 0, p, q, ad4), I5, J5) (fun v τ => ∃ r6 I6 J6, v = some (.long r6) ∧ τ = (((mm_fl b0 true b2), 0, 0, p, q, ad4), I6, J6) ∧ Q (some (.long r6)) (((mm_fl b0 true b2), ((n1 - x2) - x4), ((n2 - y2) - y4), p, q, ad4), I6, J6))))))) ∧ (¬ r1 = (nI 0) → Q (some (.long (-1))) (((mm_fl b0 b1 b2), n1, n2, p, q, ad), I1, J1))))) : mm_wc (d + 1) 143 [.ref 0, .int x0, .int x1] (((mm_fl b0 b1 b2), n1, n2, p, q, ad), I, J) Q := by
  refine mm_call (c := 143) rfl rfl ?_
  refine mm_go [] 80 ?_
  show mm_wc d 157 [.ref 0, .int x0, .int (nI 3)] (((mm_fl b0 b1 b2), 0, 0, p, q, ad), I, J) _
  refine mm_wcm h ?_
  rintro v τ ⟨r1, I1, J1, rfl, rfl, h1⟩
  refine mm_r1' ⟨rfl, ?_⟩
  show mm_b _ _ _ _ _ [some (.ref 0), some (.int x0), some (.int x1)] [.int r1] (((mm_fl b0 b1 b2), n1, n2, p, q, ad), I1, J1)
  show (r1 = (nI 0) → _) ∧ (¬ r1 = (nI 0) → _)
  refine ⟨fun c0 => ?_, fun c0 => ?_⟩
  · show mm_u _ _ _ _ _ _ [some (.ref 0), some (.int x0), some (.int x1)] [] (((mm_fl b0 b1 b2), n1, n2, p, q, ad), I1, J1)
    obtain ⟨x2, y2, u2, w2, h2⟩ := (h1.1 c0)
    show ∃ x y, x ≤ n1 ∧ y ≤ n2 ∧ mm_wc d 1011 [.ref 0] (((mm_fl b0 b1 b2), x, y, p, q, ad), I1, J1) _
    refine ⟨x2, y2, u2, w2, mm_wcm h2 ?_⟩
    rintro v τ ⟨z1, z2, ad2, I2, rfl, rfl, h2⟩
    refine mm_r3' ?_
    show mm_b _ _ _ _ _ [some (.ref 0), some (.int x0), some (.int x1)] [.ref 81, .ref 0] (((mm_fl b0 true b2), (n1 - x2), (n2 - y2), p, q, ad2), I2, J1)
    show mm_wc d 40 [.ref 81, .int (I2 15 0), .int x0] (((mm_fl b0 true b2), 0, 0, p, q, ad2), I2, J1) _
    refine mm_wcm h2 ?_
    rintro v τ ⟨r3, I3, J3, rfl, rfl, h3⟩
    refine mm_r1' ⟨rfl, ?_⟩
    show mm_b _ _ _ _ _ [some (.ref 0), some (.int x0), some (.int x1)] [.int r3, .ref 0] (((mm_fl b0 true b2), (n1 - x2), (n2 - y2), p, q, ad2), I3, J3)
    obtain ⟨x4, y4, u4, w4, h4⟩ := h3
    show ∃ x y, x ≤ (n1 - x2) ∧ y ≤ (n2 - y2) ∧ mm_wc d 1011 [.ref 0] (((mm_fl b0 true b2), x, y, p, q, ad2), I3, J3) _
    refine ⟨x4, y4, u4, w4, mm_wcm h4 ?_⟩
    rintro v τ ⟨z1, z2, ad4, I4, rfl, rfl, h4⟩
    refine mm_r3' ?_
    show mm_b _ _ _ _ _ [some (.ref 0), some (.int x0), some (.int x1)] [.ref 81, .long (Int32.toInt64 r3), .ref 0] (((mm_fl b0 true b2), ((n1 - x2) - x4), ((n2 - y2) - y4), p, q, ad4), I4, J3)
    show mm_wc d 38 [.ref 81, .int x0] (((mm_fl b0 true b2), 0, 0, p, q, ad4), I4, J3) _
    refine mm_wcm h4 ?_
    rintro v τ ⟨r5, I5, J5, rfl, rfl, h5⟩
    refine mm_r1' ⟨rfl, ?_⟩
    show mm_b _ _ _ _ _ [some (.ref 0), some (.int x0), some (.int x1)] [.int r5, .long (Int32.toInt64 r3), .ref 0] (((mm_fl b0 true b2), ((n1 - x2) - x4), ((n2 - y2) - y4), p, q, ad4), I5, J5)
    show mm_wc d 163 [.ref 0, .long (Int32.toInt64 r3), .long (Int32.toInt64 r5), .int x1] (((mm_fl b0 true b2), 0, 0, p, q, ad4), I5, J5) _
    refine mm_wcm h5 ?_
    rintro v τ ⟨r6, I6, J6, rfl, rfl, h6⟩
    refine mm_r2' ⟨rfl, ?_⟩
    exact h6
  · exact (h1.2 c0)
/- 144 ThreeBreaths fits -/
theorem fx_144 {d : Nat} {x0 : Int32} {b0 b1 b2 : Bool} {n1 n2 : Nat} {p q : Bool} {ad : Nat → Nat} {I : mmI} {J : mmJ} {Q : mmQ} (h : mm_wc d 158 [.ref 0, .int x0] (((mm_fl b0 b1 b2), 0, 0, p, q, ad), I, J) (fun v τ => ∃ r1 I1 J1, v = some (.int r1) ∧ τ = (((mm_fl b0 b1 b2), 0, 0, p, q, ad), I1, J1) ∧ ((r1 = (nI 0) → ∃ x2 y2, x2 ≤ n1 ∧ y2 ≤ n2 ∧ mm_wc d 1012 [.ref 0] (((mm_fl b0 b1 b2), x2, y2, p, q, ad), I1, J1) (fun v τ => ∃ z1 z2 ad2 I2, v = some (.ref 96) ∧ τ = (((mm_fl b0 b1 true), z1, z2, p, q, ad2), I2, J1) ∧ mm_wc d 106 [.ref 96, .int x0] (((mm_fl b0 b1 true), 0, 0, p, q, ad2), I2, J1) (fun v τ => ∃ r3 I3 J3, v = some (.int r3) ∧ τ = (((mm_fl b0 b1 true), 0, 0, p, q, ad2), I3, J3) ∧ mm_wc d 160 [.ref 0, .int r3] (((mm_fl b0 b1 true), 0, 0, p, q, ad2), I3, J3) (fun v τ => ∃ r4 I4 J4, v = some (.int r4) ∧ τ = (((mm_fl b0 b1 true), 0, 0, p, q, ad2), I4, J4) ∧ Q (some (.int r4)) (((mm_fl b0 b1 true), (n1 - x2), (n2 - y2), p, q, ad2), I4, J4))))) ∧ (¬ r1 = (nI 0) → Q (some (.int (-1))) (((mm_fl b0 b1 b2), n1, n2, p, q, ad), I1, J1))))) : mm_wc (d + 1) 144 [.ref 0, .int x0] (((mm_fl b0 b1 b2), n1, n2, p, q, ad), I, J) Q := by
  refine mm_call (c := 144) rfl rfl ?_
  refine mm_go [] 80 ?_
  show mm_wc d 158 [.ref 0, .int x0] (((mm_fl b0 b1 b2), 0, 0, p, q, ad), I, J) _
  refine mm_wcm h ?_
  rintro v τ ⟨r1, I1, J1, rfl, rfl, h1⟩
  refine mm_r1' ⟨rfl, ?_⟩
  show mm_b _ _ _ _ _ [some (.ref 0), some (.int x0)] [.int r1] (((mm_fl b0 b1 b2), n1, n2, p, q, ad), I1, J1)
  show (r1 = (nI 0) → _) ∧ (¬ r1 = (nI 0) → _)
  refine ⟨fun c0 => ?_, fun c0 => ?_⟩
  · show mm_u _ _ _ _ _ _ [some (.ref 0), some (.int x0)] [] (((mm_fl b0 b1 b2), n1, n2, p, q, ad), I1, J1)
    obtain ⟨x2, y2, u2, w2, h2⟩ := (h1.1 c0)
    show ∃ x y, x ≤ n1 ∧ y ≤ n2 ∧ mm_wc d 1012 [.ref 0] (((mm_fl b0 b1 b2), x, y, p, q, ad), I1, J1) _
    refine ⟨x2, y2, u2, w2, mm_wcm h2 ?_⟩
    rintro v τ ⟨z1, z2, ad2, I2, rfl, rfl, h2⟩
    refine mm_r3' ?_
    show mm_b _ _ _ _ _ [some (.ref 0), some (.int x0)] [.ref 96, .ref 0] (((mm_fl b0 b1 true), (n1 - x2), (n2 - y2), p, q, ad2), I2, J1)
    show mm_wc d 106 [.ref 96, .int x0] (((mm_fl b0 b1 true), 0, 0, p, q, ad2), I2, J1) _
    refine mm_wcm h2 ?_
    rintro v τ ⟨r3, I3, J3, rfl, rfl, h3⟩
    refine mm_r1' ⟨rfl, ?_⟩
    show mm_b _ _ _ _ _ [some (.ref 0), some (.int x0)] [.int r3, .ref 0] (((mm_fl b0 b1 true), (n1 - x2), (n2 - y2), p, q, ad2), I3, J3)
    show mm_wc d 160 [.ref 0, .int r3] (((mm_fl b0 b1 true), 0, 0, p, q, ad2), I3, J3) _
    refine mm_wcm h3 ?_
    rintro v τ ⟨r4, I4, J4, rfl, rfl, h4⟩
    refine mm_r1' ⟨rfl, ?_⟩
    exact h4
  · exact (h1.2 c0)
/- 145 ThreeBreaths fitAt -/
theorem fx_145 {d : Nat} {x0 : Int32} {x1 : Int32} {b0 b1 b2 : Bool} {n1 n2 : Nat} {p q : Bool} {ad : Nat → Nat} {I : mmI} {J : mmJ} {Q : mmQ} (h : mm_wc d 158 [.ref 0, .int x0] (((mm_fl b0 b1 b2), 0, 0, p, q, ad), I, J) (fun v τ => ∃ r1 I1 J1, v = some (.int r1) ∧ τ = (((mm_fl b0 b1 b2), 0, 0, p, q, ad), I1, J1) ∧ ((r1 = (nI 0) → ∃ x2 y2, x2 ≤ n1 ∧ y2 ≤ n2 ∧ mm_wc d 1012 [.ref 0] (((mm_fl b0 b1 b2), x2, y2, p, q, ad), I1, J1) (fun v τ => ∃ z1 z2 ad2 I2, v = some (.ref 96) ∧ τ = (((mm_fl b0 b1 true), z1, z2, p, q, ad2), I2, J1) ∧ mm_wc d 107 [.ref 96, .int x0, .int x1] (((mm_fl b0 b1 true), 0, 0, p, q, ad2), I2, J1) (fun v τ => ∃ r3 I3 J3, v = some (.int r3) ∧ τ = (((mm_fl b0 b1 true), 0, 0, p, q, ad2), I3, J3) ∧ ((¬ r3 = (-1) → mm_wc d 160 [.ref 0, .int r3] (((mm_fl b0 b1 true), 0, 0, p, q, ad2), I3, J3) (fun v τ => ∃ r4 I4 J4, v = some (.int r4) ∧ τ = (((mm_fl b0 b1 true), 0, 0, p, q, ad2), I4, J4) ∧ Q (some (.int r4)) (((mm_fl b0 b1 true), (n1 - x2), (n2 - y2), p, q, ad2), I4, J4))) ∧ (r3 = (-1) → mm_wc d 159 [.ref 0, .int (nI 1)] (((mm_fl b0 b1 true), 0, 0, p, q, ad2), I3, J3) (fun v τ => ∃ r5 I5 J5, v = some (.int r5) ∧ τ = (((mm_fl b0 b1 true), 0, 0, p, q, ad2), I5, J5) ∧ Q (some (.int r5)) (((mm_fl b0 b1 true), (n1 - x2), (n2 - y2), p, q, ad2), I5, J5))))))) ∧ (¬ r1 = (nI 0) → Q (some (.int (-1))) (((mm_fl b0 b1 b2), n1, n2, p, q, ad), I1, J1))))) : mm_wc (d + 1) 145 [.ref 0, .int x0, .int x1] (((mm_fl b0 b1 b2), n1, n2, p, q, ad), I, J) Q := by
  refine mm_call (c := 145) rfl rfl ?_
  refine mm_go [] 80 ?_
  show mm_wc d 158 [.ref 0, .int x0] (((mm_fl b0 b1 b2), 0, 0, p, q, ad), I, J) _
  refine mm_wcm h ?_
  rintro v τ ⟨r1, I1, J1, rfl, rfl, h1⟩
  refine mm_r1' ⟨rfl, ?_⟩
  show mm_b _ _ _ _ _ [some (.ref 0), some (.int x0), some (.int x1), none] [.int r1] (((mm_fl b0 b1 b2), n1, n2, p, q, ad), I1, J1)
  show (r1 = (nI 0) → _) ∧ (¬ r1 = (nI 0) → _)
  refine ⟨fun c0 => ?_, fun c0 => ?_⟩
  · show mm_u _ _ _ _ _ _ [some (.ref 0), some (.int x0), some (.int x1), none] [] (((mm_fl b0 b1 b2), n1, n2, p, q, ad), I1, J1)
    obtain ⟨x2, y2, u2, w2, h2⟩ := (h1.1 c0)
    show ∃ x y, x ≤ n1 ∧ y ≤ n2 ∧ mm_wc d 1012 [.ref 0] (((mm_fl b0 b1 b2), x, y, p, q, ad), I1, J1) _
    refine ⟨x2, y2, u2, w2, mm_wcm h2 ?_⟩
    rintro v τ ⟨z1, z2, ad2, I2, rfl, rfl, h2⟩
    refine mm_r3' ?_
    show mm_b _ _ _ _ _ [some (.ref 0), some (.int x0), some (.int x1), none] [.ref 96] (((mm_fl b0 b1 true), (n1 - x2), (n2 - y2), p, q, ad2), I2, J1)
    show mm_wc d 107 [.ref 96, .int x0, .int x1] (((mm_fl b0 b1 true), 0, 0, p, q, ad2), I2, J1) _
    refine mm_wcm h2 ?_
    rintro v τ ⟨r3, I3, J3, rfl, rfl, h3⟩
    refine mm_r1' ⟨rfl, ?_⟩
    show mm_b _ _ _ _ _ [some (.ref 0), some (.int x0), some (.int x1), none] [.int r3] (((mm_fl b0 b1 true), (n1 - x2), (n2 - y2), p, q, ad2), I3, J3)
    show (¬ r3 = (-1) → _) ∧ (r3 = (-1) → _)
    refine ⟨fun c1 => ?_, fun c1 => ?_⟩
    · show mm_u _ _ _ _ _ _ [some (.ref 0), some (.int x0), some (.int x1), some (.int r3)] [] (((mm_fl b0 b1 true), (n1 - x2), (n2 - y2), p, q, ad2), I3, J3)
      show mm_wc d 160 [.ref 0, .int r3] (((mm_fl b0 b1 true), 0, 0, p, q, ad2), I3, J3) _
      refine mm_wcm (h3.1 c1) ?_
      rintro v τ ⟨r4, I4, J4, rfl, rfl, h4⟩
      refine mm_r1' ⟨rfl, ?_⟩
      exact h4
    · show mm_b _ _ _ _ _ [some (.ref 0), some (.int x0), some (.int x1), some (.int r3)] [] (((mm_fl b0 b1 true), (n1 - x2), (n2 - y2), p, q, ad2), I3, J3)
      show mm_wc d 159 [.ref 0, .int (nI 1)] (((mm_fl b0 b1 true), 0, 0, p, q, ad2), I3, J3) _
      refine mm_wcm (h3.2 c1) ?_
      rintro v τ ⟨r5, I5, J5, rfl, rfl, h5⟩
      refine mm_r1' ⟨rfl, ?_⟩
      exact h5
  · exact (h1.2 c0)
/- 146 ThreeBreaths more -/
theorem fx_146 {d : Nat} {x0 : Int32} {b0 b1 b2 : Bool} {n1 n2 : Nat} {p q : Bool} {ad : Nat → Nat} {I : mmI} {J : mmJ} {Q : mmQ} (h : (((I 0 1) = (nI 0) → mm_wc d 159 [.ref 0, .int (nI 1)] (((mm_fl b0 b1 b2), 0, 0, p, q, ad), I, J) (fun v τ => ∃ r1 I1 J1, v = some (.int r1) ∧ τ = (((mm_fl b0 b1 b2), 0, 0, p, q, ad), I1, J1) ∧ Q (some (.int r1)) (((mm_fl b0 b1 b2), n1, n2, p, q, ad), I1, J1))) ∧ (¬ (I 0 1) = (nI 0) → ((x0 < (nI 0) → mm_wc d 159 [.ref 0, .int (nI 1)] (((mm_fl b0 b1 b2), 0, 0, p, q, ad), I, J) (fun v τ => ∃ r2 I2 J2, v = some (.int r2) ∧ τ = (((mm_fl b0 b1 b2), 0, 0, p, q, ad), I2, J2) ∧ Q (some (.int r2)) (((mm_fl b0 b1 b2), n1, n2, p, q, ad), I2, J2))) ∧ (¬ x0 < (nI 0) → ((x0 < (I (mm_ck p 8) 3) → ∃ x3 y3, x3 ≤ n1 ∧ y3 ≤ n2 ∧ mm_wc d 1010 [.ref 0] (((mm_fl b0 b1 b2), x3, y3, p, q, ad), I, J) (fun v τ => ∃ z1 z2 ad3 I3, v = some (.ref 70) ∧ τ = (((mm_fl true b1 b2), z1, z2, p, q, ad3), I3, J) ∧ mm_wc d 87 [.ref 70, .int (I3 15 0), .int x0] (((mm_fl true b1 b2), 0, 0, p, q, ad3), I3, J) (fun v τ => ∃ r4 I4 J4, v = some (.int r4) ∧ τ = (((mm_fl true b1 b2), 0, 0, p, q, ad3), I4, J4) ∧ mm_wc d 160 [.ref 0, .int r4] (((mm_fl true b1 b2), 0, 0, p, q, ad3), I4, J4) (fun v τ => ∃ r5 I5 J5, v = some (.int r5) ∧ τ = (((mm_fl true b1 b2), 0, 0, p, q, ad3), I5, J5) ∧ Q (some (.int r5)) (((mm_fl true b1 b2), (n1 - x3), (n2 - y3), p, q, ad3), I5, J5))))) ∧ (¬ x0 < (I (mm_ck p 8) 3) → mm_wc d 159 [.ref 0, .int (nI 1)] (((mm_fl b0 b1 b2), 0, 0, p, q, ad), I, J) (fun v τ => ∃ r6 I6 J6, v = some (.int r6) ∧ τ = (((mm_fl b0 b1 b2), 0, 0, p, q, ad), I6, J6) ∧ Q (some (.int r6)) (((mm_fl b0 b1 b2), n1, n2, p, q, ad), I6, J6))))))))) : mm_wc (d + 1) 146 [.ref 0, .int x0] (((mm_fl b0 b1 b2), n1, n2, p, q, ad), I, J) Q := by
  cases p
  · refine mm_call (c := 146) rfl rfl ?_
    refine mm_go [] 80 ?_
    show ((I 0 1) = (nI 0) → _) ∧ (¬ (I 0 1) = (nI 0) → _)
    refine ⟨fun c0 => ?_, fun c0 => ?_⟩
    · show mm_u _ _ _ _ _ _ [some (.ref 0), some (.int x0)] [] (((mm_fl b0 b1 b2), n1, n2, false, q, ad), I, J)
      show mm_wc d 159 [.ref 0, .int (nI 1)] (((mm_fl b0 b1 b2), 0, 0, false, q, ad), I, J) _
      refine mm_wcm (h.1 c0) ?_
      rintro v τ ⟨r1, I1, J1, rfl, rfl, h1⟩
      refine mm_r1' ⟨rfl, ?_⟩
      exact h1
    · show mm_b _ _ _ _ _ [some (.ref 0), some (.int x0)] [] (((mm_fl b0 b1 b2), n1, n2, false, q, ad), I, J)
      show (x0 < (nI 0) → _) ∧ (¬ x0 < (nI 0) → _)
      refine ⟨fun c1 => ?_, fun c1 => ?_⟩
      · show mm_u _ _ _ _ _ _ [some (.ref 0), some (.int x0)] [] (((mm_fl b0 b1 b2), n1, n2, false, q, ad), I, J)
        show mm_wc d 159 [.ref 0, .int (nI 1)] (((mm_fl b0 b1 b2), 0, 0, false, q, ad), I, J) _
        refine mm_wcm ((h.2 c0).1 c1) ?_
        rintro v τ ⟨r2, I2, J2, rfl, rfl, h2⟩
        refine mm_r1' ⟨rfl, ?_⟩
        exact h2
      · show mm_b _ _ _ _ _ [some (.ref 0), some (.int x0)] [] (((mm_fl b0 b1 b2), n1, n2, false, q, ad), I, J)
        show (x0 < (I 40 3) → _) ∧ (¬ x0 < (I 40 3) → _)
        refine ⟨fun c2 => ?_, fun c2 => ?_⟩
        · show mm_u _ _ _ _ _ _ [some (.ref 0), some (.int x0)] [] (((mm_fl b0 b1 b2), n1, n2, false, q, ad), I, J)
          obtain ⟨x3, y3, u3, w3, h3⟩ := (((h.2 c0).2 c1).1 c2)
          show ∃ x y, x ≤ n1 ∧ y ≤ n2 ∧ mm_wc d 1010 [.ref 0] (((mm_fl b0 b1 b2), x, y, false, q, ad), I, J) _
          refine ⟨x3, y3, u3, w3, mm_wcm h3 ?_⟩
          rintro v τ ⟨z1, z2, ad3, I3, rfl, rfl, h3⟩
          refine mm_r3' ?_
          show mm_b _ _ _ _ _ [some (.ref 0), some (.int x0)] [.ref 70, .ref 0] (((mm_fl true b1 b2), (n1 - x3), (n2 - y3), false, q, ad3), I3, J)
          show mm_wc d 87 [.ref 70, .int (I3 15 0), .int x0] (((mm_fl true b1 b2), 0, 0, false, q, ad3), I3, J) _
          refine mm_wcm h3 ?_
          rintro v τ ⟨r4, I4, J4, rfl, rfl, h4⟩
          refine mm_r1' ⟨rfl, ?_⟩
          show mm_b _ _ _ _ _ [some (.ref 0), some (.int x0)] [.int r4, .ref 0] (((mm_fl true b1 b2), (n1 - x3), (n2 - y3), false, q, ad3), I4, J4)
          show mm_wc d 160 [.ref 0, .int r4] (((mm_fl true b1 b2), 0, 0, false, q, ad3), I4, J4) _
          refine mm_wcm h4 ?_
          rintro v τ ⟨r5, I5, J5, rfl, rfl, h5⟩
          refine mm_r1' ⟨rfl, ?_⟩
          exact h5
        · show mm_b _ _ _ _ _ [some (.ref 0), some (.int x0)] [] (((mm_fl b0 b1 b2), n1, n2, false, q, ad), I, J)
          show mm_wc d 159 [.ref 0, .int (nI 1)] (((mm_fl b0 b1 b2), 0, 0, false, q, ad), I, J) _
          refine mm_wcm (((h.2 c0).2 c1).2 c2) ?_
          rintro v τ ⟨r6, I6, J6, rfl, rfl, h6⟩
          refine mm_r1' ⟨rfl, ?_⟩
          exact h6
  · refine mm_call (c := 146) rfl rfl ?_
    refine mm_go [] 80 ?_
    show ((I 0 1) = (nI 0) → _) ∧ (¬ (I 0 1) = (nI 0) → _)
    refine ⟨fun c0 => ?_, fun c0 => ?_⟩
    · show mm_u _ _ _ _ _ _ [some (.ref 0), some (.int x0)] [] (((mm_fl b0 b1 b2), n1, n2, true, q, ad), I, J)
      show mm_wc d 159 [.ref 0, .int (nI 1)] (((mm_fl b0 b1 b2), 0, 0, true, q, ad), I, J) _
      refine mm_wcm (h.1 c0) ?_
      rintro v τ ⟨r1, I1, J1, rfl, rfl, h1⟩
      refine mm_r1' ⟨rfl, ?_⟩
      exact h1
    · show mm_b _ _ _ _ _ [some (.ref 0), some (.int x0)] [] (((mm_fl b0 b1 b2), n1, n2, true, q, ad), I, J)
      show (x0 < (nI 0) → _) ∧ (¬ x0 < (nI 0) → _)
      refine ⟨fun c1 => ?_, fun c1 => ?_⟩
      · show mm_u _ _ _ _ _ _ [some (.ref 0), some (.int x0)] [] (((mm_fl b0 b1 b2), n1, n2, true, q, ad), I, J)
        show mm_wc d 159 [.ref 0, .int (nI 1)] (((mm_fl b0 b1 b2), 0, 0, true, q, ad), I, J) _
        refine mm_wcm ((h.2 c0).1 c1) ?_
        rintro v τ ⟨r2, I2, J2, rfl, rfl, h2⟩
        refine mm_r1' ⟨rfl, ?_⟩
        exact h2
      · show mm_b _ _ _ _ _ [some (.ref 0), some (.int x0)] [] (((mm_fl b0 b1 b2), n1, n2, true, q, ad), I, J)
        show (x0 < (I 26 3) → _) ∧ (¬ x0 < (I 26 3) → _)
        refine ⟨fun c2 => ?_, fun c2 => ?_⟩
        · show mm_u _ _ _ _ _ _ [some (.ref 0), some (.int x0)] [] (((mm_fl b0 b1 b2), n1, n2, true, q, ad), I, J)
          obtain ⟨x3, y3, u3, w3, h3⟩ := (((h.2 c0).2 c1).1 c2)
          show ∃ x y, x ≤ n1 ∧ y ≤ n2 ∧ mm_wc d 1010 [.ref 0] (((mm_fl b0 b1 b2), x, y, true, q, ad), I, J) _
          refine ⟨x3, y3, u3, w3, mm_wcm h3 ?_⟩
          rintro v τ ⟨z1, z2, ad3, I3, rfl, rfl, h3⟩
          refine mm_r3' ?_
          show mm_b _ _ _ _ _ [some (.ref 0), some (.int x0)] [.ref 70, .ref 0] (((mm_fl true b1 b2), (n1 - x3), (n2 - y3), true, q, ad3), I3, J)
          show mm_wc d 87 [.ref 70, .int (I3 15 0), .int x0] (((mm_fl true b1 b2), 0, 0, true, q, ad3), I3, J) _
          refine mm_wcm h3 ?_
          rintro v τ ⟨r4, I4, J4, rfl, rfl, h4⟩
          refine mm_r1' ⟨rfl, ?_⟩
          show mm_b _ _ _ _ _ [some (.ref 0), some (.int x0)] [.int r4, .ref 0] (((mm_fl true b1 b2), (n1 - x3), (n2 - y3), true, q, ad3), I4, J4)
          show mm_wc d 160 [.ref 0, .int r4] (((mm_fl true b1 b2), 0, 0, true, q, ad3), I4, J4) _
          refine mm_wcm h4 ?_
          rintro v τ ⟨r5, I5, J5, rfl, rfl, h5⟩
          refine mm_r1' ⟨rfl, ?_⟩
          exact h5
        · show mm_b _ _ _ _ _ [some (.ref 0), some (.int x0)] [] (((mm_fl b0 b1 b2), n1, n2, true, q, ad), I, J)
          show mm_wc d 159 [.ref 0, .int (nI 1)] (((mm_fl b0 b1 b2), 0, 0, true, q, ad), I, J) _
          refine mm_wcm (((h.2 c0).2 c1).2 c2) ?_
          rintro v τ ⟨r6, I6, J6, rfl, rfl, h6⟩
          refine mm_r1' ⟨rfl, ?_⟩
          exact h6
/- 147 ThreeBreaths less -/
theorem fx_147 {d : Nat} {x0 : Int32} {x1 : Int32} {b0 b1 b2 : Bool} {n1 n2 : Nat} {p q : Bool} {ad : Nat → Nat} {I : mmI} {J : mmJ} {Q : mmQ} (h : ((¬ x0 = (nI 0) → ((¬ x0 = (nI 1) → ((¬ x0 = (nI 2) → mm_wc d 159 [.ref 0, .int (nI 1)] (((mm_fl b0 b1 b2), 0, 0, p, q, ad), I, J) (fun v τ => ∃ r1 I1 J1, v = some (.int r1) ∧ τ = (((mm_fl b0 b1 b2), 0, 0, p, q, ad), I1, J1) ∧ Q (some (.int r1)) (((mm_fl b0 b1 b2), n1, n2, p, q, ad), I1, J1))) ∧ (x0 = (nI 2) → mm_wc d 155 [.ref 0, .int x1] (((mm_fl b0 b1 b2), 0, 0, p, q, ad), I, J) (fun v τ => ∃ r2 I2 J2, v = some (.int r2) ∧ τ = (((mm_fl b0 b1 b2), 0, 0, p, q, ad), I2, J2) ∧ ((r2 = (nI 0) → mm_wc d 159 [.ref 0, .int (nI 1)] (((mm_fl b0 b1 b2), 0, 0, p, q, ad), I2, J2) (fun v τ => ∃ r3 I3 J3, v = some (.int r3) ∧ τ = (((mm_fl b0 b1 b2), 0, 0, p, q, ad), I3, J3) ∧ Q (some (.int r3)) (((mm_fl b0 b1 b2), n1, n2, p, q, ad), I3, J3))) ∧ (¬ r2 = (nI 0) → ∃ x4 y4, x4 ≤ n1 ∧ y4 ≤ n2 ∧ mm_wc d 1010 [.ref 0] (((mm_fl b0 b1 b2), x4, y4, p, q, ad), I2, J2) (fun v τ => ∃ z1 z2 ad4 I4, v = some (.ref 70) ∧ τ = (((mm_fl true b1 b2), z1, z2, p, q, ad4), I4, J2) ∧ mm_wc d 85 [.ref 70, .int (I4 15 0), .int x0, .int x1] (((mm_fl true b1 b2), 0, 0, p, q, ad4), I4, J2) (fun v τ => ∃ r5 I5 J5, v = some (.int r5) ∧ τ = (((mm_fl true b1 b2), 0, 0, p, q, ad4), I5, J5) ∧ mm_wc d 160 [.ref 0, .int r5] (((mm_fl true b1 b2), 0, 0, p, q, ad4), I5, J5) (fun v τ => ∃ r6 I6 J6, v = some (.int r6) ∧ τ = (((mm_fl true b1 b2), 0, 0, p, q, ad4), I6, J6) ∧ Q (some (.int r6)) (((mm_fl true b1 b2), (n1 - x4), (n2 - y4), p, q, ad4), I6, J6)))))))))) ∧ (x0 = (nI 1) → mm_wc d 154 [.ref 0, .int x1] (((mm_fl b0 b1 b2), 0, 0, p, q, ad), I, J) (fun v τ => ∃ r7 I7 J7, v = some (.int r7) ∧ τ = (((mm_fl b0 b1 b2), 0, 0, p, q, ad), I7, J7) ∧ ((¬ r7 = (nI 0) → ∃ x8 y8, x8 ≤ n1 ∧ y8 ≤ n2 ∧ mm_wc d 1010 [.ref 0] (((mm_fl b0 b1 b2), x8, y8, p, q, ad), I7, J7) (fun v τ => ∃ z1 z2 ad8 I8, v = some (.ref 70) ∧ τ = (((mm_fl true b1 b2), z1, z2, p, q, ad8), I8, J7) ∧ mm_wc d 85 [.ref 70, .int (I8 15 0), .int x0, .int x1] (((mm_fl true b1 b2), 0, 0, p, q, ad8), I8, J7) (fun v τ => ∃ r9 I9 J9, v = some (.int r9) ∧ τ = (((mm_fl true b1 b2), 0, 0, p, q, ad8), I9, J9) ∧ mm_wc d 160 [.ref 0, .int r9] (((mm_fl true b1 b2), 0, 0, p, q, ad8), I9, J9) (fun v τ => ∃ r10 I10 J10, v = some (.int r10) ∧ τ = (((mm_fl true b1 b2), 0, 0, p, q, ad8), I10, J10) ∧ Q (some (.int r10)) (((mm_fl true b1 b2), (n1 - x8), (n2 - y8), p, q, ad8), I10, J10))))) ∧ (r7 = (nI 0) → ((¬ x0 = (nI 2) → mm_wc d 159 [.ref 0, .int (nI 1)] (((mm_fl b0 b1 b2), 0, 0, p, q, ad), I7, J7) (fun v τ => ∃ r11 I11 J11, v = some (.int r11) ∧ τ = (((mm_fl b0 b1 b2), 0, 0, p, q, ad), I11, J11) ∧ Q (some (.int r11)) (((mm_fl b0 b1 b2), n1, n2, p, q, ad), I11, J11))) ∧ (x0 = (nI 2) → mm_wc d 155 [.ref 0, .int x1] (((mm_fl b0 b1 b2), 0, 0, p, q, ad), I7, J7) (fun v τ => ∃ r12 I12 J12, v = some (.int r12) ∧ τ = (((mm_fl b0 b1 b2), 0, 0, p, q, ad), I12, J12) ∧ ((r12 = (nI 0) → mm_wc d 159 [.ref 0, .int (nI 1)] (((mm_fl b0 b1 b2), 0, 0, p, q, ad), I12, J12) (fun v τ => ∃ r13 I13 J13, v = some (.int r13) ∧ τ = (((mm_fl b0 b1 b2), 0, 0, p, q, ad), I13, J13) ∧ Q (some (.int r13)) (((mm_fl b0 b1 b2), n1, n2, p, q, ad), I13, J13))) ∧ (¬ r12 = (nI 0) → ∃ x14 y14, x14 ≤ n1 ∧ y14 ≤ n2 ∧ mm_wc d 1010 [.ref 0] (((mm_fl b0 b1 b2), x14, y14, p, q, ad), I12, J12) (fun v τ => ∃ z1 z2 ad14 I14, v = some (.ref 70) ∧ τ = (((mm_fl true b1 b2), z1, z2, p, q, ad14), I14, J12) ∧ mm_wc d 85 [.ref 70, .int (I14 15 0), .int x0, .int x1] (((mm_fl true b1 b2), 0, 0, p, q, ad14), I14, J12) (fun v τ => ∃ r15 I15 J15, v = some (.int r15) ∧ τ = (((mm_fl true b1 b2), 0, 0, p, q, ad14), I15, J15) ∧ mm_wc d 160 [.ref 0, .int r15] (((mm_fl true b1 b2), 0, 0, p, q, ad14), I15, J15) (fun v τ => ∃ r16 I16 J16, v = some (.int r16) ∧ τ = (((mm_fl true b1 b2), 0, 0, p, q, ad14), I16, J16) ∧ Q (some (.int r16)) (((mm_fl true b1 b2), (n1 - x14), (n2 - y14), p, q, ad14), I16, J16))))))))))))))) ∧ (x0 = (nI 0) → mm_wc d 153 [.ref 0, .int x1] (((mm_fl b0 b1 b2), 0, 0, p, q, ad), I, J) (fun v τ => ∃ r17 I17 J17, v = some (.int r17) ∧ τ = (((mm_fl b0 b1 b2), 0, 0, p, q, ad), I17, J17) ∧ ((r17 = (nI 0) → ((¬ x0 = (nI 1) → ((¬ x0 = (nI 2) → mm_wc d 159 [.ref 0, .int (nI 1)] (((mm_fl b0 b1 b2), 0, 0, p, q, ad), I17, J17) (fun v τ => ∃ r18 I18 J18, v = some (.int r18) ∧ τ = (((mm_fl b0 b1 b2), 0, 0, p, q, ad), I18, J18) ∧ Q (some (.int r18)) (((mm_fl b0 b1 b2), n1, n2, p, q, ad), I18, J18))) ∧ (x0 = (nI 2) → mm_wc d 155 [.ref 0, .int x1] (((mm_fl b0 b1 b2), 0, 0, p, q, ad), I17, J17) (fun v τ => ∃ r19 I19 J19, v = some (.int r19) ∧ τ = (((mm_fl b0 b1 b2), 0, 0, p, q, ad), I19, J19) ∧ ((r19 = (nI 0) → mm_wc d 159 [.ref 0, .int (nI 1)] (((mm_fl b0 b1 b2), 0, 0, p, q, ad), I19, J19) (fun v τ => ∃ r20 I20 J20, v = some (.int r20) ∧ τ = (((mm_fl b0 b1 b2), 0, 0, p, q, ad), I20, J20) ∧ Q (some (.int r20)) (((mm_fl b0 b1 b2), n1, n2, p, q, ad), I20, J20))) ∧ (¬ r19 = (nI 0) → ∃ x21 y21, x21 ≤ n1 ∧ y21 ≤ n2 ∧ mm_wc d 1010 [.ref 0] (((mm_fl b0 b1 b2), x21, y21, p, q, ad), I19, J19) (fun v τ => ∃ z1 z2 ad21 I21, v = some (.ref 70) ∧ τ = (((mm_fl true b1 b2), z1, z2, p, q, ad21), I21, J19) ∧ mm_wc d 85 [.ref 70, .int (I21 15 0), .int x0, .int x1] (((mm_fl true b1 b2), 0, 0, p, q, ad21), I21, J19) (fun v τ => ∃ r22 I22 J22, v = some (.int r22) ∧ τ = (((mm_fl true b1 b2), 0, 0, p, q, ad21), I22, J22) ∧ mm_wc d 160 [.ref 0, .int r22] (((mm_fl true b1 b2), 0, 0, p, q, ad21), I22, J22) (fun v τ => ∃ r23 I23 J23, v = some (.int r23) ∧ τ = (((mm_fl true b1 b2), 0, 0, p, q, ad21), I23, J23) ∧ Q (some (.int r23)) (((mm_fl true b1 b2), (n1 - x21), (n2 - y21), p, q, ad21), I23, J23)))))))))) ∧ (x0 = (nI 1) → mm_wc d 154 [.ref 0, .int x1] (((mm_fl b0 b1 b2), 0, 0, p, q, ad), I17, J17) (fun v τ => ∃ r24 I24 J24, v = some (.int r24) ∧ τ = (((mm_fl b0 b1 b2), 0, 0, p, q, ad), I24, J24) ∧ ((¬ r24 = (nI 0) → ∃ x25 y25, x25 ≤ n1 ∧ y25 ≤ n2 ∧ mm_wc d 1010 [.ref 0] (((mm_fl b0 b1 b2), x25, y25, p, q, ad), I24, J24) (fun v τ => ∃ z1 z2 ad25 I25, v = some (.ref 70) ∧ τ = (((mm_fl true b1 b2), z1, z2, p, q, ad25), I25, J24) ∧ mm_wc d 85 [.ref 70, .int (I25 15 0), .int x0, .int x1] (((mm_fl true b1 b2), 0, 0, p, q, ad25), I25, J24) (fun v τ => ∃ r26 I26 J26, v = some (.int r26) ∧ τ = (((mm_fl true b1 b2), 0, 0, p, q, ad25), I26, J26) ∧ mm_wc d 160 [.ref 0, .int r26] (((mm_fl true b1 b2), 0, 0, p, q, ad25), I26, J26) (fun v τ => ∃ r27 I27 J27, v = some (.int r27) ∧ τ = (((mm_fl true b1 b2), 0, 0, p, q, ad25), I27, J27) ∧ Q (some (.int r27)) (((mm_fl true b1 b2), (n1 - x25), (n2 - y25), p, q, ad25), I27, J27))))) ∧ (r24 = (nI 0) → ((¬ x0 = (nI 2) → mm_wc d 159 [.ref 0, .int (nI 1)] (((mm_fl b0 b1 b2), 0, 0, p, q, ad), I24, J24) (fun v τ => ∃ r28 I28 J28, v = some (.int r28) ∧ τ = (((mm_fl b0 b1 b2), 0, 0, p, q, ad), I28, J28) ∧ Q (some (.int r28)) (((mm_fl b0 b1 b2), n1, n2, p, q, ad), I28, J28))) ∧ (x0 = (nI 2) → mm_wc d 155 [.ref 0, .int x1] (((mm_fl b0 b1 b2), 0, 0, p, q, ad), I24, J24) (fun v τ => ∃ r29 I29 J29, v = some (.int r29) ∧ τ = (((mm_fl b0 b1 b2), 0, 0, p, q, ad), I29, J29) ∧ ((r29 = (nI 0) → mm_wc d 159 [.ref 0, .int (nI 1)] (((mm_fl b0 b1 b2), 0, 0, p, q, ad), I29, J29) (fun v τ => ∃ r30 I30 J30, v = some (.int r30) ∧ τ = (((mm_fl b0 b1 b2), 0, 0, p, q, ad), I30, J30) ∧ Q (some (.int r30)) (((mm_fl b0 b1 b2), n1, n2, p, q, ad), I30, J30))) ∧ (¬ r29 = (nI 0) → ∃ x31 y31, x31 ≤ n1 ∧ y31 ≤ n2 ∧ mm_wc d 1010 [.ref 0] (((mm_fl b0 b1 b2), x31, y31, p, q, ad), I29, J29) (fun v τ => ∃ z1 z2 ad31 I31, v = some (.ref 70) ∧ τ = (((mm_fl true b1 b2), z1, z2, p, q, ad31), I31, J29) ∧ mm_wc d 85 [.ref 70, .int (I31 15 0), .int x0, .int x1] (((mm_fl true b1 b2), 0, 0, p, q, ad31), I31, J29) (fun v τ => ∃ r32 I32 J32, v = some (.int r32) ∧ τ = (((mm_fl true b1 b2), 0, 0, p, q, ad31), I32, J32) ∧ mm_wc d 160 [.ref 0, .int r32] (((mm_fl true b1 b2), 0, 0, p, q, ad31), I32, J32) (fun v τ => ∃ r33 I33 J33, v = some (.int r33) ∧ τ = (((mm_fl true b1 b2), 0, 0, p, q, ad31), I33, J33) ∧ Q (some (.int r33)) (((mm_fl true b1 b2), (n1 - x31), (n2 - y31), p, q, ad31), I33, J33))))))))))))))) ∧ (¬ r17 = (nI 0) → ∃ x34 y34, x34 ≤ n1 ∧ y34 ≤ n2 ∧ mm_wc d 1010 [.ref 0] (((mm_fl b0 b1 b2), x34, y34, p, q, ad), I17, J17) (fun v τ => ∃ z1 z2 ad34 I34, v = some (.ref 70) ∧ τ = (((mm_fl true b1 b2), z1, z2, p, q, ad34), I34, J17) ∧ mm_wc d 86 [.ref 70, .int (I34 15 0), .int x1] (((mm_fl true b1 b2), 0, 0, p, q, ad34), I34, J17) (fun v τ => ∃ r35 I35 J35, v = some (.int r35) ∧ τ = (((mm_fl true b1 b2), 0, 0, p, q, ad34), I35, J35) ∧ mm_wc d 160 [.ref 0, .int r35] (((mm_fl true b1 b2), 0, 0, p, q, ad34), I35, J35) (fun v τ => ∃ r36 I36 J36, v = some (.int r36) ∧ τ = (((mm_fl true b1 b2), 0, 0, p, q, ad34), I36, J36) ∧ Q (some (.int r36)) (((mm_fl true b1 b2), (n1 - x34), (n2 - y34), p, q, ad34), I36, J36)))))))))) : mm_wc (d + 1) 147 [.ref 0, .int x0, .int x1] (((mm_fl b0 b1 b2), n1, n2, p, q, ad), I, J) Q := by
  refine mm_call (c := 147) rfl rfl ?_
  refine mm_go [] 80 ?_
  show (¬ x0 = (nI 0) → _) ∧ (x0 = (nI 0) → _)
  refine ⟨fun c0 => ?_, fun c0 => ?_⟩
  · show mm_u _ _ _ _ _ _ [some (.ref 0), some (.int x0), some (.int x1)] [] (((mm_fl b0 b1 b2), n1, n2, p, q, ad), I, J)
    show (¬ x0 = (nI 1) → _) ∧ (x0 = (nI 1) → _)
    refine ⟨fun c1 => ?_, fun c1 => ?_⟩
    · show mm_u _ _ _ _ _ _ [some (.ref 0), some (.int x0), some (.int x1)] [] (((mm_fl b0 b1 b2), n1, n2, p, q, ad), I, J)
      show (¬ x0 = (nI 2) → _) ∧ (x0 = (nI 2) → _)
      refine ⟨fun c2 => ?_, fun c2 => ?_⟩
      · show mm_u _ _ _ _ _ _ [some (.ref 0), some (.int x0), some (.int x1)] [] (((mm_fl b0 b1 b2), n1, n2, p, q, ad), I, J)
        show mm_wc d 159 [.ref 0, .int (nI 1)] (((mm_fl b0 b1 b2), 0, 0, p, q, ad), I, J) _
        refine mm_wcm (((h.1 c0).1 c1).1 c2) ?_
        rintro v τ ⟨r1, I1, J1, rfl, rfl, h1⟩
        refine mm_r1' ⟨rfl, ?_⟩
        exact h1
      · show mm_b _ _ _ _ _ [some (.ref 0), some (.int x0), some (.int x1)] [] (((mm_fl b0 b1 b2), n1, n2, p, q, ad), I, J)
        show mm_wc d 155 [.ref 0, .int x1] (((mm_fl b0 b1 b2), 0, 0, p, q, ad), I, J) _
        refine mm_wcm (((h.1 c0).1 c1).2 c2) ?_
        rintro v τ ⟨r2, I2, J2, rfl, rfl, h2⟩
        refine mm_r1' ⟨rfl, ?_⟩
        show mm_b _ _ _ _ _ [some (.ref 0), some (.int x0), some (.int x1)] [.int r2] (((mm_fl b0 b1 b2), n1, n2, p, q, ad), I2, J2)
        show (r2 = (nI 0) → _) ∧ (¬ r2 = (nI 0) → _)
        refine ⟨fun c3 => ?_, fun c3 => ?_⟩
        · show mm_u _ _ _ _ _ _ [some (.ref 0), some (.int x0), some (.int x1)] [] (((mm_fl b0 b1 b2), n1, n2, p, q, ad), I2, J2)
          show mm_wc d 159 [.ref 0, .int (nI 1)] (((mm_fl b0 b1 b2), 0, 0, p, q, ad), I2, J2) _
          refine mm_wcm (h2.1 c3) ?_
          rintro v τ ⟨r3, I3, J3, rfl, rfl, h3⟩
          refine mm_r1' ⟨rfl, ?_⟩
          exact h3
        · show mm_b _ _ _ _ _ [some (.ref 0), some (.int x0), some (.int x1)] [] (((mm_fl b0 b1 b2), n1, n2, p, q, ad), I2, J2)
          obtain ⟨x4, y4, u4, w4, h4⟩ := (h2.2 c3)
          show ∃ x y, x ≤ n1 ∧ y ≤ n2 ∧ mm_wc d 1010 [.ref 0] (((mm_fl b0 b1 b2), x, y, p, q, ad), I2, J2) _
          refine ⟨x4, y4, u4, w4, mm_wcm h4 ?_⟩
          rintro v τ ⟨z1, z2, ad4, I4, rfl, rfl, h4⟩
          refine mm_r3' ?_
          show mm_b _ _ _ _ _ [some (.ref 0), some (.int x0), some (.int x1)] [.ref 70, .ref 0] (((mm_fl true b1 b2), (n1 - x4), (n2 - y4), p, q, ad4), I4, J2)
          show mm_wc d 85 [.ref 70, .int (I4 15 0), .int x0, .int x1] (((mm_fl true b1 b2), 0, 0, p, q, ad4), I4, J2) _
          refine mm_wcm h4 ?_
          rintro v τ ⟨r5, I5, J5, rfl, rfl, h5⟩
          refine mm_r1' ⟨rfl, ?_⟩
          show mm_b _ _ _ _ _ [some (.ref 0), some (.int x0), some (.int x1)] [.int r5, .ref 0] (((mm_fl true b1 b2), (n1 - x4), (n2 - y4), p, q, ad4), I5, J5)
          show mm_wc d 160 [.ref 0, .int r5] (((mm_fl true b1 b2), 0, 0, p, q, ad4), I5, J5) _
          refine mm_wcm h5 ?_
          rintro v τ ⟨r6, I6, J6, rfl, rfl, h6⟩
          refine mm_r1' ⟨rfl, ?_⟩
          exact h6
    · show mm_b _ _ _ _ _ [some (.ref 0), some (.int x0), some (.int x1)] [] (((mm_fl b0 b1 b2), n1, n2, p, q, ad), I, J)
      show mm_wc d 154 [.ref 0, .int x1] (((mm_fl b0 b1 b2), 0, 0, p, q, ad), I, J) _
      refine mm_wcm ((h.1 c0).2 c1) ?_
      rintro v τ ⟨r7, I7, J7, rfl, rfl, h7⟩
      refine mm_r1' ⟨rfl, ?_⟩
      show mm_b _ _ _ _ _ [some (.ref 0), some (.int x0), some (.int x1)] [.int r7] (((mm_fl b0 b1 b2), n1, n2, p, q, ad), I7, J7)
      show (¬ r7 = (nI 0) → _) ∧ (r7 = (nI 0) → _)
      refine ⟨fun c2 => ?_, fun c2 => ?_⟩
      · show mm_u _ _ _ _ _ _ [some (.ref 0), some (.int x0), some (.int x1)] [] (((mm_fl b0 b1 b2), n1, n2, p, q, ad), I7, J7)
        obtain ⟨x8, y8, u8, w8, h8⟩ := (h7.1 c2)
        show ∃ x y, x ≤ n1 ∧ y ≤ n2 ∧ mm_wc d 1010 [.ref 0] (((mm_fl b0 b1 b2), x, y, p, q, ad), I7, J7) _
        refine ⟨x8, y8, u8, w8, mm_wcm h8 ?_⟩
        rintro v τ ⟨z1, z2, ad8, I8, rfl, rfl, h8⟩
        refine mm_r3' ?_
        show mm_b _ _ _ _ _ [some (.ref 0), some (.int x0), some (.int x1)] [.ref 70, .ref 0] (((mm_fl true b1 b2), (n1 - x8), (n2 - y8), p, q, ad8), I8, J7)
        show mm_wc d 85 [.ref 70, .int (I8 15 0), .int x0, .int x1] (((mm_fl true b1 b2), 0, 0, p, q, ad8), I8, J7) _
        refine mm_wcm h8 ?_
        rintro v τ ⟨r9, I9, J9, rfl, rfl, h9⟩
        refine mm_r1' ⟨rfl, ?_⟩
        show mm_b _ _ _ _ _ [some (.ref 0), some (.int x0), some (.int x1)] [.int r9, .ref 0] (((mm_fl true b1 b2), (n1 - x8), (n2 - y8), p, q, ad8), I9, J9)
        show mm_wc d 160 [.ref 0, .int r9] (((mm_fl true b1 b2), 0, 0, p, q, ad8), I9, J9) _
        refine mm_wcm h9 ?_
        rintro v τ ⟨r10, I10, J10, rfl, rfl, h10⟩
        refine mm_r1' ⟨rfl, ?_⟩
        exact h10
      · show mm_b _ _ _ _ _ [some (.ref 0), some (.int x0), some (.int x1)] [] (((mm_fl b0 b1 b2), n1, n2, p, q, ad), I7, J7)
        show (¬ x0 = (nI 2) → _) ∧ (x0 = (nI 2) → _)
        refine ⟨fun c3 => ?_, fun c3 => ?_⟩
        · show mm_u _ _ _ _ _ _ [some (.ref 0), some (.int x0), some (.int x1)] [] (((mm_fl b0 b1 b2), n1, n2, p, q, ad), I7, J7)
          show mm_wc d 159 [.ref 0, .int (nI 1)] (((mm_fl b0 b1 b2), 0, 0, p, q, ad), I7, J7) _
          refine mm_wcm ((h7.2 c2).1 c3) ?_
          rintro v τ ⟨r11, I11, J11, rfl, rfl, h11⟩
          refine mm_r1' ⟨rfl, ?_⟩
          exact h11
        · show mm_b _ _ _ _ _ [some (.ref 0), some (.int x0), some (.int x1)] [] (((mm_fl b0 b1 b2), n1, n2, p, q, ad), I7, J7)
          show mm_wc d 155 [.ref 0, .int x1] (((mm_fl b0 b1 b2), 0, 0, p, q, ad), I7, J7) _
          refine mm_wcm ((h7.2 c2).2 c3) ?_
          rintro v τ ⟨r12, I12, J12, rfl, rfl, h12⟩
          refine mm_r1' ⟨rfl, ?_⟩
          show mm_b _ _ _ _ _ [some (.ref 0), some (.int x0), some (.int x1)] [.int r12] (((mm_fl b0 b1 b2), n1, n2, p, q, ad), I12, J12)
          show (r12 = (nI 0) → _) ∧ (¬ r12 = (nI 0) → _)
          refine ⟨fun c4 => ?_, fun c4 => ?_⟩
          · show mm_u _ _ _ _ _ _ [some (.ref 0), some (.int x0), some (.int x1)] [] (((mm_fl b0 b1 b2), n1, n2, p, q, ad), I12, J12)
            show mm_wc d 159 [.ref 0, .int (nI 1)] (((mm_fl b0 b1 b2), 0, 0, p, q, ad), I12, J12) _
            refine mm_wcm (h12.1 c4) ?_
            rintro v τ ⟨r13, I13, J13, rfl, rfl, h13⟩
            refine mm_r1' ⟨rfl, ?_⟩
            exact h13
          · show mm_b _ _ _ _ _ [some (.ref 0), some (.int x0), some (.int x1)] [] (((mm_fl b0 b1 b2), n1, n2, p, q, ad), I12, J12)
            obtain ⟨x14, y14, u14, w14, h14⟩ := (h12.2 c4)
            show ∃ x y, x ≤ n1 ∧ y ≤ n2 ∧ mm_wc d 1010 [.ref 0] (((mm_fl b0 b1 b2), x, y, p, q, ad), I12, J12) _
            refine ⟨x14, y14, u14, w14, mm_wcm h14 ?_⟩
            rintro v τ ⟨z1, z2, ad14, I14, rfl, rfl, h14⟩
            refine mm_r3' ?_
            show mm_b _ _ _ _ _ [some (.ref 0), some (.int x0), some (.int x1)] [.ref 70, .ref 0] (((mm_fl true b1 b2), (n1 - x14), (n2 - y14), p, q, ad14), I14, J12)
            show mm_wc d 85 [.ref 70, .int (I14 15 0), .int x0, .int x1] (((mm_fl true b1 b2), 0, 0, p, q, ad14), I14, J12) _
            refine mm_wcm h14 ?_
            rintro v τ ⟨r15, I15, J15, rfl, rfl, h15⟩
            refine mm_r1' ⟨rfl, ?_⟩
            show mm_b _ _ _ _ _ [some (.ref 0), some (.int x0), some (.int x1)] [.int r15, .ref 0] (((mm_fl true b1 b2), (n1 - x14), (n2 - y14), p, q, ad14), I15, J15)
            show mm_wc d 160 [.ref 0, .int r15] (((mm_fl true b1 b2), 0, 0, p, q, ad14), I15, J15) _
            refine mm_wcm h15 ?_
            rintro v τ ⟨r16, I16, J16, rfl, rfl, h16⟩
            refine mm_r1' ⟨rfl, ?_⟩
            exact h16
  · show mm_b _ _ _ _ _ [some (.ref 0), some (.int x0), some (.int x1)] [] (((mm_fl b0 b1 b2), n1, n2, p, q, ad), I, J)
    show mm_wc d 153 [.ref 0, .int x1] (((mm_fl b0 b1 b2), 0, 0, p, q, ad), I, J) _
    refine mm_wcm (h.2 c0) ?_
    rintro v τ ⟨r17, I17, J17, rfl, rfl, h17⟩
    refine mm_r1' ⟨rfl, ?_⟩
    show mm_b _ _ _ _ _ [some (.ref 0), some (.int x0), some (.int x1)] [.int r17] (((mm_fl b0 b1 b2), n1, n2, p, q, ad), I17, J17)
    show (r17 = (nI 0) → _) ∧ (¬ r17 = (nI 0) → _)
    refine ⟨fun c1 => ?_, fun c1 => ?_⟩
    · show mm_u _ _ _ _ _ _ [some (.ref 0), some (.int x0), some (.int x1)] [] (((mm_fl b0 b1 b2), n1, n2, p, q, ad), I17, J17)
      show (¬ x0 = (nI 1) → _) ∧ (x0 = (nI 1) → _)
      refine ⟨fun c2 => ?_, fun c2 => ?_⟩
      · show mm_u _ _ _ _ _ _ [some (.ref 0), some (.int x0), some (.int x1)] [] (((mm_fl b0 b1 b2), n1, n2, p, q, ad), I17, J17)
        show (¬ x0 = (nI 2) → _) ∧ (x0 = (nI 2) → _)
        refine ⟨fun c3 => ?_, fun c3 => ?_⟩
        · show mm_u _ _ _ _ _ _ [some (.ref 0), some (.int x0), some (.int x1)] [] (((mm_fl b0 b1 b2), n1, n2, p, q, ad), I17, J17)
          show mm_wc d 159 [.ref 0, .int (nI 1)] (((mm_fl b0 b1 b2), 0, 0, p, q, ad), I17, J17) _
          refine mm_wcm (((h17.1 c1).1 c2).1 c3) ?_
          rintro v τ ⟨r18, I18, J18, rfl, rfl, h18⟩
          refine mm_r1' ⟨rfl, ?_⟩
          exact h18
        · show mm_b _ _ _ _ _ [some (.ref 0), some (.int x0), some (.int x1)] [] (((mm_fl b0 b1 b2), n1, n2, p, q, ad), I17, J17)
          show mm_wc d 155 [.ref 0, .int x1] (((mm_fl b0 b1 b2), 0, 0, p, q, ad), I17, J17) _
          refine mm_wcm (((h17.1 c1).1 c2).2 c3) ?_
          rintro v τ ⟨r19, I19, J19, rfl, rfl, h19⟩
          refine mm_r1' ⟨rfl, ?_⟩
          show mm_b _ _ _ _ _ [some (.ref 0), some (.int x0), some (.int x1)] [.int r19] (((mm_fl b0 b1 b2), n1, n2, p, q, ad), I19, J19)
          show (r19 = (nI 0) → _) ∧ (¬ r19 = (nI 0) → _)
          refine ⟨fun c4 => ?_, fun c4 => ?_⟩
          · show mm_u _ _ _ _ _ _ [some (.ref 0), some (.int x0), some (.int x1)] [] (((mm_fl b0 b1 b2), n1, n2, p, q, ad), I19, J19)
            show mm_wc d 159 [.ref 0, .int (nI 1)] (((mm_fl b0 b1 b2), 0, 0, p, q, ad), I19, J19) _
            refine mm_wcm (h19.1 c4) ?_
            rintro v τ ⟨r20, I20, J20, rfl, rfl, h20⟩
            refine mm_r1' ⟨rfl, ?_⟩
            exact h20
          · show mm_b _ _ _ _ _ [some (.ref 0), some (.int x0), some (.int x1)] [] (((mm_fl b0 b1 b2), n1, n2, p, q, ad), I19, J19)
            obtain ⟨x21, y21, u21, w21, h21⟩ := (h19.2 c4)
            show ∃ x y, x ≤ n1 ∧ y ≤ n2 ∧ mm_wc d 1010 [.ref 0] (((mm_fl b0 b1 b2), x, y, p, q, ad), I19, J19) _
            refine ⟨x21, y21, u21, w21, mm_wcm h21 ?_⟩
            rintro v τ ⟨z1, z2, ad21, I21, rfl, rfl, h21⟩
            refine mm_r3' ?_
            show mm_b _ _ _ _ _ [some (.ref 0), some (.int x0), some (.int x1)] [.ref 70, .ref 0] (((mm_fl true b1 b2), (n1 - x21), (n2 - y21), p, q, ad21), I21, J19)
            show mm_wc d 85 [.ref 70, .int (I21 15 0), .int x0, .int x1] (((mm_fl true b1 b2), 0, 0, p, q, ad21), I21, J19) _
            refine mm_wcm h21 ?_
            rintro v τ ⟨r22, I22, J22, rfl, rfl, h22⟩
            refine mm_r1' ⟨rfl, ?_⟩
            show mm_b _ _ _ _ _ [some (.ref 0), some (.int x0), some (.int x1)] [.int r22, .ref 0] (((mm_fl true b1 b2), (n1 - x21), (n2 - y21), p, q, ad21), I22, J22)
            show mm_wc d 160 [.ref 0, .int r22] (((mm_fl true b1 b2), 0, 0, p, q, ad21), I22, J22) _
            refine mm_wcm h22 ?_
            rintro v τ ⟨r23, I23, J23, rfl, rfl, h23⟩
            refine mm_r1' ⟨rfl, ?_⟩
            exact h23
      · show mm_b _ _ _ _ _ [some (.ref 0), some (.int x0), some (.int x1)] [] (((mm_fl b0 b1 b2), n1, n2, p, q, ad), I17, J17)
        show mm_wc d 154 [.ref 0, .int x1] (((mm_fl b0 b1 b2), 0, 0, p, q, ad), I17, J17) _
        refine mm_wcm ((h17.1 c1).2 c2) ?_
        rintro v τ ⟨r24, I24, J24, rfl, rfl, h24⟩
        refine mm_r1' ⟨rfl, ?_⟩
        show mm_b _ _ _ _ _ [some (.ref 0), some (.int x0), some (.int x1)] [.int r24] (((mm_fl b0 b1 b2), n1, n2, p, q, ad), I24, J24)
        show (¬ r24 = (nI 0) → _) ∧ (r24 = (nI 0) → _)
        refine ⟨fun c3 => ?_, fun c3 => ?_⟩
        · show mm_u _ _ _ _ _ _ [some (.ref 0), some (.int x0), some (.int x1)] [] (((mm_fl b0 b1 b2), n1, n2, p, q, ad), I24, J24)
          obtain ⟨x25, y25, u25, w25, h25⟩ := (h24.1 c3)
          show ∃ x y, x ≤ n1 ∧ y ≤ n2 ∧ mm_wc d 1010 [.ref 0] (((mm_fl b0 b1 b2), x, y, p, q, ad), I24, J24) _
          refine ⟨x25, y25, u25, w25, mm_wcm h25 ?_⟩
          rintro v τ ⟨z1, z2, ad25, I25, rfl, rfl, h25⟩
          refine mm_r3' ?_
          show mm_b _ _ _ _ _ [some (.ref 0), some (.int x0), some (.int x1)] [.ref 70, .ref 0] (((mm_fl true b1 b2), (n1 - x25), (n2 - y25), p, q, ad25), I25, J24)
          show mm_wc d 85 [.ref 70, .int (I25 15 0), .int x0, .int x1] (((mm_fl true b1 b2), 0, 0, p, q, ad25), I25, J24) _
          refine mm_wcm h25 ?_
          rintro v τ ⟨r26, I26, J26, rfl, rfl, h26⟩
          refine mm_r1' ⟨rfl, ?_⟩
          show mm_b _ _ _ _ _ [some (.ref 0), some (.int x0), some (.int x1)] [.int r26, .ref 0] (((mm_fl true b1 b2), (n1 - x25), (n2 - y25), p, q, ad25), I26, J26)
          show mm_wc d 160 [.ref 0, .int r26] (((mm_fl true b1 b2), 0, 0, p, q, ad25), I26, J26) _
          refine mm_wcm h26 ?_
          rintro v τ ⟨r27, I27, J27, rfl, rfl, h27⟩
          refine mm_r1' ⟨rfl, ?_⟩
          exact h27
        · show mm_b _ _ _ _ _ [some (.ref 0), some (.int x0), some (.int x1)] [] (((mm_fl b0 b1 b2), n1, n2, p, q, ad), I24, J24)
          show (¬ x0 = (nI 2) → _) ∧ (x0 = (nI 2) → _)
          refine ⟨fun c4 => ?_, fun c4 => ?_⟩
          · show mm_u _ _ _ _ _ _ [some (.ref 0), some (.int x0), some (.int x1)] [] (((mm_fl b0 b1 b2), n1, n2, p, q, ad), I24, J24)
            show mm_wc d 159 [.ref 0, .int (nI 1)] (((mm_fl b0 b1 b2), 0, 0, p, q, ad), I24, J24) _
            refine mm_wcm ((h24.2 c3).1 c4) ?_
            rintro v τ ⟨r28, I28, J28, rfl, rfl, h28⟩
            refine mm_r1' ⟨rfl, ?_⟩
            exact h28
          · show mm_b _ _ _ _ _ [some (.ref 0), some (.int x0), some (.int x1)] [] (((mm_fl b0 b1 b2), n1, n2, p, q, ad), I24, J24)
            show mm_wc d 155 [.ref 0, .int x1] (((mm_fl b0 b1 b2), 0, 0, p, q, ad), I24, J24) _
            refine mm_wcm ((h24.2 c3).2 c4) ?_
            rintro v τ ⟨r29, I29, J29, rfl, rfl, h29⟩
            refine mm_r1' ⟨rfl, ?_⟩
            show mm_b _ _ _ _ _ [some (.ref 0), some (.int x0), some (.int x1)] [.int r29] (((mm_fl b0 b1 b2), n1, n2, p, q, ad), I29, J29)
            show (r29 = (nI 0) → _) ∧ (¬ r29 = (nI 0) → _)
            refine ⟨fun c5 => ?_, fun c5 => ?_⟩
            · show mm_u _ _ _ _ _ _ [some (.ref 0), some (.int x0), some (.int x1)] [] (((mm_fl b0 b1 b2), n1, n2, p, q, ad), I29, J29)
              show mm_wc d 159 [.ref 0, .int (nI 1)] (((mm_fl b0 b1 b2), 0, 0, p, q, ad), I29, J29) _
              refine mm_wcm (h29.1 c5) ?_
              rintro v τ ⟨r30, I30, J30, rfl, rfl, h30⟩
              refine mm_r1' ⟨rfl, ?_⟩
              exact h30
            · show mm_b _ _ _ _ _ [some (.ref 0), some (.int x0), some (.int x1)] [] (((mm_fl b0 b1 b2), n1, n2, p, q, ad), I29, J29)
              obtain ⟨x31, y31, u31, w31, h31⟩ := (h29.2 c5)
              show ∃ x y, x ≤ n1 ∧ y ≤ n2 ∧ mm_wc d 1010 [.ref 0] (((mm_fl b0 b1 b2), x, y, p, q, ad), I29, J29) _
              refine ⟨x31, y31, u31, w31, mm_wcm h31 ?_⟩
              rintro v τ ⟨z1, z2, ad31, I31, rfl, rfl, h31⟩
              refine mm_r3' ?_
              show mm_b _ _ _ _ _ [some (.ref 0), some (.int x0), some (.int x1)] [.ref 70, .ref 0] (((mm_fl true b1 b2), (n1 - x31), (n2 - y31), p, q, ad31), I31, J29)
              show mm_wc d 85 [.ref 70, .int (I31 15 0), .int x0, .int x1] (((mm_fl true b1 b2), 0, 0, p, q, ad31), I31, J29) _
              refine mm_wcm h31 ?_
              rintro v τ ⟨r32, I32, J32, rfl, rfl, h32⟩
              refine mm_r1' ⟨rfl, ?_⟩
              show mm_b _ _ _ _ _ [some (.ref 0), some (.int x0), some (.int x1)] [.int r32, .ref 0] (((mm_fl true b1 b2), (n1 - x31), (n2 - y31), p, q, ad31), I32, J32)
              show mm_wc d 160 [.ref 0, .int r32] (((mm_fl true b1 b2), 0, 0, p, q, ad31), I32, J32) _
              refine mm_wcm h32 ?_
              rintro v τ ⟨r33, I33, J33, rfl, rfl, h33⟩
              refine mm_r1' ⟨rfl, ?_⟩
              exact h33
    · show mm_b _ _ _ _ _ [some (.ref 0), some (.int x0), some (.int x1)] [] (((mm_fl b0 b1 b2), n1, n2, p, q, ad), I17, J17)
      obtain ⟨x34, y34, u34, w34, h34⟩ := (h17.2 c1)
      show ∃ x y, x ≤ n1 ∧ y ≤ n2 ∧ mm_wc d 1010 [.ref 0] (((mm_fl b0 b1 b2), x, y, p, q, ad), I17, J17) _
      refine ⟨x34, y34, u34, w34, mm_wcm h34 ?_⟩
      rintro v τ ⟨z1, z2, ad34, I34, rfl, rfl, h34⟩
      refine mm_r3' ?_
      show mm_b _ _ _ _ _ [some (.ref 0), some (.int x0), some (.int x1)] [.ref 70, .ref 0] (((mm_fl true b1 b2), (n1 - x34), (n2 - y34), p, q, ad34), I34, J17)
      show mm_wc d 86 [.ref 70, .int (I34 15 0), .int x1] (((mm_fl true b1 b2), 0, 0, p, q, ad34), I34, J17) _
      refine mm_wcm h34 ?_
      rintro v τ ⟨r35, I35, J35, rfl, rfl, h35⟩
      refine mm_r1' ⟨rfl, ?_⟩
      show mm_b _ _ _ _ _ [some (.ref 0), some (.int x0), some (.int x1)] [.int r35, .ref 0] (((mm_fl true b1 b2), (n1 - x34), (n2 - y34), p, q, ad34), I35, J35)
      show mm_wc d 160 [.ref 0, .int r35] (((mm_fl true b1 b2), 0, 0, p, q, ad34), I35, J35) _
      refine mm_wcm h35 ?_
      rintro v τ ⟨r36, I36, J36, rfl, rfl, h36⟩
      refine mm_r1' ⟨rfl, ?_⟩
      exact h36
/- 148 ThreeBreaths image -/
theorem fx_148 {d : Nat} {b0 b1 b2 : Bool} {n1 n2 : Nat} {p q : Bool} {ad : Nat → Nat} {I : mmI} {J : mmJ} {Q : mmQ} (h : ((¬ (I 0 1) = (nI 0) → mm_wc d 52 [.ref 15] (((mm_fl b0 b1 b2), 0, 0, p, q, ad), I, J) (fun v τ => ∃ r1 I1 J1, v = some (.int r1) ∧ τ = (((mm_fl b0 b1 b2), 0, 0, p, q, ad), I1, J1) ∧ ((¬ r1 = (-1) → mm_wc d 160 [.ref 0, .int r1] (((mm_fl b0 b1 b2), 0, 0, p, q, ad), I1, J1) (fun v τ => ∃ r2 I2 J2, v = some (.int r2) ∧ τ = (((mm_fl b0 b1 b2), 0, 0, p, q, ad), I2, J2) ∧ Q (some (.int r2)) (((mm_fl b0 b1 b2), n1, n2, p, q, ad), I2, J2))) ∧ (r1 = (-1) → mm_wc d 159 [.ref 0, .int (nI 3)] (((mm_fl b0 b1 b2), 0, 0, p, q, ad), I1, J1) (fun v τ => ∃ r3 I3 J3, v = some (.int r3) ∧ τ = (((mm_fl b0 b1 b2), 0, 0, p, q, ad), I3, J3) ∧ Q (some (.int r3)) (((mm_fl b0 b1 b2), n1, n2, p, q, ad), I3, J3)))))) ∧ ((I 0 1) = (nI 0) → mm_wc d 159 [.ref 0, .int (nI 1)] (((mm_fl b0 b1 b2), 0, 0, p, q, ad), I, J) (fun v τ => ∃ r4 I4 J4, v = some (.int r4) ∧ τ = (((mm_fl b0 b1 b2), 0, 0, p, q, ad), I4, J4) ∧ Q (some (.int r4)) (((mm_fl b0 b1 b2), n1, n2, p, q, ad), I4, J4))))) : mm_wc (d + 1) 148 [.ref 0] (((mm_fl b0 b1 b2), n1, n2, p, q, ad), I, J) Q := by
  refine mm_call (c := 148) rfl rfl ?_
  refine mm_go [] 80 ?_
  show (¬ (I 0 1) = (nI 0) → _) ∧ ((I 0 1) = (nI 0) → _)
  refine ⟨fun c0 => ?_, fun c0 => ?_⟩
  · show mm_u _ _ _ _ _ _ [some (.ref 0), none] [] (((mm_fl b0 b1 b2), n1, n2, p, q, ad), I, J)
    show mm_wc d 52 [.ref 15] (((mm_fl b0 b1 b2), 0, 0, p, q, ad), I, J) _
    refine mm_wcm (h.1 c0) ?_
    rintro v τ ⟨r1, I1, J1, rfl, rfl, h1⟩
    refine mm_r1' ⟨rfl, ?_⟩
    show mm_b _ _ _ _ _ [some (.ref 0), none] [.int r1] (((mm_fl b0 b1 b2), n1, n2, p, q, ad), I1, J1)
    show (¬ r1 = (-1) → _) ∧ (r1 = (-1) → _)
    refine ⟨fun c1 => ?_, fun c1 => ?_⟩
    · show mm_u _ _ _ _ _ _ [some (.ref 0), some (.int r1)] [] (((mm_fl b0 b1 b2), n1, n2, p, q, ad), I1, J1)
      show mm_wc d 160 [.ref 0, .int r1] (((mm_fl b0 b1 b2), 0, 0, p, q, ad), I1, J1) _
      refine mm_wcm (h1.1 c1) ?_
      rintro v τ ⟨r2, I2, J2, rfl, rfl, h2⟩
      refine mm_r1' ⟨rfl, ?_⟩
      exact h2
    · show mm_b _ _ _ _ _ [some (.ref 0), some (.int r1)] [] (((mm_fl b0 b1 b2), n1, n2, p, q, ad), I1, J1)
      show mm_wc d 159 [.ref 0, .int (nI 3)] (((mm_fl b0 b1 b2), 0, 0, p, q, ad), I1, J1) _
      refine mm_wcm (h1.2 c1) ?_
      rintro v τ ⟨r3, I3, J3, rfl, rfl, h3⟩
      refine mm_r1' ⟨rfl, ?_⟩
      exact h3
  · show mm_b _ _ _ _ _ [some (.ref 0), none] [] (((mm_fl b0 b1 b2), n1, n2, p, q, ad), I, J)
    show mm_wc d 159 [.ref 0, .int (nI 1)] (((mm_fl b0 b1 b2), 0, 0, p, q, ad), I, J) _
    refine mm_wcm (h.2 c0) ?_
    rintro v τ ⟨r4, I4, J4, rfl, rfl, h4⟩
    refine mm_r1' ⟨rfl, ?_⟩
    exact h4
/- 149 ThreeBreaths back -/
theorem fx_149 {d : Nat} {x0 : Int32} {b0 b1 b2 : Bool} {n1 n2 : Nat} {p q : Bool} {ad : Nat → Nat} {I : mmI} {J : mmJ} {Q : mmQ} (h : mm_wc d 53 [.ref 15, .int x0] (((mm_fl b0 b1 b2), 0, 0, p, q, ad), I, J) (fun v τ => ∃ r1 I1 J1, v = some (.int r1) ∧ τ = (((mm_fl b0 b1 b2), 0, 0, p, q, ad), I1, J1) ∧ ((r1 = (nI 0) → mm_wc d 161 [.ref 0, .int (nI 1)] (((mm_fl b0 b1 b2), 0, 0, p, q, ad), I1, J1) (fun v τ => ∃ r2 I2 J2, v = some (.int r2) ∧ τ = (((mm_fl b0 b1 b2), 0, 0, p, q, ad), I2, J2) ∧ ((r2 = 0 ∨ r2 = 1) ∧ Q (some (.int r2)) (((mm_fl b0 b1 b2), n1, n2, p, q, ad), I2, J2)))) ∧ (¬ r1 = (nI 0) → mm_wc d 162 [.ref 0] (((mm_fl b0 b1 b2), 0, 0, p, q, ad), I1, J1) (fun v τ => ∃ r3 I3 J3, v = some (.int r3) ∧ τ = (((mm_fl b0 b1 b2), 0, 0, p, q, ad), I3, J3) ∧ ((r3 = 0 ∨ r3 = 1) ∧ Q (some (.int r3)) (((mm_fl b0 b1 b2), n1, n2, p, q, ad), I3, J3))))))) : mm_wc (d + 1) 149 [.ref 0, .int x0] (((mm_fl b0 b1 b2), n1, n2, p, q, ad), I, J) Q := by
  refine mm_call (c := 149) rfl rfl ?_
  refine mm_go [] 80 ?_
  show mm_wc d 53 [.ref 15, .int x0] (((mm_fl b0 b1 b2), 0, 0, p, q, ad), I, J) _
  refine mm_wcm h ?_
  rintro v τ ⟨r1, I1, J1, rfl, rfl, h1⟩
  refine mm_r1' ⟨rfl, ?_⟩
  show mm_b _ _ _ _ _ [some (.ref 0), some (.int x0)] [.int r1] (((mm_fl b0 b1 b2), n1, n2, p, q, ad), I1, J1)
  show (r1 = (nI 0) → _) ∧ (¬ r1 = (nI 0) → _)
  refine ⟨fun c0 => ?_, fun c0 => ?_⟩
  · show mm_u _ _ _ _ _ _ [some (.ref 0), some (.int x0)] [] (((mm_fl b0 b1 b2), n1, n2, p, q, ad), I1, J1)
    show mm_wc d 161 [.ref 0, .int (nI 1)] (((mm_fl b0 b1 b2), 0, 0, p, q, ad), I1, J1) _
    refine mm_wcm (h1.1 c0) ?_
    rintro v τ ⟨r2, I2, J2, rfl, rfl, h2⟩
    refine mm_r1' ⟨rfl, ?_⟩
    show mm_b _ _ _ _ _ [some (.ref 0), none] [.int r2] (((mm_fl b0 b1 b2), n1, n2, p, q, ad), I2, J2)
    show (r2 = 0 ∨ r2 = 1) ∧ _
    refine ⟨h2.1, ?_⟩
    exact h2.2
  · show mm_b _ _ _ _ _ [some (.ref 0), some (.int x0)] [] (((mm_fl b0 b1 b2), n1, n2, p, q, ad), I1, J1)
    show mm_wc d 162 [.ref 0] (((mm_fl b0 b1 b2), 0, 0, p, q, ad), I1, J1) _
    refine mm_wcm (h1.2 c0) ?_
    rintro v τ ⟨r3, I3, J3, rfl, rfl, h3⟩
    refine mm_r1' ⟨rfl, ?_⟩
    show mm_b _ _ _ _ _ [some (.ref 0), some (.int x0)] [.int r3] (((mm_fl b0 b1 b2), n1, n2, p, q, ad), I3, J3)
    show (r3 = 0 ∨ r3 = 1) ∧ _
    refine ⟨h3.1, ?_⟩
    exact h3.2
/- 150 ThreeBreaths size -/
theorem fx_150 {d : Nat} {x0 : Int32} {b0 b1 b2 : Bool} {n1 n2 : Nat} {p q : Bool} {ad : Nat → Nat} {I : mmI} {J : mmJ} {Q : mmQ} (h : ((x0.toInt < 8 ∨ 10 < x0.toInt → mm_wc d 152 [.ref 0, .int x0] (((mm_fl b0 b1 b2), 0, 0, p, q, ad), I, J) (fun v τ => ∃ r1 I1 J1, v = some (.int r1) ∧ τ = (((mm_fl b0 b1 b2), 0, 0, p, q, ad), I1, J1) ∧ Q (some (.int r1)) (((mm_fl b0 b1 b2), n1, n2, p, q, ad), I1, J1))) ∧ (x0.toInt = 8 → Q (some (.int (I 15 2))) (((mm_fl b0 b1 b2), n1, n2, p, q, ad), I, J)) ∧ (x0.toInt = 9 → Q (some (.int (I 15 4))) (((mm_fl b0 b1 b2), n1, n2, p, q, ad), I, J)) ∧ (x0.toInt = 10 → Q (some (.int (I 1 1))) (((mm_fl b0 b1 b2), n1, n2, p, q, ad), I, J)))) : mm_wc (d + 1) 150 [.ref 0, .int x0] (((mm_fl b0 b1 b2), n1, n2, p, q, ad), I, J) Q := by
  refine mm_call (c := 150) rfl rfl ?_
  refine mm_go [] 80 ?_
  refine ⟨fun c0 => ?_, fun off z1 z2 z3 => ?_⟩
  · show mm_u _ _ _ _ _ _ [some (.ref 0), some (.int x0)] [] (((mm_fl b0 b1 b2), n1, n2, p, q, ad), I, J)
    show mm_wc d 152 [.ref 0, .int x0] (((mm_fl b0 b1 b2), 0, 0, p, q, ad), I, J) _
    refine mm_wcm (h.1 c0) ?_
    rintro v τ ⟨r1, I1, J1, rfl, rfl, h1⟩
    refine mm_r1' ⟨rfl, ?_⟩
    exact h1
  · have z4 : x0.toInt = 8 ∨ x0.toInt = 9 ∨ x0.toInt = 10 := by omega
    rcases z4 with c0 | c0 | c0
    · rw [c0] at z3; cases (show (some (27) : Option Int) = some off from z3)
      exact (h.2.1 c0)
    · rw [c0] at z3; cases (show (some (35) : Option Int) = some off from z3)
      exact (h.2.2.1 c0)
    · rw [c0] at z3; cases (show (some (43) : Option Int) = some off from z3)
      exact (h.2.2.2 c0)
/- 151 ThreeBreaths trouble -/
theorem fx_151 {d : Nat} {b0 b1 b2 : Bool} {n1 n2 : Nat} {p q : Bool} {ad : Nat → Nat} {I : mmI} {J : mmJ} {Q : mmQ} (h : Q (some (.int (I 0 7))) (((mm_fl b0 b1 b2), n1, n2, p, q, ad), I, J)) : mm_wc (d + 1) 151 [.ref 0] (((mm_fl b0 b1 b2), n1, n2, p, q, ad), I, J) Q := by
  refine mm_call (c := 151) rfl rfl ?_
  refine mm_go [] 80 ?_
  exact h
/- 152 ThreeBreaths sizeOfCake -/
theorem fx_152 {d : Nat} {x0 : Int32} {b0 b1 b2 : Bool} {n1 n2 : Nat} {p q : Bool} {ad : Nat → Nat} {I : mmI} {J : mmJ} {Q : mmQ} (h : ((x0 < (nI 0) → Q (some (.int (-1))) (((mm_fl b0 b1 b2), n1, n2, p, q, ad), I, J)) ∧ (¬ x0 < (nI 0) → ((x0 ≤ (nI 7) → ((¬ (I 0 1) = (nI 0) → ((x0.toInt < 0 ∨ 6 < x0.toInt → Q (some (.int (I (mm_ck p 0) 11))) (((mm_fl b0 b1 b2), n1, n2, p, q, ad), I, J)) ∧ (x0.toInt = 0 → Q (some (.int (I (mm_ck p 1) 3))) (((mm_fl b0 b1 b2), n1, n2, p, q, ad), I, J)) ∧ (x0.toInt = 1 → Q (some (.int (I (mm_ck p 5) 3))) (((mm_fl b0 b1 b2), n1, n2, p, q, ad), I, J)) ∧ (x0.toInt = 2 → Q (some (.int (I (mm_ck p 8) 3))) (((mm_fl b0 b1 b2), n1, n2, p, q, ad), I, J)) ∧ (x0.toInt = 3 → Q (some (.int (I (mm_ck p 0) 6))) (((mm_fl b0 b1 b2), n1, n2, p, q, ad), I, J)) ∧ (x0.toInt = 4 → Q (some (.int (I (mm_ck p 0) 7))) (((mm_fl b0 b1 b2), n1, n2, p, q, ad), I, J)) ∧ (x0.toInt = 5 → Q (some (.int (I (mm_ck p 0) 8))) (((mm_fl b0 b1 b2), n1, n2, p, q, ad), I, J)) ∧ (x0.toInt = 6 → (((I (mm_ck p 0) 10) = (nI 0) → Q (some (.int (nI 0))) (((mm_fl b0 b1 b2), n1, n2, p, q, ad), I, J)) ∧ (¬ (I (mm_ck p 0) 10) = (nI 0) → Q (some (.int (nI 1))) (((mm_fl b0 b1 b2), n1, n2, p, q, ad), I, J)))))) ∧ ((I 0 1) = (nI 0) → Q (some (.int (nI 0))) (((mm_fl b0 b1 b2), n1, n2, p, q, ad), I, J)))) ∧ (¬ x0 ≤ (nI 7) → Q (some (.int (-1))) (((mm_fl b0 b1 b2), n1, n2, p, q, ad), I, J)))))) : mm_wc (d + 1) 152 [.ref 0, .int x0] (((mm_fl b0 b1 b2), n1, n2, p, q, ad), I, J) Q := by
  cases p
  · refine mm_call (c := 152) rfl rfl ?_
    refine mm_go [] 80 ?_
    show (x0 < (nI 0) → _) ∧ (¬ x0 < (nI 0) → _)
    refine ⟨fun c0 => ?_, fun c0 => ?_⟩
    · exact (h.1 c0)
    · show mm_b _ _ _ _ _ [some (.ref 0), some (.int x0)] [] (((mm_fl b0 b1 b2), n1, n2, false, q, ad), I, J)
      show (x0 ≤ (nI 7) → _) ∧ (¬ x0 ≤ (nI 7) → _)
      refine ⟨fun c1 => ?_, fun c1 => ?_⟩
      · show mm_u _ _ _ _ _ _ [some (.ref 0), some (.int x0)] [] (((mm_fl b0 b1 b2), n1, n2, false, q, ad), I, J)
        show (¬ (I 0 1) = (nI 0) → _) ∧ ((I 0 1) = (nI 0) → _)
        refine ⟨fun c2 => ?_, fun c2 => ?_⟩
        · show mm_u _ _ _ _ _ _ [some (.ref 0), some (.int x0)] [] (((mm_fl b0 b1 b2), n1, n2, false, q, ad), I, J)
          refine ⟨fun c3 => ?_, fun off z1 z2 z3 => ?_⟩
          · exact ((((h.2 c0).1 c1).1 c2).1 c3)
          · have z4 : x0.toInt = 0 ∨ x0.toInt = 1 ∨ x0.toInt = 2 ∨ x0.toInt = 3 ∨ x0.toInt = 4 ∨ x0.toInt = 5 ∨ x0.toInt = 6 := by omega
            rcases z4 with c3 | c3 | c3 | c3 | c3 | c3 | c3
            · rw [c3] at z3; cases (show (some (42) : Option Int) = some off from z3)
              exact ((((h.2 c0).1 c1).1 c2).2.1 c3)
            · rw [c3] at z3; cases (show (some (56) : Option Int) = some off from z3)
              exact ((((h.2 c0).1 c1).1 c2).2.2.1 c3)
            · rw [c3] at z3; cases (show (some (70) : Option Int) = some off from z3)
              exact ((((h.2 c0).1 c1).1 c2).2.2.2.1 c3)
            · rw [c3] at z3; cases (show (some (84) : Option Int) = some off from z3)
              exact ((((h.2 c0).1 c1).1 c2).2.2.2.2.1 c3)
            · rw [c3] at z3; cases (show (some (95) : Option Int) = some off from z3)
              exact ((((h.2 c0).1 c1).1 c2).2.2.2.2.2.1 c3)
            · rw [c3] at z3; cases (show (some (106) : Option Int) = some off from z3)
              exact ((((h.2 c0).1 c1).1 c2).2.2.2.2.2.2.1 c3)
            · rw [c3] at z3; cases (show (some (117) : Option Int) = some off from z3)
              show mm_u _ _ _ _ _ _ [some (.ref 0), some (.int x0)] [] (((mm_fl b0 b1 b2), n1, n2, false, q, ad), I, J)
              show ((I 32 10) = (nI 0) → _) ∧ (¬ (I 32 10) = (nI 0) → _)
              refine ⟨fun c4 => ?_, fun c4 => ?_⟩
              · exact (((((h.2 c0).1 c1).1 c2).2.2.2.2.2.2.2 c3).1 c4)
              · exact (((((h.2 c0).1 c1).1 c2).2.2.2.2.2.2.2 c3).2 c4)
        · exact (((h.2 c0).1 c1).2 c2)
      · exact ((h.2 c0).2 c1)
  · refine mm_call (c := 152) rfl rfl ?_
    refine mm_go [] 80 ?_
    show (x0 < (nI 0) → _) ∧ (¬ x0 < (nI 0) → _)
    refine ⟨fun c0 => ?_, fun c0 => ?_⟩
    · exact (h.1 c0)
    · show mm_b _ _ _ _ _ [some (.ref 0), some (.int x0)] [] (((mm_fl b0 b1 b2), n1, n2, true, q, ad), I, J)
      show (x0 ≤ (nI 7) → _) ∧ (¬ x0 ≤ (nI 7) → _)
      refine ⟨fun c1 => ?_, fun c1 => ?_⟩
      · show mm_u _ _ _ _ _ _ [some (.ref 0), some (.int x0)] [] (((mm_fl b0 b1 b2), n1, n2, true, q, ad), I, J)
        show (¬ (I 0 1) = (nI 0) → _) ∧ ((I 0 1) = (nI 0) → _)
        refine ⟨fun c2 => ?_, fun c2 => ?_⟩
        · show mm_u _ _ _ _ _ _ [some (.ref 0), some (.int x0)] [] (((mm_fl b0 b1 b2), n1, n2, true, q, ad), I, J)
          refine ⟨fun c3 => ?_, fun off z1 z2 z3 => ?_⟩
          · exact ((((h.2 c0).1 c1).1 c2).1 c3)
          · have z4 : x0.toInt = 0 ∨ x0.toInt = 1 ∨ x0.toInt = 2 ∨ x0.toInt = 3 ∨ x0.toInt = 4 ∨ x0.toInt = 5 ∨ x0.toInt = 6 := by omega
            rcases z4 with c3 | c3 | c3 | c3 | c3 | c3 | c3
            · rw [c3] at z3; cases (show (some (42) : Option Int) = some off from z3)
              exact ((((h.2 c0).1 c1).1 c2).2.1 c3)
            · rw [c3] at z3; cases (show (some (56) : Option Int) = some off from z3)
              exact ((((h.2 c0).1 c1).1 c2).2.2.1 c3)
            · rw [c3] at z3; cases (show (some (70) : Option Int) = some off from z3)
              exact ((((h.2 c0).1 c1).1 c2).2.2.2.1 c3)
            · rw [c3] at z3; cases (show (some (84) : Option Int) = some off from z3)
              exact ((((h.2 c0).1 c1).1 c2).2.2.2.2.1 c3)
            · rw [c3] at z3; cases (show (some (95) : Option Int) = some off from z3)
              exact ((((h.2 c0).1 c1).1 c2).2.2.2.2.2.1 c3)
            · rw [c3] at z3; cases (show (some (106) : Option Int) = some off from z3)
              exact ((((h.2 c0).1 c1).1 c2).2.2.2.2.2.2.1 c3)
            · rw [c3] at z3; cases (show (some (117) : Option Int) = some off from z3)
              show mm_u _ _ _ _ _ _ [some (.ref 0), some (.int x0)] [] (((mm_fl b0 b1 b2), n1, n2, true, q, ad), I, J)
              show ((I 18 10) = (nI 0) → _) ∧ (¬ (I 18 10) = (nI 0) → _)
              refine ⟨fun c4 => ?_, fun c4 => ?_⟩
              · exact (((((h.2 c0).1 c1).1 c2).2.2.2.2.2.2.2 c3).1 c4)
              · exact (((((h.2 c0).1 c1).1 c2).2.2.2.2.2.2.2 c3).2 c4)
        · exact (((h.2 c0).1 c1).2 c2)
      · exact ((h.2 c0).2 c1)
/- 153 ThreeBreaths isCandle -/
theorem fx_153 {d : Nat} {x0 : Int32} {b0 b1 b2 : Bool} {n1 n2 : Nat} {p q : Bool} {ad : Nat → Nat} {I : mmI} {J : mmJ} {Q : mmQ} (h : (((I 0 1) = (nI 0) → Q (some (.int (nI 0))) (((mm_fl b0 b1 b2), n1, n2, p, q, ad), I, J)) ∧ (¬ (I 0 1) = (nI 0) → ((x0 < (nI 0) → Q (some (.int (nI 0))) (((mm_fl b0 b1 b2), n1, n2, p, q, ad), I, J)) ∧ (¬ x0 < (nI 0) → (((I (mm_ck p 1) 3) ≤ x0 → Q (some (.int (nI 0))) (((mm_fl b0 b1 b2), n1, n2, p, q, ad), I, J)) ∧ (¬ (I (mm_ck p 1) 3) ≤ x0 → Q (some (.int (nI 1))) (((mm_fl b0 b1 b2), n1, n2, p, q, ad), I, J)))))))) : mm_wc (d + 1) 153 [.ref 0, .int x0] (((mm_fl b0 b1 b2), n1, n2, p, q, ad), I, J) Q := by
  cases p
  · refine mm_call (c := 153) rfl rfl ?_
    refine mm_go [] 80 ?_
    show ((I 0 1) = (nI 0) → _) ∧ (¬ (I 0 1) = (nI 0) → _)
    refine ⟨fun c0 => ?_, fun c0 => ?_⟩
    · show mm_u _ _ _ _ _ _ [some (.ref 0), some (.int x0)] [] (((mm_fl b0 b1 b2), n1, n2, false, q, ad), I, J)
      show (((nI 0) : Int32) = 0 ∨ ((nI 0) : Int32) = 1) ∧ _
      refine ⟨(by decide), ?_⟩
      exact (h.1 c0)
    · show mm_b _ _ _ _ _ [some (.ref 0), some (.int x0)] [] (((mm_fl b0 b1 b2), n1, n2, false, q, ad), I, J)
      show (x0 < (nI 0) → _) ∧ (¬ x0 < (nI 0) → _)
      refine ⟨fun c1 => ?_, fun c1 => ?_⟩
      · show mm_u _ _ _ _ _ _ [some (.ref 0), some (.int x0)] [] (((mm_fl b0 b1 b2), n1, n2, false, q, ad), I, J)
        show (((nI 0) : Int32) = 0 ∨ ((nI 0) : Int32) = 1) ∧ _
        refine ⟨(by decide), ?_⟩
        exact ((h.2 c0).1 c1)
      · show mm_b _ _ _ _ _ [some (.ref 0), some (.int x0)] [] (((mm_fl b0 b1 b2), n1, n2, false, q, ad), I, J)
        show ((I 33 3) ≤ x0 → _) ∧ (¬ (I 33 3) ≤ x0 → _)
        refine ⟨fun c2 => ?_, fun c2 => ?_⟩
        · show mm_u _ _ _ _ _ _ [some (.ref 0), some (.int x0)] [] (((mm_fl b0 b1 b2), n1, n2, false, q, ad), I, J)
          show (((nI 0) : Int32) = 0 ∨ ((nI 0) : Int32) = 1) ∧ _
          refine ⟨(by decide), ?_⟩
          exact (((h.2 c0).2 c1).1 c2)
        · show mm_b _ _ _ _ _ [some (.ref 0), some (.int x0)] [] (((mm_fl b0 b1 b2), n1, n2, false, q, ad), I, J)
          show (((nI 1) : Int32) = 0 ∨ ((nI 1) : Int32) = 1) ∧ _
          refine ⟨(by decide), ?_⟩
          exact (((h.2 c0).2 c1).2 c2)
  · refine mm_call (c := 153) rfl rfl ?_
    refine mm_go [] 80 ?_
    show ((I 0 1) = (nI 0) → _) ∧ (¬ (I 0 1) = (nI 0) → _)
    refine ⟨fun c0 => ?_, fun c0 => ?_⟩
    · show mm_u _ _ _ _ _ _ [some (.ref 0), some (.int x0)] [] (((mm_fl b0 b1 b2), n1, n2, true, q, ad), I, J)
      show (((nI 0) : Int32) = 0 ∨ ((nI 0) : Int32) = 1) ∧ _
      refine ⟨(by decide), ?_⟩
      exact (h.1 c0)
    · show mm_b _ _ _ _ _ [some (.ref 0), some (.int x0)] [] (((mm_fl b0 b1 b2), n1, n2, true, q, ad), I, J)
      show (x0 < (nI 0) → _) ∧ (¬ x0 < (nI 0) → _)
      refine ⟨fun c1 => ?_, fun c1 => ?_⟩
      · show mm_u _ _ _ _ _ _ [some (.ref 0), some (.int x0)] [] (((mm_fl b0 b1 b2), n1, n2, true, q, ad), I, J)
        show (((nI 0) : Int32) = 0 ∨ ((nI 0) : Int32) = 1) ∧ _
        refine ⟨(by decide), ?_⟩
        exact ((h.2 c0).1 c1)
      · show mm_b _ _ _ _ _ [some (.ref 0), some (.int x0)] [] (((mm_fl b0 b1 b2), n1, n2, true, q, ad), I, J)
        show ((I 19 3) ≤ x0 → _) ∧ (¬ (I 19 3) ≤ x0 → _)
        refine ⟨fun c2 => ?_, fun c2 => ?_⟩
        · show mm_u _ _ _ _ _ _ [some (.ref 0), some (.int x0)] [] (((mm_fl b0 b1 b2), n1, n2, true, q, ad), I, J)
          show (((nI 0) : Int32) = 0 ∨ ((nI 0) : Int32) = 1) ∧ _
          refine ⟨(by decide), ?_⟩
          exact (((h.2 c0).2 c1).1 c2)
        · show mm_b _ _ _ _ _ [some (.ref 0), some (.int x0)] [] (((mm_fl b0 b1 b2), n1, n2, true, q, ad), I, J)
          show (((nI 1) : Int32) = 0 ∨ ((nI 1) : Int32) = 1) ∧ _
          refine ⟨(by decide), ?_⟩
          exact (((h.2 c0).2 c1).2 c2)
/- 154 ThreeBreaths isPlace -/
theorem fx_154 {d : Nat} {x0 : Int32} {b0 b1 b2 : Bool} {n1 n2 : Nat} {p q : Bool} {ad : Nat → Nat} {I : mmI} {J : mmJ} {Q : mmQ} (h : (((I 0 1) = (nI 0) → Q (some (.int (nI 0))) (((mm_fl b0 b1 b2), n1, n2, p, q, ad), I, J)) ∧ (¬ (I 0 1) = (nI 0) → ((x0 < (nI 0) → Q (some (.int (nI 0))) (((mm_fl b0 b1 b2), n1, n2, p, q, ad), I, J)) ∧ (¬ x0 < (nI 0) → (((I (mm_ck p 5) 3) ≤ x0 → Q (some (.int (nI 0))) (((mm_fl b0 b1 b2), n1, n2, p, q, ad), I, J)) ∧ (¬ (I (mm_ck p 5) 3) ≤ x0 → Q (some (.int (nI 1))) (((mm_fl b0 b1 b2), n1, n2, p, q, ad), I, J)))))))) : mm_wc (d + 1) 154 [.ref 0, .int x0] (((mm_fl b0 b1 b2), n1, n2, p, q, ad), I, J) Q := by
  cases p
  · refine mm_call (c := 154) rfl rfl ?_
    refine mm_go [] 80 ?_
    show ((I 0 1) = (nI 0) → _) ∧ (¬ (I 0 1) = (nI 0) → _)
    refine ⟨fun c0 => ?_, fun c0 => ?_⟩
    · show mm_u _ _ _ _ _ _ [some (.ref 0), some (.int x0)] [] (((mm_fl b0 b1 b2), n1, n2, false, q, ad), I, J)
      show (((nI 0) : Int32) = 0 ∨ ((nI 0) : Int32) = 1) ∧ _
      refine ⟨(by decide), ?_⟩
      exact (h.1 c0)
    · show mm_b _ _ _ _ _ [some (.ref 0), some (.int x0)] [] (((mm_fl b0 b1 b2), n1, n2, false, q, ad), I, J)
      show (x0 < (nI 0) → _) ∧ (¬ x0 < (nI 0) → _)
      refine ⟨fun c1 => ?_, fun c1 => ?_⟩
      · show mm_u _ _ _ _ _ _ [some (.ref 0), some (.int x0)] [] (((mm_fl b0 b1 b2), n1, n2, false, q, ad), I, J)
        show (((nI 0) : Int32) = 0 ∨ ((nI 0) : Int32) = 1) ∧ _
        refine ⟨(by decide), ?_⟩
        exact ((h.2 c0).1 c1)
      · show mm_b _ _ _ _ _ [some (.ref 0), some (.int x0)] [] (((mm_fl b0 b1 b2), n1, n2, false, q, ad), I, J)
        show ((I 37 3) ≤ x0 → _) ∧ (¬ (I 37 3) ≤ x0 → _)
        refine ⟨fun c2 => ?_, fun c2 => ?_⟩
        · show mm_u _ _ _ _ _ _ [some (.ref 0), some (.int x0)] [] (((mm_fl b0 b1 b2), n1, n2, false, q, ad), I, J)
          show (((nI 0) : Int32) = 0 ∨ ((nI 0) : Int32) = 1) ∧ _
          refine ⟨(by decide), ?_⟩
          exact (((h.2 c0).2 c1).1 c2)
        · show mm_b _ _ _ _ _ [some (.ref 0), some (.int x0)] [] (((mm_fl b0 b1 b2), n1, n2, false, q, ad), I, J)
          show (((nI 1) : Int32) = 0 ∨ ((nI 1) : Int32) = 1) ∧ _
          refine ⟨(by decide), ?_⟩
          exact (((h.2 c0).2 c1).2 c2)
  · refine mm_call (c := 154) rfl rfl ?_
    refine mm_go [] 80 ?_
    show ((I 0 1) = (nI 0) → _) ∧ (¬ (I 0 1) = (nI 0) → _)
    refine ⟨fun c0 => ?_, fun c0 => ?_⟩
    · show mm_u _ _ _ _ _ _ [some (.ref 0), some (.int x0)] [] (((mm_fl b0 b1 b2), n1, n2, true, q, ad), I, J)
      show (((nI 0) : Int32) = 0 ∨ ((nI 0) : Int32) = 1) ∧ _
      refine ⟨(by decide), ?_⟩
      exact (h.1 c0)
    · show mm_b _ _ _ _ _ [some (.ref 0), some (.int x0)] [] (((mm_fl b0 b1 b2), n1, n2, true, q, ad), I, J)
      show (x0 < (nI 0) → _) ∧ (¬ x0 < (nI 0) → _)
      refine ⟨fun c1 => ?_, fun c1 => ?_⟩
      · show mm_u _ _ _ _ _ _ [some (.ref 0), some (.int x0)] [] (((mm_fl b0 b1 b2), n1, n2, true, q, ad), I, J)
        show (((nI 0) : Int32) = 0 ∨ ((nI 0) : Int32) = 1) ∧ _
        refine ⟨(by decide), ?_⟩
        exact ((h.2 c0).1 c1)
      · show mm_b _ _ _ _ _ [some (.ref 0), some (.int x0)] [] (((mm_fl b0 b1 b2), n1, n2, true, q, ad), I, J)
        show ((I 23 3) ≤ x0 → _) ∧ (¬ (I 23 3) ≤ x0 → _)
        refine ⟨fun c2 => ?_, fun c2 => ?_⟩
        · show mm_u _ _ _ _ _ _ [some (.ref 0), some (.int x0)] [] (((mm_fl b0 b1 b2), n1, n2, true, q, ad), I, J)
          show (((nI 0) : Int32) = 0 ∨ ((nI 0) : Int32) = 1) ∧ _
          refine ⟨(by decide), ?_⟩
          exact (((h.2 c0).2 c1).1 c2)
        · show mm_b _ _ _ _ _ [some (.ref 0), some (.int x0)] [] (((mm_fl b0 b1 b2), n1, n2, true, q, ad), I, J)
          show (((nI 1) : Int32) = 0 ∨ ((nI 1) : Int32) = 1) ∧ _
          refine ⟨(by decide), ?_⟩
          exact (((h.2 c0).2 c1).2 c2)
/- 155 ThreeBreaths isPerson -/
theorem fx_155 {d : Nat} {x0 : Int32} {b0 b1 b2 : Bool} {n1 n2 : Nat} {p q : Bool} {ad : Nat → Nat} {I : mmI} {J : mmJ} {Q : mmQ} (h : (((I 0 1) = (nI 0) → Q (some (.int (nI 0))) (((mm_fl b0 b1 b2), n1, n2, p, q, ad), I, J)) ∧ (¬ (I 0 1) = (nI 0) → ((x0 < (nI 0) → Q (some (.int (nI 0))) (((mm_fl b0 b1 b2), n1, n2, p, q, ad), I, J)) ∧ (¬ x0 < (nI 0) → (((I (mm_ck p 0) 6) ≤ x0 → Q (some (.int (nI 0))) (((mm_fl b0 b1 b2), n1, n2, p, q, ad), I, J)) ∧ (¬ (I (mm_ck p 0) 6) ≤ x0 → Q (some (.int (nI 1))) (((mm_fl b0 b1 b2), n1, n2, p, q, ad), I, J)))))))) : mm_wc (d + 1) 155 [.ref 0, .int x0] (((mm_fl b0 b1 b2), n1, n2, p, q, ad), I, J) Q := by
  cases p
  · refine mm_call (c := 155) rfl rfl ?_
    refine mm_go [] 80 ?_
    show ((I 0 1) = (nI 0) → _) ∧ (¬ (I 0 1) = (nI 0) → _)
    refine ⟨fun c0 => ?_, fun c0 => ?_⟩
    · show mm_u _ _ _ _ _ _ [some (.ref 0), some (.int x0)] [] (((mm_fl b0 b1 b2), n1, n2, false, q, ad), I, J)
      show (((nI 0) : Int32) = 0 ∨ ((nI 0) : Int32) = 1) ∧ _
      refine ⟨(by decide), ?_⟩
      exact (h.1 c0)
    · show mm_b _ _ _ _ _ [some (.ref 0), some (.int x0)] [] (((mm_fl b0 b1 b2), n1, n2, false, q, ad), I, J)
      show (x0 < (nI 0) → _) ∧ (¬ x0 < (nI 0) → _)
      refine ⟨fun c1 => ?_, fun c1 => ?_⟩
      · show mm_u _ _ _ _ _ _ [some (.ref 0), some (.int x0)] [] (((mm_fl b0 b1 b2), n1, n2, false, q, ad), I, J)
        show (((nI 0) : Int32) = 0 ∨ ((nI 0) : Int32) = 1) ∧ _
        refine ⟨(by decide), ?_⟩
        exact ((h.2 c0).1 c1)
      · show mm_b _ _ _ _ _ [some (.ref 0), some (.int x0)] [] (((mm_fl b0 b1 b2), n1, n2, false, q, ad), I, J)
        show ((I 32 6) ≤ x0 → _) ∧ (¬ (I 32 6) ≤ x0 → _)
        refine ⟨fun c2 => ?_, fun c2 => ?_⟩
        · show mm_u _ _ _ _ _ _ [some (.ref 0), some (.int x0)] [] (((mm_fl b0 b1 b2), n1, n2, false, q, ad), I, J)
          show (((nI 0) : Int32) = 0 ∨ ((nI 0) : Int32) = 1) ∧ _
          refine ⟨(by decide), ?_⟩
          exact (((h.2 c0).2 c1).1 c2)
        · show mm_b _ _ _ _ _ [some (.ref 0), some (.int x0)] [] (((mm_fl b0 b1 b2), n1, n2, false, q, ad), I, J)
          show (((nI 1) : Int32) = 0 ∨ ((nI 1) : Int32) = 1) ∧ _
          refine ⟨(by decide), ?_⟩
          exact (((h.2 c0).2 c1).2 c2)
  · refine mm_call (c := 155) rfl rfl ?_
    refine mm_go [] 80 ?_
    show ((I 0 1) = (nI 0) → _) ∧ (¬ (I 0 1) = (nI 0) → _)
    refine ⟨fun c0 => ?_, fun c0 => ?_⟩
    · show mm_u _ _ _ _ _ _ [some (.ref 0), some (.int x0)] [] (((mm_fl b0 b1 b2), n1, n2, true, q, ad), I, J)
      show (((nI 0) : Int32) = 0 ∨ ((nI 0) : Int32) = 1) ∧ _
      refine ⟨(by decide), ?_⟩
      exact (h.1 c0)
    · show mm_b _ _ _ _ _ [some (.ref 0), some (.int x0)] [] (((mm_fl b0 b1 b2), n1, n2, true, q, ad), I, J)
      show (x0 < (nI 0) → _) ∧ (¬ x0 < (nI 0) → _)
      refine ⟨fun c1 => ?_, fun c1 => ?_⟩
      · show mm_u _ _ _ _ _ _ [some (.ref 0), some (.int x0)] [] (((mm_fl b0 b1 b2), n1, n2, true, q, ad), I, J)
        show (((nI 0) : Int32) = 0 ∨ ((nI 0) : Int32) = 1) ∧ _
        refine ⟨(by decide), ?_⟩
        exact ((h.2 c0).1 c1)
      · show mm_b _ _ _ _ _ [some (.ref 0), some (.int x0)] [] (((mm_fl b0 b1 b2), n1, n2, true, q, ad), I, J)
        show ((I 18 6) ≤ x0 → _) ∧ (¬ (I 18 6) ≤ x0 → _)
        refine ⟨fun c2 => ?_, fun c2 => ?_⟩
        · show mm_u _ _ _ _ _ _ [some (.ref 0), some (.int x0)] [] (((mm_fl b0 b1 b2), n1, n2, true, q, ad), I, J)
          show (((nI 0) : Int32) = 0 ∨ ((nI 0) : Int32) = 1) ∧ _
          refine ⟨(by decide), ?_⟩
          exact (((h.2 c0).2 c1).1 c2)
        · show mm_b _ _ _ _ _ [some (.ref 0), some (.int x0)] [] (((mm_fl b0 b1 b2), n1, n2, true, q, ad), I, J)
          show (((nI 1) : Int32) = 0 ∨ ((nI 1) : Int32) = 1) ∧ _
          refine ⟨(by decide), ?_⟩
          exact (((h.2 c0).2 c1).2 c2)
/- 156 ThreeBreaths isBreath -/
theorem fx_156 {d : Nat} {x0 : Int32} {b0 b1 b2 : Bool} {n1 n2 : Nat} {p q : Bool} {ad : Nat → Nat} {I : mmI} {J : mmJ} {Q : mmQ} (h : (((I 0 1) = (nI 0) → Q (some (.int (nI 0))) (((mm_fl b0 b1 b2), n1, n2, p, q, ad), I, J)) ∧ (¬ (I 0 1) = (nI 0) → ((x0 < (nI 0) → Q (some (.int (nI 0))) (((mm_fl b0 b1 b2), n1, n2, p, q, ad), I, J)) ∧ (¬ x0 < (nI 0) → (((I 6 2) ≤ x0 → Q (some (.int (nI 0))) (((mm_fl b0 b1 b2), n1, n2, p, q, ad), I, J)) ∧ (¬ (I 6 2) ≤ x0 → Q (some (.int (nI 1))) (((mm_fl b0 b1 b2), n1, n2, p, q, ad), I, J)))))))) : mm_wc (d + 1) 156 [.ref 0, .int x0] (((mm_fl b0 b1 b2), n1, n2, p, q, ad), I, J) Q := by
  refine mm_call (c := 156) rfl rfl ?_
  refine mm_go [] 80 ?_
  show ((I 0 1) = (nI 0) → _) ∧ (¬ (I 0 1) = (nI 0) → _)
  refine ⟨fun c0 => ?_, fun c0 => ?_⟩
  · show mm_u _ _ _ _ _ _ [some (.ref 0), some (.int x0)] [] (((mm_fl b0 b1 b2), n1, n2, p, q, ad), I, J)
    show (((nI 0) : Int32) = 0 ∨ ((nI 0) : Int32) = 1) ∧ _
    refine ⟨(by decide), ?_⟩
    exact (h.1 c0)
  · show mm_b _ _ _ _ _ [some (.ref 0), some (.int x0)] [] (((mm_fl b0 b1 b2), n1, n2, p, q, ad), I, J)
    show (x0 < (nI 0) → _) ∧ (¬ x0 < (nI 0) → _)
    refine ⟨fun c1 => ?_, fun c1 => ?_⟩
    · show mm_u _ _ _ _ _ _ [some (.ref 0), some (.int x0)] [] (((mm_fl b0 b1 b2), n1, n2, p, q, ad), I, J)
      show (((nI 0) : Int32) = 0 ∨ ((nI 0) : Int32) = 1) ∧ _
      refine ⟨(by decide), ?_⟩
      exact ((h.2 c0).1 c1)
    · show mm_b _ _ _ _ _ [some (.ref 0), some (.int x0)] [] (((mm_fl b0 b1 b2), n1, n2, p, q, ad), I, J)
      show ((I 6 2) ≤ x0 → _) ∧ (¬ (I 6 2) ≤ x0 → _)
      refine ⟨fun c2 => ?_, fun c2 => ?_⟩
      · show mm_u _ _ _ _ _ _ [some (.ref 0), some (.int x0)] [] (((mm_fl b0 b1 b2), n1, n2, p, q, ad), I, J)
        show (((nI 0) : Int32) = 0 ∨ ((nI 0) : Int32) = 1) ∧ _
        refine ⟨(by decide), ?_⟩
        exact (((h.2 c0).2 c1).1 c2)
      · show mm_b _ _ _ _ _ [some (.ref 0), some (.int x0)] [] (((mm_fl b0 b1 b2), n1, n2, p, q, ad), I, J)
        show (((nI 1) : Int32) = 0 ∨ ((nI 1) : Int32) = 1) ∧ _
        refine ⟨(by decide), ?_⟩
        exact (((h.2 c0).2 c1).2 c2)
/- 157 ThreeBreaths isRefused -/
theorem fx_157 {d : Nat} {x0 : Int32} {x1 : Int32} {b0 b1 b2 : Bool} {n1 n2 : Nat} {p q : Bool} {ad : Nat → Nat} {I : mmI} {J : mmJ} {Q : mmQ} (h : ((¬ (I 0 1) = (nI 0) → ((x0 < (nI 1) → Q (some (.int (nI 1))) (((mm_fl b0 b1 b2), n1, n2, p, q, ad), (mm_up I 0 7 (nI 2)), J)) ∧ (¬ x0 < (nI 1) → ((x0 ≤ x1 → Q (some (.int (nI 0))) (((mm_fl b0 b1 b2), n1, n2, p, q, ad), I, J)) ∧ (¬ x0 ≤ x1 → Q (some (.int (nI 1))) (((mm_fl b0 b1 b2), n1, n2, p, q, ad), (mm_up I 0 7 (nI 2)), J)))))) ∧ ((I 0 1) = (nI 0) → Q (some (.int (nI 1))) (((mm_fl b0 b1 b2), n1, n2, p, q, ad), (mm_up I 0 7 (nI 1)), J)))) : mm_wc (d + 1) 157 [.ref 0, .int x0, .int x1] (((mm_fl b0 b1 b2), n1, n2, p, q, ad), I, J) Q := by
  refine mm_call (c := 157) rfl rfl ?_
  refine mm_go [] 80 ?_
  show (¬ (I 0 1) = (nI 0) → _) ∧ ((I 0 1) = (nI 0) → _)
  refine ⟨fun c0 => ?_, fun c0 => ?_⟩
  · show mm_u _ _ _ _ _ _ [some (.ref 0), some (.int x0), some (.int x1)] [] (((mm_fl b0 b1 b2), n1, n2, p, q, ad), I, J)
    show (x0 < (nI 1) → _) ∧ (¬ x0 < (nI 1) → _)
    refine ⟨fun c1 => ?_, fun c1 => ?_⟩
    · show mm_u _ _ _ _ _ _ [some (.ref 0), some (.int x0), some (.int x1)] [] (((mm_fl b0 b1 b2), n1, n2, p, q, ad), I, J)
      show (((nI 1) : Int32) = 0 ∨ ((nI 1) : Int32) = 1) ∧ _
      refine ⟨(by decide), ?_⟩
      exact ((h.1 c0).1 c1)
    · show mm_b _ _ _ _ _ [some (.ref 0), some (.int x0), some (.int x1)] [] (((mm_fl b0 b1 b2), n1, n2, p, q, ad), I, J)
      show (x0 ≤ x1 → _) ∧ (¬ x0 ≤ x1 → _)
      refine ⟨fun c2 => ?_, fun c2 => ?_⟩
      · show mm_u _ _ _ _ _ _ [some (.ref 0), some (.int x0), some (.int x1)] [] (((mm_fl b0 b1 b2), n1, n2, p, q, ad), I, J)
        show (((nI 0) : Int32) = 0 ∨ ((nI 0) : Int32) = 1) ∧ _
        refine ⟨(by decide), ?_⟩
        exact (((h.1 c0).2 c1).1 c2)
      · show mm_b _ _ _ _ _ [some (.ref 0), some (.int x0), some (.int x1)] [] (((mm_fl b0 b1 b2), n1, n2, p, q, ad), I, J)
        show (((nI 1) : Int32) = 0 ∨ ((nI 1) : Int32) = 1) ∧ _
        refine ⟨(by decide), ?_⟩
        exact (((h.1 c0).2 c1).2 c2)
  · show mm_b _ _ _ _ _ [some (.ref 0), some (.int x0), some (.int x1)] [] (((mm_fl b0 b1 b2), n1, n2, p, q, ad), I, J)
    show (((nI 1) : Int32) = 0 ∨ ((nI 1) : Int32) = 1) ∧ _
    refine ⟨(by decide), ?_⟩
    exact (h.2 c0)
/- 158 ThreeBreaths isFitRefused -/
theorem fx_158 {d : Nat} {x0 : Int32} {b0 b1 b2 : Bool} {n1 n2 : Nat} {p q : Bool} {ad : Nat → Nat} {I : mmI} {J : mmJ} {Q : mmQ} (h : mm_wc d 157 [.ref 0, .int x0, .int (nI 2)] (((mm_fl b0 b1 b2), 0, 0, p, q, ad), I, J) (fun v τ => ∃ r1 I1 J1, v = some (.int r1) ∧ τ = (((mm_fl b0 b1 b2), 0, 0, p, q, ad), I1, J1) ∧ ((r1 = (nI 0) → ((¬ (I1 (mm_ck p 0) 11) = (-2) → Q (some (.int (nI 0))) (((mm_fl b0 b1 b2), n1, n2, p, q, ad), I1, J1)) ∧ ((I1 (mm_ck p 0) 11) = (-2) → Q (some (.int (nI 1))) (((mm_fl b0 b1 b2), n1, n2, p, q, ad), (mm_up I1 0 7 (nI 6)), J1)))) ∧ (¬ r1 = (nI 0) → Q (some (.int (nI 1))) (((mm_fl b0 b1 b2), n1, n2, p, q, ad), I1, J1))))) : mm_wc (d + 1) 158 [.ref 0, .int x0] (((mm_fl b0 b1 b2), n1, n2, p, q, ad), I, J) Q := by
  cases p
  · refine mm_call (c := 158) rfl rfl ?_
    refine mm_go [] 80 ?_
    show mm_wc d 157 [.ref 0, .int x0, .int (nI 2)] (((mm_fl b0 b1 b2), 0, 0, false, q, ad), I, J) _
    refine mm_wcm h ?_
    rintro v τ ⟨r1, I1, J1, rfl, rfl, h1⟩
    refine mm_r1' ⟨rfl, ?_⟩
    show mm_b _ _ _ _ _ [some (.ref 0), some (.int x0)] [.int r1] (((mm_fl b0 b1 b2), n1, n2, false, q, ad), I1, J1)
    show (r1 = (nI 0) → _) ∧ (¬ r1 = (nI 0) → _)
    refine ⟨fun c0 => ?_, fun c0 => ?_⟩
    · show mm_u _ _ _ _ _ _ [some (.ref 0), some (.int x0)] [] (((mm_fl b0 b1 b2), n1, n2, false, q, ad), I1, J1)
      show (¬ (I1 32 11) = (-2) → _) ∧ ((I1 32 11) = (-2) → _)
      refine ⟨fun c1 => ?_, fun c1 => ?_⟩
      · show mm_u _ _ _ _ _ _ [some (.ref 0), none] [] (((mm_fl b0 b1 b2), n1, n2, false, q, ad), I1, J1)
        show (((nI 0) : Int32) = 0 ∨ ((nI 0) : Int32) = 1) ∧ _
        refine ⟨(by decide), ?_⟩
        exact ((h1.1 c0).1 c1)
      · show mm_b _ _ _ _ _ [some (.ref 0), none] [] (((mm_fl b0 b1 b2), n1, n2, false, q, ad), I1, J1)
        show (((nI 1) : Int32) = 0 ∨ ((nI 1) : Int32) = 1) ∧ _
        refine ⟨(by decide), ?_⟩
        exact ((h1.1 c0).2 c1)
    · show mm_b _ _ _ _ _ [some (.ref 0), some (.int x0)] [] (((mm_fl b0 b1 b2), n1, n2, false, q, ad), I1, J1)
      show (((nI 1) : Int32) = 0 ∨ ((nI 1) : Int32) = 1) ∧ _
      refine ⟨(by decide), ?_⟩
      exact (h1.2 c0)
  · refine mm_call (c := 158) rfl rfl ?_
    refine mm_go [] 80 ?_
    show mm_wc d 157 [.ref 0, .int x0, .int (nI 2)] (((mm_fl b0 b1 b2), 0, 0, true, q, ad), I, J) _
    refine mm_wcm h ?_
    rintro v τ ⟨r1, I1, J1, rfl, rfl, h1⟩
    refine mm_r1' ⟨rfl, ?_⟩
    show mm_b _ _ _ _ _ [some (.ref 0), some (.int x0)] [.int r1] (((mm_fl b0 b1 b2), n1, n2, true, q, ad), I1, J1)
    show (r1 = (nI 0) → _) ∧ (¬ r1 = (nI 0) → _)
    refine ⟨fun c0 => ?_, fun c0 => ?_⟩
    · show mm_u _ _ _ _ _ _ [some (.ref 0), some (.int x0)] [] (((mm_fl b0 b1 b2), n1, n2, true, q, ad), I1, J1)
      show (¬ (I1 18 11) = (-2) → _) ∧ ((I1 18 11) = (-2) → _)
      refine ⟨fun c1 => ?_, fun c1 => ?_⟩
      · show mm_u _ _ _ _ _ _ [some (.ref 0), none] [] (((mm_fl b0 b1 b2), n1, n2, true, q, ad), I1, J1)
        show (((nI 0) : Int32) = 0 ∨ ((nI 0) : Int32) = 1) ∧ _
        refine ⟨(by decide), ?_⟩
        exact ((h1.1 c0).1 c1)
      · show mm_b _ _ _ _ _ [some (.ref 0), none] [] (((mm_fl b0 b1 b2), n1, n2, true, q, ad), I1, J1)
        show (((nI 1) : Int32) = 0 ∨ ((nI 1) : Int32) = 1) ∧ _
        refine ⟨(by decide), ?_⟩
        exact ((h1.1 c0).2 c1)
    · show mm_b _ _ _ _ _ [some (.ref 0), some (.int x0)] [] (((mm_fl b0 b1 b2), n1, n2, true, q, ad), I1, J1)
      show (((nI 1) : Int32) = 0 ∨ ((nI 1) : Int32) = 1) ∧ _
      refine ⟨(by decide), ?_⟩
      exact (h1.2 c0)
/- 159 ThreeBreaths refuse -/
theorem fx_159 {d : Nat} {x0 : Int32} {b0 b1 b2 : Bool} {n1 n2 : Nat} {p q : Bool} {ad : Nat → Nat} {I : mmI} {J : mmJ} {Q : mmQ} (h : Q (some (.int (-1))) (((mm_fl b0 b1 b2), n1, n2, p, q, ad), (mm_up I 0 7 x0), J)) : mm_wc (d + 1) 159 [.ref 0, .int x0] (((mm_fl b0 b1 b2), n1, n2, p, q, ad), I, J) Q := by
  refine mm_call (c := 159) rfl rfl ?_
  refine mm_go [] 80 ?_
  exact h
/- 160 ThreeBreaths answer -/
theorem fx_160 {d : Nat} {x0 : Int32} {b0 b1 b2 : Bool} {n1 n2 : Nat} {p q : Bool} {ad : Nat → Nat} {I : mmI} {J : mmJ} {Q : mmQ} (h : Q (some (.int x0)) (((mm_fl b0 b1 b2), n1, n2, p, q, ad), (mm_up I 0 7 (nI 0)), J)) : mm_wc (d + 1) 160 [.ref 0, .int x0] (((mm_fl b0 b1 b2), n1, n2, p, q, ad), I, J) Q := by
  refine mm_call (c := 160) rfl rfl ?_
  refine mm_go [] 80 ?_
  exact h
/- 161 ThreeBreaths deny -/
theorem fx_161 {d : Nat} {x0 : Int32} {b0 b1 b2 : Bool} {n1 n2 : Nat} {p q : Bool} {ad : Nat → Nat} {I : mmI} {J : mmJ} {Q : mmQ} (h : Q (some (.int (nI 0))) (((mm_fl b0 b1 b2), n1, n2, p, q, ad), (mm_up I 0 7 x0), J)) : mm_wc (d + 1) 161 [.ref 0, .int x0] (((mm_fl b0 b1 b2), n1, n2, p, q, ad), I, J) Q := by
  refine mm_call (c := 161) rfl rfl ?_
  refine mm_go [] 80 ?_
  show (((nI 0) : Int32) = 0 ∨ ((nI 0) : Int32) = 1) ∧ _
  refine ⟨(by decide), ?_⟩
  exact h
/- 162 ThreeBreaths grant -/
theorem fx_162 {d : Nat} {b0 b1 b2 : Bool} {n1 n2 : Nat} {p q : Bool} {ad : Nat → Nat} {I : mmI} {J : mmJ} {Q : mmQ} (h : Q (some (.int (nI 1))) (((mm_fl b0 b1 b2), n1, n2, p, q, ad), (mm_up I 0 7 (nI 0)), J)) : mm_wc (d + 1) 162 [.ref 0] (((mm_fl b0 b1 b2), n1, n2, p, q, ad), I, J) Q := by
  refine mm_call (c := 162) rfl rfl ?_
  refine mm_go [] 80 ?_
  show (((nI 1) : Int32) = 0 ∨ ((nI 1) : Int32) = 1) ∧ _
  refine ⟨(by decide), ?_⟩
  exact h
/- 163 ThreeBreaths inLowestTerms -/
theorem fx_163 {d : Nat} {x0 : Int64} {x1 : Int64} {x2 : Int32} {b0 b1 b2 : Bool} {n1 n2 : Nat} {p q : Bool} {ad : Nat → Nat} {I : mmI} {J : mmJ} {Q : mmQ} (h : mm_wc d 164 [.long x0, .long x1] (((mm_fl b0 b1 b2), 0, 0, p, q, ad), (mm_up I 0 7 (nI 0)), J) (fun v τ => ∃ r1 I1 J1, v = some (.long r1) ∧ τ = (((mm_fl b0 b1 b2), 0, 0, p, q, ad), I1, J1) ∧ ((¬ (lg_cmp r1 (lN 0)) = (nI 0) → ((x2 = (nI 0) → (¬ r1 = 0 ∧ Q (some (.long (x0 / r1))) (((mm_fl b0 b1 b2), n1, n2, p, q, ad), I1, J1))) ∧ (¬ x2 = (nI 0) → (¬ r1 = 0 ∧ Q (some (.long (x1 / r1))) (((mm_fl b0 b1 b2), n1, n2, p, q, ad), I1, J1))))) ∧ ((lg_cmp r1 (lN 0)) = (nI 0) → Q (some (.long (lN 0))) (((mm_fl b0 b1 b2), n1, n2, p, q, ad), I1, J1))))) : mm_wc (d + 1) 163 [.ref 0, .long x0, .long x1, .int x2] (((mm_fl b0 b1 b2), n1, n2, p, q, ad), I, J) Q := by
  refine mm_call (c := 163) rfl rfl ?_
  refine mm_go [] 80 ?_
  show mm_wc d 164 [.long x0, .long x1] (((mm_fl b0 b1 b2), 0, 0, p, q, ad), (mm_up I 0 7 (nI 0)), J) _
  refine mm_wcm h ?_
  rintro v τ ⟨r1, I1, J1, rfl, rfl, h1⟩
  refine mm_r2' ⟨rfl, ?_⟩
  show mm_b _ _ _ _ _ [some (.ref 0), some (.long x0), none, some (.long x1), none, some (.int x2), none, none] [.long r1] (((mm_fl b0 b1 b2), n1, n2, p, q, ad), I1, J1)
  show (¬ (lg_cmp r1 (lN 0)) = (nI 0) → _) ∧ ((lg_cmp r1 (lN 0)) = (nI 0) → _)
  refine ⟨fun c0 => ?_, fun c0 => ?_⟩
  · show mm_u _ _ _ _ _ _ [some (.ref 0), some (.long x0), none, some (.long x1), none, some (.int x2), some (.long r1), none] [] (((mm_fl b0 b1 b2), n1, n2, p, q, ad), I1, J1)
    show (x2 = (nI 0) → _) ∧ (¬ x2 = (nI 0) → _)
    refine ⟨fun c1 => ?_, fun c1 => ?_⟩
    · show mm_u _ _ _ _ _ _ [none, some (.long x0), none, some (.long x1), none, some (.int x2), some (.long r1), none] [] (((mm_fl b0 b1 b2), n1, n2, p, q, ad), I1, J1)
      show ¬ r1 = 0 ∧ _
      refine ⟨((h1.1 c0).1 c1).1, ?_⟩
      exact ((h1.1 c0).1 c1).2
    · show mm_b _ _ _ _ _ [none, some (.long x0), none, some (.long x1), none, some (.int x2), some (.long r1), none] [] (((mm_fl b0 b1 b2), n1, n2, p, q, ad), I1, J1)
      show ¬ r1 = 0 ∧ _
      refine ⟨((h1.1 c0).2 c1).1, ?_⟩
      exact ((h1.1 c0).2 c1).2
  · exact (h1.2 c0)
/- 164 ThreeBreaths commonMeasure -/
theorem fx_164 {d : Nat} {x0 : Int64} {x1 : Int64} {b0 b1 b2 : Bool} {n1 n2 : Nat} {p q : Bool} {ad : Nat → Nat} {I : mmI} {J : mmJ} {Q : mmQ} (h : mm_w Q (mm_wc d) bk_164 9 [none, none, none, none, some (.long x0), none, some (.long x1), none, some (.int (nI 0)), none, none] [] (((mm_fl b0 b1 b2), n1, n2, p, q, ad), I, J)) : mm_wc (d + 1) 164 [.long x0, .long x1] (((mm_fl b0 b1 b2), n1, n2, p, q, ad), I, J) Q := by
  refine mm_call (c := 164) rfl rfl ?_
  refine mm_go [9] 80 ?_
  exact h
theorem fx_164_9 {d : Nat} {a4 : Int64} {a6 : Int64} {a8 : Int32} {b0 b1 b2 : Bool} {n1 n2 : Nat} {p q : Bool} {ad : Nat → Nat} {I : mmI} {J : mmJ} {Q : mmQ} (h : (((nI 100) ≤ a8 → Q (some (.long a4)) (((mm_fl b0 b1 b2), n1, n2, p, q, ad), I, J)) ∧ (¬ (nI 100) ≤ a8 → (((lg_cmp a6 (lN 0)) = (nI 0) → Q (some (.long a4)) (((mm_fl b0 b1 b2), n1, n2, p, q, ad), I, J)) ∧ (¬ (lg_cmp a6 (lN 0)) = (nI 0) → (¬ a6 = 0 ∧ mm_w Q (mm_wc d) bk_164 9 [none, none, none, none, some (.long a6), none, some (.long (a4 - a4 / a6 * a6)), none, some (.int (a8 + (nI 1))), none, none] [] (((mm_fl b0 b1 b2), n1, n2, p, q, ad), I, J))))))) : mm_w Q (mm_wc (d)) bk_164 9 [none, none, none, none, some (.long a4), none, some (.long a6), none, some (.int a8), none, none] [] (((mm_fl b0 b1 b2), n1, n2, p, q, ad), I, J) := by
  refine mm_go [9] 80 ?_
  show ((nI 100) ≤ a8 → _) ∧ (¬ (nI 100) ≤ a8 → _)
  refine ⟨fun c0 => ?_, fun c0 => ?_⟩
  · exact (h.1 c0)
  · show mm_b _ _ _ _ _ [none, none, none, none, some (.long a4), none, some (.long a6), none, some (.int a8), none, none] [] (((mm_fl b0 b1 b2), n1, n2, p, q, ad), I, J)
    show ((lg_cmp a6 (lN 0)) = (nI 0) → _) ∧ (¬ (lg_cmp a6 (lN 0)) = (nI 0) → _)
    refine ⟨fun c1 => ?_, fun c1 => ?_⟩
    · exact ((h.2 c0).1 c1)
    · show mm_b _ _ _ _ _ [none, none, none, none, some (.long a4), none, some (.long a6), none, some (.int a8), none, none] [] (((mm_fl b0 b1 b2), n1, n2, p, q, ad), I, J)
      show ¬ a6 = 0 ∧ _
      refine ⟨((h.2 c0).2 c1).1, ?_⟩
      exact ((h.2 c0).2 c1).2
