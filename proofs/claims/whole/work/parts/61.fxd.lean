/- 82 ThreeBreaths$Search turnTo -/
theorem fx_82 {d : Nat} {x0 : Int32} {b1 b2 : Bool} {n1 n2 : Nat} {p q : Bool} {ad : Nat → Nat} {I : mmI} {J : mmJ} {Q : mmQ} (h : ((¬ (I 70 9) = (I 6 1) → Q none (((mm_fl true b1 b2), n1, n2, p, q, ad), (mm_up (mm_up (mm_up (mm_up (mm_up I 70 9 (I 6 1)) 70 10 x0) 70 11 (-3)) 70 12 (-3)) 70 13 (nI 0)), J)) ∧ ((I 70 9) = (I 6 1) → (((I 70 10) = x0 → Q none (((mm_fl true b1 b2), n1, n2, p, q, ad), I, J)) ∧ (¬ (I 70 10) = x0 → Q none (((mm_fl true b1 b2), n1, n2, p, q, ad), (mm_up (mm_up (mm_up (mm_up (mm_up I 70 9 (I 6 1)) 70 10 x0) 70 11 (-3)) 70 12 (-3)) 70 13 (nI 0)), J)))))) : mm_wc (d + 1) 82 [.ref 70, .int x0] (((mm_fl true b1 b2), n1, n2, p, q, ad), I, J) Q := by
  refine mm_call (c := 82) rfl rfl ?_
  refine mm_go [] 80 ?_
  show (¬ (I 70 9) = (I 6 1) → _) ∧ ((I 70 9) = (I 6 1) → _)
  refine ⟨fun c0 => ?_, fun c0 => ?_⟩
  · show mm_u _ _ _ _ _ _ [some (.ref 70), some (.int x0)] [] (((mm_fl true b1 b2), n1, n2, p, q, ad), I, J)
    show (((nI 0) : Int32) = 0 ∨ ((nI 0) : Int32) = 1) ∧ _
    refine ⟨(by decide), ?_⟩
    exact (h.1 c0)
  · show mm_b _ _ _ _ _ [some (.ref 70), some (.int x0)] [] (((mm_fl true b1 b2), n1, n2, p, q, ad), I, J)
    show ((I 70 10) = x0 → _) ∧ (¬ (I 70 10) = x0 → _)
    refine ⟨fun c1 => ?_, fun c1 => ?_⟩
    · exact ((h.2 c0).1 c1)
    · show mm_b _ _ _ _ _ [some (.ref 70), some (.int x0)] [] (((mm_fl true b1 b2), n1, n2, p, q, ad), I, J)
      show (((nI 0) : Int32) = 0 ∨ ((nI 0) : Int32) = 1) ∧ _
      refine ⟨(by decide), ?_⟩
      exact ((h.2 c0).2 c1)
/- 83 ThreeBreaths$Search fewestFrom -/
theorem fx_83 {d : Nat} {x0 : Int32} {b1 b2 : Bool} {n1 n2 : Nat} {p q : Bool} {ad : Nat → Nat} {I : mmI} {J : mmJ} {Q : mmQ} (h : mm_wc d 82 [.ref 70, .int x0] (((mm_fl true b1 b2), 0, 0, p, q, ad), I, J) (fun v τ => ∃ I1 J1, v = none ∧ τ = (((mm_fl true b1 b2), 0, 0, p, q, ad), I1, J1) ∧ ((¬ (I1 70 11) = (-3) → Q (some (.int (I1 70 11))) (((mm_fl true b1 b2), n1, n2, p, q, ad), I1, J1)) ∧ ((I1 70 11) = (-3) → mm_wc d 84 [.ref 70, .int x0, .int (nI 4), .int (-1)] (((mm_fl true b1 b2), 0, 0, p, q, ad), I1, J1) (fun v τ => ∃ r2 I2 J2, v = some (.int r2) ∧ τ = (((mm_fl true b1 b2), 0, 0, p, q, ad), I2, J2) ∧ Q (some (.int r2)) (((mm_fl true b1 b2), n1, n2, p, q, ad), (mm_up I2 70 11 r2), J2)))))) : mm_wc (d + 1) 83 [.ref 70, .int x0] (((mm_fl true b1 b2), n1, n2, p, q, ad), I, J) Q := by
  refine mm_call (c := 83) rfl rfl ?_
  refine mm_go [] 80 ?_
  show mm_wc d 82 [.ref 70, .int x0] (((mm_fl true b1 b2), 0, 0, p, q, ad), I, J) _
  refine mm_wcm h ?_
  rintro v τ ⟨I1, J1, rfl, rfl, h1⟩
  refine mm_r0' ⟨rfl, ?_⟩
  show mm_b _ _ _ _ _ [some (.ref 70), some (.int x0)] [] (((mm_fl true b1 b2), n1, n2, p, q, ad), I1, J1)
  show (¬ (I1 70 11) = (-3) → _) ∧ ((I1 70 11) = (-3) → _)
  refine ⟨fun c0 => ?_, fun c0 => ?_⟩
  · exact (h1.1 c0)
  · show mm_b _ _ _ _ _ [some (.ref 70), some (.int x0)] [] (((mm_fl true b1 b2), n1, n2, p, q, ad), I1, J1)
    show mm_wc d 84 [.ref 70, .int x0, .int (nI 4), .int (-1)] (((mm_fl true b1 b2), 0, 0, p, q, ad), I1, J1) _
    refine mm_wcm (h1.2 c0) ?_
    rintro v τ ⟨r2, I2, J2, rfl, rfl, h2⟩
    refine mm_r1' ⟨rfl, ?_⟩
    exact h2
/- 84 ThreeBreaths$Search fewestOf -/
theorem fx_84 {d : Nat} {x0 : Int32} {x1 : Int32} {x2 : Int32} {b1 b2 : Bool} {n1 n2 : Nat} {p q : Bool} {ad : Nat → Nat} {I : mmI} {J : mmJ} {Q : mmQ} (h : mm_wc d 36 [.ref 77, .int x1, .int x2, .int (nI 1)] (((mm_fl true b1 b2), 0, 0, p, q, ad), I, J) (fun v τ => ∃ I1 J1, v = none ∧ τ = (((mm_fl true b1 b2), 0, 0, p, q, ad), I1, J1) ∧ mm_wc d 89 [.ref 70, .int x0, .int (nI 2047)] (((mm_fl true b1 b2), 0, 0, p, q, ad), I1, J1) (fun v τ => ∃ r2 I2 J2, v = some (.int r2) ∧ τ = (((mm_fl true b1 b2), 0, 0, p, q, ad), I2, J2) ∧ Q (some (.int r2)) (((mm_fl true b1 b2), n1, n2, p, q, ad), I2, J2)))) : mm_wc (d + 1) 84 [.ref 70, .int x0, .int x1, .int x2] (((mm_fl true b1 b2), n1, n2, p, q, ad), I, J) Q := by
  refine mm_call (c := 84) rfl rfl ?_
  refine mm_go [] 80 ?_
  show mm_wc d 36 [.ref 77, .int x1, .int x2, .int (nI 1)] (((mm_fl true b1 b2), 0, 0, p, q, ad), I, J) _
  refine mm_wcm h ?_
  rintro v τ ⟨I1, J1, rfl, rfl, h1⟩
  refine mm_r0' ⟨rfl, ?_⟩
  show mm_b _ _ _ _ _ [some (.ref 70), some (.int x0), some (.int x1), some (.int x2)] [] (((mm_fl true b1 b2), n1, n2, p, q, ad), I1, J1)
  show mm_wc d 89 [.ref 70, .int x0, .int (nI 2047)] (((mm_fl true b1 b2), 0, 0, p, q, ad), I1, J1) _
  refine mm_wcm h1 ?_
  rintro v τ ⟨r2, I2, J2, rfl, rfl, h2⟩
  refine mm_r1' ⟨rfl, ?_⟩
  exact h2
/- 85 ThreeBreaths$Search fewestWithout -/
theorem fx_85 {d : Nat} {x0 : Int32} {x1 : Int32} {x2 : Int32} {b1 b2 : Bool} {n1 n2 : Nat} {p q : Bool} {ad : Nat → Nat} {I : mmI} {J : mmJ} {Q : mmQ} (h : mm_wc d 36 [.ref 77, .int x1, .int x2, .int (nI 0)] (((mm_fl true b1 b2), 0, 0, p, q, ad), I, J) (fun v τ => ∃ I1 J1, v = none ∧ τ = (((mm_fl true b1 b2), 0, 0, p, q, ad), I1, J1) ∧ mm_wc d 89 [.ref 70, .int x0, .int (nI 2047)] (((mm_fl true b1 b2), 0, 0, p, q, ad), I1, J1) (fun v τ => ∃ r2 I2 J2, v = some (.int r2) ∧ τ = (((mm_fl true b1 b2), 0, 0, p, q, ad), I2, J2) ∧ Q (some (.int r2)) (((mm_fl true b1 b2), n1, n2, p, q, ad), I2, J2)))) : mm_wc (d + 1) 85 [.ref 70, .int x0, .int x1, .int x2] (((mm_fl true b1 b2), n1, n2, p, q, ad), I, J) Q := by
  refine mm_call (c := 85) rfl rfl ?_
  refine mm_go [] 80 ?_
  show mm_wc d 36 [.ref 77, .int x1, .int x2, .int (nI 0)] (((mm_fl true b1 b2), 0, 0, p, q, ad), I, J) _
  refine mm_wcm h ?_
  rintro v τ ⟨I1, J1, rfl, rfl, h1⟩
  refine mm_r0' ⟨rfl, ?_⟩
  show mm_b _ _ _ _ _ [some (.ref 70), some (.int x0), some (.int x1), some (.int x2)] [] (((mm_fl true b1 b2), n1, n2, p, q, ad), I1, J1)
  show mm_wc d 89 [.ref 70, .int x0, .int (nI 2047)] (((mm_fl true b1 b2), 0, 0, p, q, ad), I1, J1) _
  refine mm_wcm h1 ?_
  rintro v τ ⟨r2, I2, J2, rfl, rfl, h2⟩
  refine mm_r1' ⟨rfl, ?_⟩
  exact h2
/- 86 ThreeBreaths$Search fewestWithoutCandle -/
theorem fx_86 {d : Nat} {x0 : Int32} {x1 : Int32} {b1 b2 : Bool} {n1 n2 : Nat} {p q : Bool} {ad : Nat → Nat} {I : mmI} {J : mmJ} {Q : mmQ} (h : mm_wc d 36 [.ref 77, .int (nI 4), .int (-1), .int (nI 1)] (((mm_fl true b1 b2), 0, 0, p, q, ad), I, J) (fun v τ => ∃ I1 J1, v = none ∧ τ = (((mm_fl true b1 b2), 0, 0, p, q, ad), I1, J1) ∧ mm_wc d 22 [.ref 6, .int x0, .int x1] (((mm_fl true b1 b2), 0, 0, p, q, ad), (mm_up I1 6 13 ((nI 1) <<< (x1 &&& 31))), J1) (fun v τ => ∃ r2 I2 J2, v = some (.int r2) ∧ τ = (((mm_fl true b1 b2), 0, 0, p, q, ad), I2, J2) ∧ mm_wc d 89 [.ref 70, .int r2, .int (nI 2047)] (((mm_fl true b1 b2), 0, 0, p, q, ad), I2, J2) (fun v τ => ∃ r3 I3 J3, v = some (.int r3) ∧ τ = (((mm_fl true b1 b2), 0, 0, p, q, ad), I3, J3) ∧ Q (some (.int r3)) (((mm_fl true b1 b2), n1, n2, p, q, ad), (mm_up I3 6 13 (nI 0)), J3))))) : mm_wc (d + 1) 86 [.ref 70, .int x0, .int x1] (((mm_fl true b1 b2), n1, n2, p, q, ad), I, J) Q := by
  refine mm_call (c := 86) rfl rfl ?_
  refine mm_go [] 80 ?_
  show mm_wc d 36 [.ref 77, .int (nI 4), .int (-1), .int (nI 1)] (((mm_fl true b1 b2), 0, 0, p, q, ad), I, J) _
  refine mm_wcm h ?_
  rintro v τ ⟨I1, J1, rfl, rfl, h1⟩
  refine mm_r0' ⟨rfl, ?_⟩
  show mm_b _ _ _ _ _ [some (.ref 70), some (.int x0), some (.int x1), none] [] (((mm_fl true b1 b2), n1, n2, p, q, ad), I1, J1)
  show mm_wc d 22 [.ref 6, .int x0, .int x1] (((mm_fl true b1 b2), 0, 0, p, q, ad), (mm_up I1 6 13 ((nI 1) <<< (x1 &&& 31))), J1) _
  refine mm_wcm h1 ?_
  rintro v τ ⟨r2, I2, J2, rfl, rfl, h2⟩
  refine mm_r1' ⟨rfl, ?_⟩
  show mm_b _ _ _ _ _ [some (.ref 70), some (.int x0), some (.int x1), none] [.int r2, .ref 70] (((mm_fl true b1 b2), n1, n2, p, q, ad), I2, J2)
  show mm_wc d 89 [.ref 70, .int r2, .int (nI 2047)] (((mm_fl true b1 b2), 0, 0, p, q, ad), I2, J2) _
  refine mm_wcm h2 ?_
  rintro v τ ⟨r3, I3, J3, rfl, rfl, h3⟩
  refine mm_r1' ⟨rfl, ?_⟩
  exact h3
/- 87 ThreeBreaths$Search fewestWithGuest -/
theorem fx_87 {d : Nat} {x0 : Int32} {x1 : Int32} {b1 b2 : Bool} {n1 n2 : Nat} {p q : Bool} {ad : Nat → Nat} {I : mmI} {J : mmJ} {Q : mmQ} (h : mm_wc d 28 [.ref 6, .int x1] (((mm_fl true b1 b2), 0, 0, p, q, ad), I, J) (fun v τ => ∃ I1 J1, v = none ∧ τ = (((mm_fl true b1 b2), 0, 0, p, q, ad), I1, J1) ∧ mm_wc d 37 [.ref 77, .int x1] (((mm_fl true b1 b2), 0, 0, p, q, ad), I1, J1) (fun v τ => ∃ I2 J2, v = none ∧ τ = (((mm_fl true b1 b2), 0, 0, p, q, ad), I2, J2) ∧ mm_wc d 89 [.ref 70, .int (x0 + (nI 8192)), .int (nI 2047)] (((mm_fl true b1 b2), 0, 0, p, q, ad), I2, J2) (fun v τ => ∃ r3 I3 J3, v = some (.int r3) ∧ τ = (((mm_fl true b1 b2), 0, 0, p, q, ad), I3, J3) ∧ Q (some (.int r3)) (((mm_fl true b1 b2), n1, n2, p, q, ad), I3, J3))))) : mm_wc (d + 1) 87 [.ref 70, .int x0, .int x1] (((mm_fl true b1 b2), n1, n2, p, q, ad), I, J) Q := by
  refine mm_call (c := 87) rfl rfl ?_
  refine mm_go [] 80 ?_
  show mm_wc d 28 [.ref 6, .int x1] (((mm_fl true b1 b2), 0, 0, p, q, ad), I, J) _
  refine mm_wcm h ?_
  rintro v τ ⟨I1, J1, rfl, rfl, h1⟩
  refine mm_r0' ⟨rfl, ?_⟩
  show mm_b _ _ _ _ _ [some (.ref 70), some (.int x0), some (.int x1)] [] (((mm_fl true b1 b2), n1, n2, p, q, ad), I1, J1)
  show mm_wc d 37 [.ref 77, .int x1] (((mm_fl true b1 b2), 0, 0, p, q, ad), I1, J1) _
  refine mm_wcm h1 ?_
  rintro v τ ⟨I2, J2, rfl, rfl, h2⟩
  refine mm_r0' ⟨rfl, ?_⟩
  show mm_b _ _ _ _ _ [some (.ref 70), some (.int x0), some (.int x1)] [] (((mm_fl true b1 b2), n1, n2, p, q, ad), I2, J2)
  show mm_wc d 89 [.ref 70, .int (x0 + (nI 8192)), .int (nI 2047)] (((mm_fl true b1 b2), 0, 0, p, q, ad), I2, J2) _
  refine mm_wcm h2 ?_
  rintro v τ ⟨r3, I3, J3, rfl, rfl, h3⟩
  refine mm_r1' ⟨rfl, ?_⟩
  exact h3
/- 88 ThreeBreaths$Search soonestOut -/
theorem fx_88 {d : Nat} {x0 : Int32} {x1 : Int32} {b1 b2 : Bool} {n1 n2 : Nat} {p q : Bool} {ad : Nat → Nat} {I : mmI} {J : mmJ} {Q : mmQ} (h : mm_wc d 36 [.ref 77, .int (nI 4), .int (-1), .int (nI 1)] (((mm_fl true b1 b2), 0, 0, p, q, ad), I, J) (fun v τ => ∃ I1 J1, v = none ∧ τ = (((mm_fl true b1 b2), 0, 0, p, q, ad), I1, J1) ∧ mm_wc d 89 [.ref 70, .int x0, .int ((nI 1) <<< (x1 &&& 31))] (((mm_fl true b1 b2), 0, 0, p, q, ad), I1, J1) (fun v τ => ∃ r2 I2 J2, v = some (.int r2) ∧ τ = (((mm_fl true b1 b2), 0, 0, p, q, ad), I2, J2) ∧ Q (some (.int r2)) (((mm_fl true b1 b2), n1, n2, p, q, ad), I2, J2)))) : mm_wc (d + 1) 88 [.ref 70, .int x0, .int x1] (((mm_fl true b1 b2), n1, n2, p, q, ad), I, J) Q := by
  refine mm_call (c := 88) rfl rfl ?_
  refine mm_go [] 80 ?_
  show mm_wc d 36 [.ref 77, .int (nI 4), .int (-1), .int (nI 1)] (((mm_fl true b1 b2), 0, 0, p, q, ad), I, J) _
  refine mm_wcm h ?_
  rintro v τ ⟨I1, J1, rfl, rfl, h1⟩
  refine mm_r0' ⟨rfl, ?_⟩
  show mm_b _ _ _ _ _ [some (.ref 70), some (.int x0), some (.int x1)] [] (((mm_fl true b1 b2), n1, n2, p, q, ad), I1, J1)
  show mm_wc d 89 [.ref 70, .int x0, .int ((nI 1) <<< (x1 &&& 31))] (((mm_fl true b1 b2), 0, 0, p, q, ad), I1, J1) _
  refine mm_wcm h1 ?_
  rintro v τ ⟨r2, I2, J2, rfl, rfl, h2⟩
  refine mm_r1' ⟨rfl, ?_⟩
  exact h2
/- 89 ThreeBreaths$Search distance -/
theorem fx_89 {d : Nat} {x0 : Int32} {x1 : Int32} {b1 b2 : Bool} {n1 n2 : Nat} {p q : Bool} {ad : Nat → Nat} {I : mmI} {J : mmJ} {Q : mmQ} (h : mm_wc d 90 [.ref 70] (((mm_fl true b1 b2), 0, 0, p, q, ad), I, J) (fun v τ => ∃ I1 J1, v = none ∧ τ = (((mm_fl true b1 b2), 0, 0, p, q, ad), I1, J1) ∧ mm_wc d 91 [.ref 70, .int x0, .int (nI 0)] (((mm_fl true b1 b2), 0, 0, p, q, ad), I1, J1) (fun v τ => ∃ I2 J2, v = none ∧ τ = (((mm_fl true b1 b2), 0, 0, p, q, ad), I2, J2) ∧ mm_wc d 17 [.ref 6, .int x0] (((mm_fl true b1 b2), 0, 0, p, q, ad), I2, J2) (fun v τ => ∃ r3 I3 J3, v = some (.int r3) ∧ τ = (((mm_fl true b1 b2), 0, 0, p, q, ad), I3, J3) ∧ ((¬ (r3 &&& x1) = (nI 0) → mm_w Q (mm_wc d) bk_89 27 [some (.ref 70), none, some (.int x1), some (.int (nI 0)), none, none] [] (((mm_fl true b1 b2), n1, n2, p, q, ad), I3, J3)) ∧ ((r3 &&& x1) = (nI 0) → Q (some (.int (nI 0))) (((mm_fl true b1 b2), n1, n2, p, q, ad), I3, J3))))))) : mm_wc (d + 1) 89 [.ref 70, .int x0, .int x1] (((mm_fl true b1 b2), n1, n2, p, q, ad), I, J) Q := by
  refine mm_call (c := 89) rfl rfl ?_
  refine mm_go [27, 47] 80 ?_
  show mm_wc d 90 [.ref 70] (((mm_fl true b1 b2), 0, 0, p, q, ad), I, J) _
  refine mm_wcm h ?_
  rintro v τ ⟨I1, J1, rfl, rfl, h1⟩
  refine mm_r0' ⟨rfl, ?_⟩
  show mm_b _ _ _ _ _ [some (.ref 70), some (.int x0), some (.int x1), none, none, none] [] (((mm_fl true b1 b2), n1, n2, p, q, ad), I1, J1)
  show mm_wc d 91 [.ref 70, .int x0, .int (nI 0)] (((mm_fl true b1 b2), 0, 0, p, q, ad), I1, J1) _
  refine mm_wcm h1 ?_
  rintro v τ ⟨I2, J2, rfl, rfl, h2⟩
  refine mm_r0' ⟨rfl, ?_⟩
  show mm_b _ _ _ _ _ [some (.ref 70), some (.int x0), some (.int x1), none, none, none] [] (((mm_fl true b1 b2), n1, n2, p, q, ad), I2, J2)
  show mm_wc d 17 [.ref 6, .int x0] (((mm_fl true b1 b2), 0, 0, p, q, ad), I2, J2) _
  refine mm_wcm h2 ?_
  rintro v τ ⟨r3, I3, J3, rfl, rfl, h3⟩
  refine mm_r1' ⟨rfl, ?_⟩
  show mm_b _ _ _ _ _ [some (.ref 70), some (.int x0), some (.int x1), none, none, none] [.int r3] (((mm_fl true b1 b2), n1, n2, p, q, ad), I3, J3)
  show (¬ (r3 &&& x1) = (nI 0) → _) ∧ ((r3 &&& x1) = (nI 0) → _)
  refine ⟨fun c0 => ?_, fun c0 => ?_⟩
  · exact (h3.1 c0)
  · exact (h3.2 c0)
theorem fx_89_27 {d : Nat} {a2 : Int32} {a3 : Int32} {b1 b2 : Bool} {n1 n2 : Nat} {p q : Bool} {ad : Nat → Nat} {I : mmI} {J : mmJ} {Q : mmQ} (h : (((I 70 5) ≤ a3 → Q (some (.int (-2))) (((mm_fl true b1 b2), n1, n2, p, q, ad), I, J)) ∧ (¬ (I 70 5) ≤ a3 → (((nI 6912) ≤ a3 → Q (some (.int (-2))) (((mm_fl true b1 b2), n1, n2, p, q, ad), I, J)) ∧ (¬ (nI 6912) ≤ a3 → mm_w Q (mm_wc d) bk_89 47 [some (.ref 70), none, some (.int a2), some (.int a3), some (.int (nI 0)), none] [] (((mm_fl true b1 b2), n1, n2, p, q, ad), I, J)))))) : mm_w Q (mm_wc (d)) bk_89 27 [some (.ref 70), none, some (.int a2), some (.int a3), none, none] [] (((mm_fl true b1 b2), n1, n2, p, q, ad), I, J) := by
  refine mm_go [27, 47] 80 ?_
  show ((I 70 5) ≤ a3 → _) ∧ (¬ (I 70 5) ≤ a3 → _)
  refine ⟨fun c0 => ?_, fun c0 => ?_⟩
  · exact (h.1 c0)
  · show mm_b _ _ _ _ _ [some (.ref 70), none, some (.int a2), some (.int a3), none, none] [] (((mm_fl true b1 b2), n1, n2, p, q, ad), I, J)
    show ((nI 6912) ≤ a3 → _) ∧ (¬ (nI 6912) ≤ a3 → _)
    refine ⟨fun c1 => ?_, fun c1 => ?_⟩
    · exact ((h.2 c0).1 c1)
    · exact ((h.2 c0).2 c1)
theorem fx_89_47 {d : Nat} {a2 : Int32} {a3 : Int32} {a4 : Int32} {b1 b2 : Bool} {n1 n2 : Nat} {p q : Bool} {ad : Nat → Nat} {I : mmI} {J : mmJ} {Q : mmQ} (h : (((I 77 3) ≤ a4 → mm_w Q (mm_wc d) bk_89 27 [some (.ref 70), none, some (.int a2), some (.int (a3 + (nI 1))), none, none] [] (((mm_fl true b1 b2), n1, n2, p, q, ad), I, J)) ∧ (¬ (I 77 3) ≤ a4 → (vp_in a3 6912 ∧ (vp_in a4 320 ∧ mm_wc d 24 [.ref 6, .int (I 72 a3.toNatClampNeg), .int (I 78 a4.toNatClampNeg)] (((mm_fl true b1 b2), 0, 0, p, q, ad), I, J) (fun v τ => ∃ r1 I1 J1, v = some (.int r1) ∧ τ = (((mm_fl true b1 b2), 0, 0, p, q, ad), I1, J1) ∧ (vp_in r1 16384 ∧ ((¬ (I1 71 r1.toNatClampNeg) = (nI 0) → mm_w Q (mm_wc d) bk_89 47 [some (.ref 70), none, some (.int a2), some (.int a3), some (.int (a4 + (nI 1))), none] [] (((mm_fl true b1 b2), n1, n2, p, q, ad), I1, J1)) ∧ ((I1 71 r1.toNatClampNeg) = (nI 0) → (vp_in a3 6912 ∧ mm_wc d 91 [.ref 70, .int r1, .int ((I1 73 a3.toNatClampNeg) + (nI 1))] (((mm_fl true b1 b2), 0, 0, p, q, ad), I1, J1) (fun v τ => ∃ I2 J2, v = none ∧ τ = (((mm_fl true b1 b2), 0, 0, p, q, ad), I2, J2) ∧ mm_wc d 17 [.ref 6, .int r1] (((mm_fl true b1 b2), 0, 0, p, q, ad), I2, J2) (fun v τ => ∃ r3 I3 J3, v = some (.int r3) ∧ τ = (((mm_fl true b1 b2), 0, 0, p, q, ad), I3, J3) ∧ ((¬ (r3 &&& a2) = (nI 0) → mm_w Q (mm_wc d) bk_89 47 [some (.ref 70), none, some (.int a2), some (.int a3), some (.int (a4 + (nI 1))), none] [] (((mm_fl true b1 b2), n1, n2, p, q, ad), I3, J3)) ∧ ((r3 &&& a2) = (nI 0) → (vp_in a3 6912 ∧ Q (some (.int ((I3 73 a3.toNatClampNeg) + (nI 1)))) (((mm_fl true b1 b2), n1, n2, p, q, ad), I3, J3)))))))))))))))) : mm_w Q (mm_wc (d)) bk_89 47 [some (.ref 70), none, some (.int a2), some (.int a3), some (.int a4), none] [] (((mm_fl true b1 b2), n1, n2, p, q, ad), I, J) := by
  refine mm_go [27, 47] 80 ?_
  show ((I 77 3) ≤ a4 → _) ∧ (¬ (I 77 3) ≤ a4 → _)
  refine ⟨fun c0 => ?_, fun c0 => ?_⟩
  · exact (h.1 c0)
  · show mm_b _ _ _ _ _ [some (.ref 70), none, some (.int a2), some (.int a3), some (.int a4), none] [] (((mm_fl true b1 b2), n1, n2, p, q, ad), I, J)
    show vp_in a3 6912 ∧ _
    refine ⟨(h.2 c0).1, ?_⟩
    show mm_b _ _ _ _ _ [some (.ref 70), none, some (.int a2), some (.int a3), some (.int a4), none] [.int (I 72 a3.toNatClampNeg), .ref 6] (((mm_fl true b1 b2), n1, n2, p, q, ad), I, J)
    show vp_in a4 320 ∧ _
    refine ⟨(h.2 c0).2.1, ?_⟩
    show mm_b _ _ _ _ _ [some (.ref 70), none, some (.int a2), some (.int a3), some (.int a4), none] [.int (I 78 a4.toNatClampNeg), .int (I 72 a3.toNatClampNeg), .ref 6] (((mm_fl true b1 b2), n1, n2, p, q, ad), I, J)
    show mm_wc d 24 [.ref 6, .int (I 72 a3.toNatClampNeg), .int (I 78 a4.toNatClampNeg)] (((mm_fl true b1 b2), 0, 0, p, q, ad), I, J) _
    refine mm_wcm ((h.2 c0).2.2) ?_
    rintro v τ ⟨r1, I1, J1, rfl, rfl, h1⟩
    refine mm_r1' ⟨rfl, ?_⟩
    show mm_b _ _ _ _ _ [some (.ref 70), none, some (.int a2), some (.int a3), some (.int a4), none] [.int r1] (((mm_fl true b1 b2), n1, n2, p, q, ad), I1, J1)
    show vp_in r1 16384 ∧ _
    refine ⟨h1.1, ?_⟩
    show mm_b _ _ _ _ _ [some (.ref 70), none, some (.int a2), some (.int a3), some (.int a4), some (.int r1)] [.int (I1 71 r1.toNatClampNeg)] (((mm_fl true b1 b2), n1, n2, p, q, ad), I1, J1)
    show (¬ (I1 71 r1.toNatClampNeg) = (nI 0) → _) ∧ ((I1 71 r1.toNatClampNeg) = (nI 0) → _)
    refine ⟨fun c1 => ?_, fun c1 => ?_⟩
    · exact (h1.2.1 c1)
    · show mm_b _ _ _ _ _ [some (.ref 70), none, some (.int a2), some (.int a3), some (.int a4), some (.int r1)] [] (((mm_fl true b1 b2), n1, n2, p, q, ad), I1, J1)
      show vp_in a3 6912 ∧ _
      refine ⟨(h1.2.2 c1).1, ?_⟩
      show mm_b _ _ _ _ _ [some (.ref 70), none, some (.int a2), some (.int a3), some (.int a4), some (.int r1)] [.int (I1 73 a3.toNatClampNeg), .int r1, .ref 70] (((mm_fl true b1 b2), n1, n2, p, q, ad), I1, J1)
      show mm_wc d 91 [.ref 70, .int r1, .int ((I1 73 a3.toNatClampNeg) + (nI 1))] (((mm_fl true b1 b2), 0, 0, p, q, ad), I1, J1) _
      refine mm_wcm ((h1.2.2 c1).2) ?_
      rintro v τ ⟨I2, J2, rfl, rfl, h2⟩
      refine mm_r0' ⟨rfl, ?_⟩
      show mm_b _ _ _ _ _ [some (.ref 70), none, some (.int a2), some (.int a3), some (.int a4), some (.int r1)] [] (((mm_fl true b1 b2), n1, n2, p, q, ad), I2, J2)
      show mm_wc d 17 [.ref 6, .int r1] (((mm_fl true b1 b2), 0, 0, p, q, ad), I2, J2) _
      refine mm_wcm h2 ?_
      rintro v τ ⟨r3, I3, J3, rfl, rfl, h3⟩
      refine mm_r1' ⟨rfl, ?_⟩
      show mm_b _ _ _ _ _ [some (.ref 70), none, some (.int a2), some (.int a3), some (.int a4), some (.int r1)] [.int r3] (((mm_fl true b1 b2), n1, n2, p, q, ad), I3, J3)
      show (¬ (r3 &&& a2) = (nI 0) → _) ∧ ((r3 &&& a2) = (nI 0) → _)
      refine ⟨fun c2 => ?_, fun c2 => ?_⟩
      · exact (h3.1 c2)
      · show mm_b _ _ _ _ _ [some (.ref 70), none, some (.int a2), some (.int a3), some (.int a4), some (.int r1)] [] (((mm_fl true b1 b2), n1, n2, p, q, ad), I3, J3)
        show vp_in a3 6912 ∧ _
        refine ⟨(h3.2 c2).1, ?_⟩
        exact (h3.2 c2).2
/- 90 ThreeBreaths$Search forget -/
theorem fx_90 {d : Nat} {b1 b2 : Bool} {n1 n2 : Nat} {p q : Bool} {ad : Nat → Nat} {I : mmI} {J : mmJ} {Q : mmQ} (h : mm_w Q (mm_wc d) bk_90 2 [some (.ref 70), some (.int (nI 0))] [] (((mm_fl true b1 b2), n1, n2, p, q, ad), I, J)) : mm_wc (d + 1) 90 [.ref 70] (((mm_fl true b1 b2), n1, n2, p, q, ad), I, J) Q := by
  refine mm_call (c := 90) rfl rfl ?_
  refine mm_go [2] 80 ?_
  exact h
theorem fx_90_2 {d : Nat} {a1 : Int32} {b1 b2 : Bool} {n1 n2 : Nat} {p q : Bool} {ad : Nat → Nat} {I : mmI} {J : mmJ} {Q : mmQ} (h : (((I 70 5) ≤ a1 → Q none (((mm_fl true b1 b2), n1, n2, p, q, ad), (mm_up I 70 5 (nI 0)), J)) ∧ (¬ (I 70 5) ≤ a1 → (vp_in a1 6912 ∧ (vp_in (I 72 a1.toNatClampNeg) 16384 ∧ mm_w Q (mm_wc d) bk_90 2 [some (.ref 70), some (.int (a1 + (nI 1)))] [] (((mm_fl true b1 b2), n1, n2, p, q, ad), (mm_up I 71 ((I 72 a1.toNatClampNeg)).toNatClampNeg (nI 0)), J)))))) : mm_w Q (mm_wc (d)) bk_90 2 [some (.ref 70), some (.int a1)] [] (((mm_fl true b1 b2), n1, n2, p, q, ad), I, J) := by
  refine mm_go [2] 80 ?_
  show ((I 70 5) ≤ a1 → _) ∧ (¬ (I 70 5) ≤ a1 → _)
  refine ⟨fun c0 => ?_, fun c0 => ?_⟩
  · exact (h.1 c0)
  · show mm_b _ _ _ _ _ [some (.ref 70), some (.int a1)] [] (((mm_fl true b1 b2), n1, n2, p, q, ad), I, J)
    show vp_in a1 6912 ∧ _
    refine ⟨(h.2 c0).1, ?_⟩
    show mm_b _ _ _ _ _ [some (.ref 70), some (.int a1)] [.int (I 72 a1.toNatClampNeg), .ref 71] (((mm_fl true b1 b2), n1, n2, p, q, ad), I, J)
    show vp_in (I 72 a1.toNatClampNeg) 16384 ∧ _
    refine ⟨(h.2 c0).2.1, ?_⟩
    exact (h.2 c0).2.2
/- 91 ThreeBreaths$Search note -/
theorem fx_91 {d : Nat} {x0 : Int32} {x1 : Int32} {b1 b2 : Bool} {n1 n2 : Nat} {p q : Bool} {ad : Nat → Nat} {I : mmI} {J : mmJ} {Q : mmQ} (h : (((nI 6912) ≤ (I 70 5) → Q none (((mm_fl true b1 b2), n1, n2, p, q, ad), I, J)) ∧ (¬ (nI 6912) ≤ (I 70 5) → (vp_in (I 70 5) 6912 ∧ (vp_in (I 70 5) 6912 ∧ (vp_in x0 16384 ∧ Q none (((mm_fl true b1 b2), n1, n2, p, q, ad), (mm_up (mm_up (mm_up (mm_up I 72 ((I 70 5)).toNatClampNeg x0) 73 ((I 70 5)).toNatClampNeg x1) 70 5 ((I 70 5) + (nI 1))) 71 x0.toNatClampNeg ((I 70 5) + (nI 1))), J))))))) : mm_wc (d + 1) 91 [.ref 70, .int x0, .int x1] (((mm_fl true b1 b2), n1, n2, p, q, ad), I, J) Q := by
  refine mm_call (c := 91) rfl rfl ?_
  refine mm_go [] 80 ?_
  show ((nI 6912) ≤ (I 70 5) → _) ∧ (¬ (nI 6912) ≤ (I 70 5) → _)
  refine ⟨fun c0 => ?_, fun c0 => ?_⟩
  · exact (h.1 c0)
  · show mm_b _ _ _ _ _ [some (.ref 70), some (.int x0), some (.int x1)] [] (((mm_fl true b1 b2), n1, n2, p, q, ad), I, J)
    show vp_in (I 70 5) 6912 ∧ _
    refine ⟨(h.2 c0).1, ?_⟩
    show mm_b _ _ _ _ _ [some (.ref 70), some (.int x0), some (.int x1)] [] (((mm_fl true b1 b2), n1, n2, p, q, ad), (mm_up I 72 ((I 70 5)).toNatClampNeg x0), J)
    show vp_in (I 70 5) 6912 ∧ _
    refine ⟨(h.2 c0).2.1, ?_⟩
    show mm_b _ _ _ _ _ [some (.ref 70), some (.int x0), some (.int x1)] [] (((mm_fl true b1 b2), n1, n2, p, q, ad), (mm_up (mm_up I 72 ((I 70 5)).toNatClampNeg x0) 73 ((I 70 5)).toNatClampNeg x1), J)
    show vp_in x0 16384 ∧ _
    refine ⟨(h.2 c0).2.2.1, ?_⟩
    exact (h.2 c0).2.2.2
/- 92 ThreeBreaths$Search rowAt -/
theorem fx_92 {d : Nat} {x0 : Int32} {x1 : Int32} {b1 b2 : Bool} {n1 n2 : Nat} {p q : Bool} {ad : Nat → Nat} {I : mmI} {J : mmJ} {Q : mmQ} (h : mm_wc d 82 [.ref 70, .int x0] (((mm_fl true b1 b2), 0, 0, p, q, ad), I, J) (fun v τ => ∃ I1 J1, v = none ∧ τ = (((mm_fl true b1 b2), 0, 0, p, q, ad), I1, J1) ∧ ((¬ (I1 70 13) = (nI 0) → ((x1 < (nI 0) → Q (some (.int (-1))) (((mm_fl true b1 b2), n1, n2, p, q, ad), I1, J1)) ∧ (¬ x1 < (nI 0) → (((nI 3456) ≤ x1 → Q (some (.int (-1))) (((mm_fl true b1 b2), n1, n2, p, q, ad), I1, J1)) ∧ (¬ (nI 3456) ≤ x1 → (vp_in x1 3456 ∧ Q (some (.int (I1 76 x1.toNatClampNeg))) (((mm_fl true b1 b2), n1, n2, p, q, ad), I1, J1))))))) ∧ ((I1 70 13) = (nI 0) → mm_wc d 93 [.ref 70, .int x0] (((mm_fl true b1 b2), 0, 0, p, q, ad), I1, J1) (fun v τ => ∃ I2 J2, v = none ∧ τ = (((mm_fl true b1 b2), 0, 0, p, q, ad), I2, J2) ∧ ((x1 < (nI 0) → Q (some (.int (-1))) (((mm_fl true b1 b2), n1, n2, p, q, ad), (mm_up I2 70 13 (nI 1)), J2)) ∧ (¬ x1 < (nI 0) → (((nI 3456) ≤ x1 → Q (some (.int (-1))) (((mm_fl true b1 b2), n1, n2, p, q, ad), (mm_up I2 70 13 (nI 1)), J2)) ∧ (¬ (nI 3456) ≤ x1 → (vp_in x1 3456 ∧ Q (some (.int (I2 76 x1.toNatClampNeg))) (((mm_fl true b1 b2), n1, n2, p, q, ad), (mm_up I2 70 13 (nI 1)), J2))))))))))) : mm_wc (d + 1) 92 [.ref 70, .int x0, .int x1] (((mm_fl true b1 b2), n1, n2, p, q, ad), I, J) Q := by
  refine mm_call (c := 92) rfl rfl ?_
  refine mm_go [] 80 ?_
  show mm_wc d 82 [.ref 70, .int x0] (((mm_fl true b1 b2), 0, 0, p, q, ad), I, J) _
  refine mm_wcm h ?_
  rintro v τ ⟨I1, J1, rfl, rfl, h1⟩
  refine mm_r0' ⟨rfl, ?_⟩
  show mm_b _ _ _ _ _ [some (.ref 70), some (.int x0), some (.int x1)] [] (((mm_fl true b1 b2), n1, n2, p, q, ad), I1, J1)
  show (¬ (I1 70 13) = (nI 0) → _) ∧ ((I1 70 13) = (nI 0) → _)
  refine ⟨fun c0 => ?_, fun c0 => ?_⟩
  · show mm_u _ _ _ _ _ _ [some (.ref 70), some (.int x0), some (.int x1)] [] (((mm_fl true b1 b2), n1, n2, p, q, ad), I1, J1)
    show (x1 < (nI 0) → _) ∧ (¬ x1 < (nI 0) → _)
    refine ⟨fun c1 => ?_, fun c1 => ?_⟩
    · exact ((h1.1 c0).1 c1)
    · show mm_b _ _ _ _ _ [some (.ref 70), none, some (.int x1)] [] (((mm_fl true b1 b2), n1, n2, p, q, ad), I1, J1)
      show ((nI 3456) ≤ x1 → _) ∧ (¬ (nI 3456) ≤ x1 → _)
      refine ⟨fun c2 => ?_, fun c2 => ?_⟩
      · exact (((h1.1 c0).2 c1).1 c2)
      · show mm_b _ _ _ _ _ [some (.ref 70), none, some (.int x1)] [] (((mm_fl true b1 b2), n1, n2, p, q, ad), I1, J1)
        show vp_in x1 3456 ∧ _
        refine ⟨(((h1.1 c0).2 c1).2 c2).1, ?_⟩
        exact (((h1.1 c0).2 c1).2 c2).2
  · show mm_b _ _ _ _ _ [some (.ref 70), some (.int x0), some (.int x1)] [] (((mm_fl true b1 b2), n1, n2, p, q, ad), I1, J1)
    show mm_wc d 93 [.ref 70, .int x0] (((mm_fl true b1 b2), 0, 0, p, q, ad), I1, J1) _
    refine mm_wcm (h1.2 c0) ?_
    rintro v τ ⟨I2, J2, rfl, rfl, h2⟩
    refine mm_r0' ⟨rfl, ?_⟩
    show mm_b _ _ _ _ _ [some (.ref 70), some (.int x0), some (.int x1)] [] (((mm_fl true b1 b2), n1, n2, p, q, ad), I2, J2)
    show (((nI 1) : Int32) = 0 ∨ ((nI 1) : Int32) = 1) ∧ _
    refine ⟨(by decide), ?_⟩
    show mm_b _ _ _ _ _ [some (.ref 70), some (.int x0), some (.int x1)] [] (((mm_fl true b1 b2), n1, n2, p, q, ad), (mm_up I2 70 13 (nI 1)), J2)
    show (x1 < (nI 0) → _) ∧ (¬ x1 < (nI 0) → _)
    refine ⟨fun c1 => ?_, fun c1 => ?_⟩
    · exact (h2.1 c1)
    · show mm_b _ _ _ _ _ [some (.ref 70), none, some (.int x1)] [] (((mm_fl true b1 b2), n1, n2, p, q, ad), (mm_up I2 70 13 (nI 1)), J2)
      show ((nI 3456) ≤ x1 → _) ∧ (¬ (nI 3456) ≤ x1 → _)
      refine ⟨fun c2 => ?_, fun c2 => ?_⟩
      · exact ((h2.2 c1).1 c2)
      · show mm_b _ _ _ _ _ [some (.ref 70), none, some (.int x1)] [] (((mm_fl true b1 b2), n1, n2, p, q, ad), (mm_up I2 70 13 (nI 1)), J2)
        show vp_in x1 3456 ∧ _
        refine ⟨((h2.2 c1).2 c2).1, ?_⟩
        exact ((h2.2 c1).2 c2).2
/- 93 ThreeBreaths$Search findRow -/
theorem fx_93 {d : Nat} {x0 : Int32} {b1 b2 : Bool} {n1 n2 : Nat} {p q : Bool} {ad : Nat → Nat} {I : mmI} {J : mmJ} {Q : mmQ} (h : mm_wc d 84 [.ref 70, .int x0, .int (nI 4), .int (-1)] (((mm_fl true b1 b2), 0, 0, p, q, ad), I, J) (fun v τ => ∃ r1 I1 J1, v = some (.int r1) ∧ τ = (((mm_fl true b1 b2), 0, 0, p, q, ad), I1, J1) ∧ ((¬ r1 = (-2) → mm_wc d 94 [.ref 70, .int r1] (((mm_fl true b1 b2), 0, 0, p, q, ad), I1, J1) (fun v τ => ∃ I2 J2, v = none ∧ τ = (((mm_fl true b1 b2), 0, 0, p, q, ad), I2, J2) ∧ mm_w Q (mm_wc d) bk_93 25 [some (.ref 70), none, some (.int r1), some (.int (nI 0)), some (.int (nI 0)), none] [] (((mm_fl true b1 b2), n1, n2, p, q, ad), I2, J2))) ∧ (r1 = (-2) → Q none (((mm_fl true b1 b2), n1, n2, p, q, ad), I1, J1))))) : mm_wc (d + 1) 93 [.ref 70, .int x0] (((mm_fl true b1 b2), n1, n2, p, q, ad), I, J) Q := by
  refine mm_call (c := 93) rfl rfl ?_
  refine mm_go [25] 80 ?_
  show mm_wc d 84 [.ref 70, .int x0, .int (nI 4), .int (-1)] (((mm_fl true b1 b2), 0, 0, p, q, ad), I, J) _
  refine mm_wcm h ?_
  rintro v τ ⟨r1, I1, J1, rfl, rfl, h1⟩
  refine mm_r1' ⟨rfl, ?_⟩
  show mm_b _ _ _ _ _ [some (.ref 70), some (.int x0), none, none, none, none] [.int r1] (((mm_fl true b1 b2), n1, n2, p, q, ad), I1, J1)
  show (¬ r1 = (-2) → _) ∧ (r1 = (-2) → _)
  refine ⟨fun c0 => ?_, fun c0 => ?_⟩
  · show mm_u _ _ _ _ _ _ [some (.ref 70), some (.int x0), some (.int r1), none, none, none] [] (((mm_fl true b1 b2), n1, n2, p, q, ad), I1, J1)
    show mm_wc d 94 [.ref 70, .int r1] (((mm_fl true b1 b2), 0, 0, p, q, ad), I1, J1) _
    refine mm_wcm (h1.1 c0) ?_
    rintro v τ ⟨I2, J2, rfl, rfl, h2⟩
    refine mm_r0' ⟨rfl, ?_⟩
    exact h2
  · exact (h1.2 c0)
theorem fx_93_25 {d : Nat} {a2 : Int32} {a3 : Int32} {a4 : Int32} {b1 b2 : Bool} {n1 n2 : Nat} {p q : Bool} {ad : Nat → Nat} {I : mmI} {J : mmJ} {Q : mmQ} (h : ((a2 ≤ a4 → Q none (((mm_fl true b1 b2), n1, n2, p, q, ad), I, J)) ∧ (¬ a2 ≤ a4 → (((nI 3456) ≤ a4 → Q none (((mm_fl true b1 b2), n1, n2, p, q, ad), I, J)) ∧ (¬ (nI 3456) ≤ a4 → mm_wc d 95 [.ref 70, .int a3] (((mm_fl true b1 b2), 0, 0, p, q, ad), I, J) (fun v τ => ∃ r1 I1 J1, v = some (.int r1) ∧ τ = (((mm_fl true b1 b2), 0, 0, p, q, ad), I1, J1) ∧ ((¬ r1 = (-1) → (vp_in r1 320 ∧ (vp_in a4 3456 ∧ (vp_in a3 6912 ∧ (vp_in r1 320 ∧ mm_wc d 24 [.ref 6, .int (I1 72 a3.toNatClampNeg), .int (I1 78 r1.toNatClampNeg)] (((mm_fl true b1 b2), 0, 0, p, q, ad), (mm_up I1 76 a4.toNatClampNeg (I1 79 r1.toNatClampNeg)), J1) (fun v τ => ∃ r2 I2 J2, v = some (.int r2) ∧ τ = (((mm_fl true b1 b2), 0, 0, p, q, ad), I2, J2) ∧ (vp_in r2 16384 ∧ mm_w Q (mm_wc d) bk_93 25 [some (.ref 70), none, some (.int a2), some (.int ((I2 71 r2.toNatClampNeg) - (nI 1))), some (.int (a4 + (nI 1))), none] [] (((mm_fl true b1 b2), n1, n2, p, q, ad), I2, J2)))))))) ∧ (r1 = (-1) → Q none (((mm_fl true b1 b2), n1, n2, p, q, ad), I1, J1))))))))) : mm_w Q (mm_wc (d)) bk_93 25 [some (.ref 70), none, some (.int a2), some (.int a3), some (.int a4), none] [] (((mm_fl true b1 b2), n1, n2, p, q, ad), I, J) := by
  refine mm_go [25] 80 ?_
  show (a2 ≤ a4 → _) ∧ (¬ a2 ≤ a4 → _)
  refine ⟨fun c0 => ?_, fun c0 => ?_⟩
  · exact (h.1 c0)
  · show mm_b _ _ _ _ _ [some (.ref 70), none, some (.int a2), some (.int a3), some (.int a4), none] [] (((mm_fl true b1 b2), n1, n2, p, q, ad), I, J)
    show ((nI 3456) ≤ a4 → _) ∧ (¬ (nI 3456) ≤ a4 → _)
    refine ⟨fun c1 => ?_, fun c1 => ?_⟩
    · exact ((h.2 c0).1 c1)
    · show mm_b _ _ _ _ _ [some (.ref 70), none, some (.int a2), some (.int a3), some (.int a4), none] [] (((mm_fl true b1 b2), n1, n2, p, q, ad), I, J)
      show mm_wc d 95 [.ref 70, .int a3] (((mm_fl true b1 b2), 0, 0, p, q, ad), I, J) _
      refine mm_wcm ((h.2 c0).2 c1) ?_
      rintro v τ ⟨r1, I1, J1, rfl, rfl, h1⟩
      refine mm_r1' ⟨rfl, ?_⟩
      show mm_b _ _ _ _ _ [some (.ref 70), none, some (.int a2), some (.int a3), some (.int a4), none] [.int r1] (((mm_fl true b1 b2), n1, n2, p, q, ad), I1, J1)
      show (¬ r1 = (-1) → _) ∧ (r1 = (-1) → _)
      refine ⟨fun c2 => ?_, fun c2 => ?_⟩
      · show mm_u _ _ _ _ _ _ [some (.ref 70), none, some (.int a2), some (.int a3), some (.int a4), some (.int r1)] [] (((mm_fl true b1 b2), n1, n2, p, q, ad), I1, J1)
        show vp_in r1 320 ∧ _
        refine ⟨(h1.1 c2).1, ?_⟩
        show mm_b _ _ _ _ _ [some (.ref 70), none, some (.int a2), some (.int a3), some (.int a4), some (.int r1)] [.int (I1 79 r1.toNatClampNeg), .int a4, .ref 76] (((mm_fl true b1 b2), n1, n2, p, q, ad), I1, J1)
        show vp_in a4 3456 ∧ _
        refine ⟨(h1.1 c2).2.1, ?_⟩
        show mm_b _ _ _ _ _ [some (.ref 70), none, some (.int a2), some (.int a3), some (.int a4), some (.int r1)] [] (((mm_fl true b1 b2), n1, n2, p, q, ad), (mm_up I1 76 a4.toNatClampNeg (I1 79 r1.toNatClampNeg)), J1)
        show vp_in a3 6912 ∧ _
        refine ⟨(h1.1 c2).2.2.1, ?_⟩
        show mm_b _ _ _ _ _ [some (.ref 70), none, some (.int a2), some (.int a3), some (.int a4), some (.int r1)] [.int (I1 72 a3.toNatClampNeg), .ref 6, .ref 71] (((mm_fl true b1 b2), n1, n2, p, q, ad), (mm_up I1 76 a4.toNatClampNeg (I1 79 r1.toNatClampNeg)), J1)
        show vp_in r1 320 ∧ _
        refine ⟨(h1.1 c2).2.2.2.1, ?_⟩
        show mm_b _ _ _ _ _ [some (.ref 70), none, some (.int a2), some (.int a3), some (.int a4), some (.int r1)] [.int (I1 78 r1.toNatClampNeg), .int (I1 72 a3.toNatClampNeg), .ref 6, .ref 71] (((mm_fl true b1 b2), n1, n2, p, q, ad), (mm_up I1 76 a4.toNatClampNeg (I1 79 r1.toNatClampNeg)), J1)
        show mm_wc d 24 [.ref 6, .int (I1 72 a3.toNatClampNeg), .int (I1 78 r1.toNatClampNeg)] (((mm_fl true b1 b2), 0, 0, p, q, ad), (mm_up I1 76 a4.toNatClampNeg (I1 79 r1.toNatClampNeg)), J1) _
        refine mm_wcm ((h1.1 c2).2.2.2.2) ?_
        rintro v τ ⟨r2, I2, J2, rfl, rfl, h2⟩
        refine mm_r1' ⟨rfl, ?_⟩
        show mm_b _ _ _ _ _ [some (.ref 70), none, some (.int a2), some (.int a3), some (.int a4), some (.int r1)] [.int r2, .ref 71] (((mm_fl true b1 b2), n1, n2, p, q, ad), I2, J2)
        show vp_in r2 16384 ∧ _
        refine ⟨h2.1, ?_⟩
        exact h2.2
      · exact (h1.2 c2)
/- 94 ThreeBreaths$Search markWays -/
theorem fx_94 {d : Nat} {x0 : Int32} {b1 b2 : Bool} {n1 n2 : Nat} {p q : Bool} {ad : Nat → Nat} {I : mmI} {J : mmJ} {Q : mmQ} (h : mm_wc d 1002 [.int (I 70 5), .int (nI 3456)] (((mm_fl true b1 b2), 0, 0, p, q, ad), I, J) (fun v τ => ∃ r1 I1 J1, v = some (.int r1) ∧ τ = (((mm_fl true b1 b2), 0, 0, p, q, ad), I1, J1) ∧ mm_w Q (mm_wc d) bk_94 15 [some (.ref 70), some (.int x0), some (.int (r1 - (nI 1))), some (.int (r1 - (nI 1)))] [] (((mm_fl true b1 b2), n1, n2, p, q, ad), I1, J1))) : mm_wc (d + 1) 94 [.ref 70, .int x0] (((mm_fl true b1 b2), n1, n2, p, q, ad), I, J) Q := by
  refine mm_call (c := 94) rfl rfl ?_
  refine mm_go [15] 80 ?_
  show mm_wc d 1002 [.int (I 70 5), .int (nI 3456)] (((mm_fl true b1 b2), 0, 0, p, q, ad), I, J) _
  refine mm_wcm h ?_
  rintro v τ ⟨r1, I1, J1, rfl, rfl, h1⟩
  refine mm_r1' ⟨rfl, ?_⟩
  exact h1
theorem fx_94_15 {d : Nat} {a1 : Int32} {a2 : Int32} {a3 : Int32} {b1 b2 : Bool} {n1 n2 : Nat} {p q : Bool} {ad : Nat → Nat} {I : mmI} {J : mmJ} {Q : mmQ} (h : ((a3 < (nI 0) → Q none (((mm_fl true b1 b2), n1, n2, p, q, ad), I, J)) ∧ (¬ a3 < (nI 0) → (vp_in a3 17280 ∧ ((a3 = a2 → (vp_in a3 17280 ∧ mm_w Q (mm_wc d) bk_94 15 [some (.ref 70), some (.int a1), some (.int a2), some (.int (a3 + (-1)))] [] (((mm_fl true b1 b2), n1, n2, p, q, ad), (mm_up (mm_up I 74 a3.toNatClampNeg (nI 1000000)) 74 a3.toNatClampNeg (nI 0)), J))) ∧ (¬ a3 = a2 → (vp_in a3 6912 ∧ ((a1 ≤ (I 73 a3.toNatClampNeg) → mm_w Q (mm_wc d) bk_94 15 [some (.ref 70), some (.int a1), some (.int a2), some (.int (a3 + (-1)))] [] (((mm_fl true b1 b2), n1, n2, p, q, ad), (mm_up I 74 a3.toNatClampNeg (nI 1000000)), J)) ∧ (¬ a1 ≤ (I 73 a3.toNatClampNeg) → mm_wc d 95 [.ref 70, .int a3] (((mm_fl true b1 b2), 0, 0, p, q, ad), (mm_up I 74 a3.toNatClampNeg (nI 1000000)), J) (fun v τ => ∃ r1 I1 J1, v = some (.int r1) ∧ τ = (((mm_fl true b1 b2), 0, 0, p, q, ad), I1, J1) ∧ ((r1 = (-1) → mm_w Q (mm_wc d) bk_94 15 [some (.ref 70), some (.int a1), some (.int a2), some (.int (a3 + (-1)))] [] (((mm_fl true b1 b2), n1, n2, p, q, ad), I1, J1)) ∧ (¬ r1 = (-1) → (vp_in a3 17280 ∧ mm_w Q (mm_wc d) bk_94 15 [some (.ref 70), some (.int a1), some (.int a2), some (.int (a3 + (-1)))] [] (((mm_fl true b1 b2), n1, n2, p, q, ad), (mm_up I1 74 a3.toNatClampNeg (nI 0)), J1)))))))))))))) : mm_w Q (mm_wc (d)) bk_94 15 [some (.ref 70), some (.int a1), some (.int a2), some (.int a3)] [] (((mm_fl true b1 b2), n1, n2, p, q, ad), I, J) := by
  refine mm_go [15] 80 ?_
  show (a3 < (nI 0) → _) ∧ (¬ a3 < (nI 0) → _)
  refine ⟨fun c0 => ?_, fun c0 => ?_⟩
  · exact (h.1 c0)
  · show mm_b _ _ _ _ _ [some (.ref 70), some (.int a1), some (.int a2), some (.int a3)] [] (((mm_fl true b1 b2), n1, n2, p, q, ad), I, J)
    show vp_in a3 17280 ∧ _
    refine ⟨(h.2 c0).1, ?_⟩
    show mm_b _ _ _ _ _ [some (.ref 70), some (.int a1), some (.int a2), some (.int a3)] [] (((mm_fl true b1 b2), n1, n2, p, q, ad), (mm_up I 74 a3.toNatClampNeg (nI 1000000)), J)
    show (a3 = a2 → _) ∧ (¬ a3 = a2 → _)
    refine ⟨fun c1 => ?_, fun c1 => ?_⟩
    · show mm_u _ _ _ _ _ _ [some (.ref 70), some (.int a1), some (.int a2), some (.int a3)] [] (((mm_fl true b1 b2), n1, n2, p, q, ad), (mm_up I 74 a3.toNatClampNeg (nI 1000000)), J)
      show vp_in a3 17280 ∧ _
      refine ⟨((h.2 c0).2.1 c1).1, ?_⟩
      exact ((h.2 c0).2.1 c1).2
    · show mm_b _ _ _ _ _ [some (.ref 70), some (.int a1), some (.int a2), some (.int a3)] [] (((mm_fl true b1 b2), n1, n2, p, q, ad), (mm_up I 74 a3.toNatClampNeg (nI 1000000)), J)
      show vp_in a3 6912 ∧ _
      refine ⟨((h.2 c0).2.2 c1).1, ?_⟩
      show mm_b _ _ _ _ _ [some (.ref 70), some (.int a1), some (.int a2), some (.int a3)] [.int (I 73 a3.toNatClampNeg)] (((mm_fl true b1 b2), n1, n2, p, q, ad), (mm_up I 74 a3.toNatClampNeg (nI 1000000)), J)
      show (a1 ≤ (I 73 a3.toNatClampNeg) → _) ∧ (¬ a1 ≤ (I 73 a3.toNatClampNeg) → _)
      refine ⟨fun c2 => ?_, fun c2 => ?_⟩
      · exact (((h.2 c0).2.2 c1).2.1 c2)
      · show mm_b _ _ _ _ _ [some (.ref 70), some (.int a1), some (.int a2), some (.int a3)] [] (((mm_fl true b1 b2), n1, n2, p, q, ad), (mm_up I 74 a3.toNatClampNeg (nI 1000000)), J)
        show mm_wc d 95 [.ref 70, .int a3] (((mm_fl true b1 b2), 0, 0, p, q, ad), (mm_up I 74 a3.toNatClampNeg (nI 1000000)), J) _
        refine mm_wcm (((h.2 c0).2.2 c1).2.2 c2) ?_
        rintro v τ ⟨r1, I1, J1, rfl, rfl, h1⟩
        refine mm_r1' ⟨rfl, ?_⟩
        show mm_b _ _ _ _ _ [some (.ref 70), some (.int a1), some (.int a2), some (.int a3)] [.int r1] (((mm_fl true b1 b2), n1, n2, p, q, ad), I1, J1)
        show (r1 = (-1) → _) ∧ (¬ r1 = (-1) → _)
        refine ⟨fun c3 => ?_, fun c3 => ?_⟩
        · exact (h1.1 c3)
        · show mm_b _ _ _ _ _ [some (.ref 70), some (.int a1), some (.int a2), some (.int a3)] [] (((mm_fl true b1 b2), n1, n2, p, q, ad), I1, J1)
          show vp_in a3 17280 ∧ _
          refine ⟨(h1.2 c3).1, ?_⟩
          exact (h1.2 c3).2
/- 95 ThreeBreaths$Search firstOnWay -/
theorem fx_95 {d : Nat} {x0 : Int32} {b1 b2 : Bool} {n1 n2 : Nat} {p q : Bool} {ad : Nat → Nat} {I : mmI} {J : mmJ} {Q : mmQ} (h : mm_w Q (mm_wc d) bk_95 2 [some (.ref 70), some (.int x0), some (.int (nI 0)), none] [] (((mm_fl true b1 b2), n1, n2, p, q, ad), I, J)) : mm_wc (d + 1) 95 [.ref 70, .int x0] (((mm_fl true b1 b2), n1, n2, p, q, ad), I, J) Q := by
  refine mm_call (c := 95) rfl rfl ?_
  refine mm_go [2] 80 ?_
  exact h
theorem fx_95_2 {d : Nat} {a1 : Int32} {a2 : Int32} {b1 b2 : Bool} {n1 n2 : Nat} {p q : Bool} {ad : Nat → Nat} {I : mmI} {J : mmJ} {Q : mmQ} (h : (((I 77 3) ≤ a2 → Q (some (.int (-1))) (((mm_fl true b1 b2), n1, n2, p, q, ad), I, J)) ∧ (¬ (I 77 3) ≤ a2 → (vp_in a1 6912 ∧ (vp_in a2 320 ∧ mm_wc d 24 [.ref 6, .int (I 72 a1.toNatClampNeg), .int (I 78 a2.toNatClampNeg)] (((mm_fl true b1 b2), 0, 0, p, q, ad), I, J) (fun v τ => ∃ r1 I1 J1, v = some (.int r1) ∧ τ = (((mm_fl true b1 b2), 0, 0, p, q, ad), I1, J1) ∧ (vp_in r1 16384 ∧ ((((I1 71 r1.toNatClampNeg) - (nI 1)) ≤ a1 → mm_w Q (mm_wc d) bk_95 2 [some (.ref 70), some (.int a1), some (.int (a2 + (nI 1))), none] [] (((mm_fl true b1 b2), n1, n2, p, q, ad), I1, J1)) ∧ (¬ ((I1 71 r1.toNatClampNeg) - (nI 1)) ≤ a1 → (vp_in ((I1 71 r1.toNatClampNeg) - (nI 1)) 6912 ∧ (vp_in a1 6912 ∧ ((¬ (I1 73 (((I1 71 r1.toNatClampNeg) - (nI 1))).toNatClampNeg) = ((I1 73 a1.toNatClampNeg) + (nI 1)) → mm_w Q (mm_wc d) bk_95 2 [some (.ref 70), some (.int a1), some (.int (a2 + (nI 1))), none] [] (((mm_fl true b1 b2), n1, n2, p, q, ad), I1, J1)) ∧ ((I1 73 (((I1 71 r1.toNatClampNeg) - (nI 1))).toNatClampNeg) = ((I1 73 a1.toNatClampNeg) + (nI 1)) → (vp_in ((I1 71 r1.toNatClampNeg) - (nI 1)) 17280 ∧ ((¬ (I1 74 (((I1 71 r1.toNatClampNeg) - (nI 1))).toNatClampNeg) = (nI 0) → mm_w Q (mm_wc d) bk_95 2 [some (.ref 70), some (.int a1), some (.int (a2 + (nI 1))), none] [] (((mm_fl true b1 b2), n1, n2, p, q, ad), I1, J1)) ∧ ((I1 74 (((I1 71 r1.toNatClampNeg) - (nI 1))).toNatClampNeg) = (nI 0) → Q (some (.int a2)) (((mm_fl true b1 b2), n1, n2, p, q, ad), I1, J1))))))))))))))))) : mm_w Q (mm_wc (d)) bk_95 2 [some (.ref 70), some (.int a1), some (.int a2), none] [] (((mm_fl true b1 b2), n1, n2, p, q, ad), I, J) := by
  refine mm_go [2] 80 ?_
  show ((I 77 3) ≤ a2 → _) ∧ (¬ (I 77 3) ≤ a2 → _)
  refine ⟨fun c0 => ?_, fun c0 => ?_⟩
  · exact (h.1 c0)
  · show mm_b _ _ _ _ _ [some (.ref 70), some (.int a1), some (.int a2), none] [] (((mm_fl true b1 b2), n1, n2, p, q, ad), I, J)
    show vp_in a1 6912 ∧ _
    refine ⟨(h.2 c0).1, ?_⟩
    show mm_b _ _ _ _ _ [some (.ref 70), some (.int a1), some (.int a2), none] [.int (I 72 a1.toNatClampNeg), .ref 6, .ref 71] (((mm_fl true b1 b2), n1, n2, p, q, ad), I, J)
    show vp_in a2 320 ∧ _
    refine ⟨(h.2 c0).2.1, ?_⟩
    show mm_b _ _ _ _ _ [some (.ref 70), some (.int a1), some (.int a2), none] [.int (I 78 a2.toNatClampNeg), .int (I 72 a1.toNatClampNeg), .ref 6, .ref 71] (((mm_fl true b1 b2), n1, n2, p, q, ad), I, J)
    show mm_wc d 24 [.ref 6, .int (I 72 a1.toNatClampNeg), .int (I 78 a2.toNatClampNeg)] (((mm_fl true b1 b2), 0, 0, p, q, ad), I, J) _
    refine mm_wcm ((h.2 c0).2.2) ?_
    rintro v τ ⟨r1, I1, J1, rfl, rfl, h1⟩
    refine mm_r1' ⟨rfl, ?_⟩
    show mm_b _ _ _ _ _ [some (.ref 70), some (.int a1), some (.int a2), none] [.int r1, .ref 71] (((mm_fl true b1 b2), n1, n2, p, q, ad), I1, J1)
    show vp_in r1 16384 ∧ _
    refine ⟨h1.1, ?_⟩
    show mm_b _ _ _ _ _ [some (.ref 70), some (.int a1), some (.int a2), none] [.int (I1 71 r1.toNatClampNeg)] (((mm_fl true b1 b2), n1, n2, p, q, ad), I1, J1)
    show (((I1 71 r1.toNatClampNeg) - (nI 1)) ≤ a1 → _) ∧ (¬ ((I1 71 r1.toNatClampNeg) - (nI 1)) ≤ a1 → _)
    refine ⟨fun c1 => ?_, fun c1 => ?_⟩
    · exact (h1.2.1 c1)
    · show mm_b _ _ _ _ _ [some (.ref 70), some (.int a1), some (.int a2), some (.int ((I1 71 r1.toNatClampNeg) - (nI 1)))] [] (((mm_fl true b1 b2), n1, n2, p, q, ad), I1, J1)
      show vp_in ((I1 71 r1.toNatClampNeg) - (nI 1)) 6912 ∧ _
      refine ⟨(h1.2.2 c1).1, ?_⟩
      show mm_b _ _ _ _ _ [some (.ref 70), some (.int a1), some (.int a2), some (.int ((I1 71 r1.toNatClampNeg) - (nI 1)))] [.int (I1 73 (((I1 71 r1.toNatClampNeg) - (nI 1))).toNatClampNeg)] (((mm_fl true b1 b2), n1, n2, p, q, ad), I1, J1)
      show vp_in a1 6912 ∧ _
      refine ⟨(h1.2.2 c1).2.1, ?_⟩
      show mm_b _ _ _ _ _ [some (.ref 70), some (.int a1), some (.int a2), some (.int ((I1 71 r1.toNatClampNeg) - (nI 1)))] [.int (I1 73 a1.toNatClampNeg), .int (I1 73 (((I1 71 r1.toNatClampNeg) - (nI 1))).toNatClampNeg)] (((mm_fl true b1 b2), n1, n2, p, q, ad), I1, J1)
      show (¬ (I1 73 (((I1 71 r1.toNatClampNeg) - (nI 1))).toNatClampNeg) = ((I1 73 a1.toNatClampNeg) + (nI 1)) → _) ∧ ((I1 73 (((I1 71 r1.toNatClampNeg) - (nI 1))).toNatClampNeg) = ((I1 73 a1.toNatClampNeg) + (nI 1)) → _)
      refine ⟨fun c2 => ?_, fun c2 => ?_⟩
      · exact ((h1.2.2 c1).2.2.1 c2)
      · show mm_b _ _ _ _ _ [some (.ref 70), some (.int a1), some (.int a2), some (.int ((I1 71 r1.toNatClampNeg) - (nI 1)))] [] (((mm_fl true b1 b2), n1, n2, p, q, ad), I1, J1)
        show vp_in ((I1 71 r1.toNatClampNeg) - (nI 1)) 17280 ∧ _
        refine ⟨((h1.2.2 c1).2.2.2 c2).1, ?_⟩
        show mm_b _ _ _ _ _ [some (.ref 70), some (.int a1), some (.int a2), some (.int ((I1 71 r1.toNatClampNeg) - (nI 1)))] [.int (I1 74 (((I1 71 r1.toNatClampNeg) - (nI 1))).toNatClampNeg)] (((mm_fl true b1 b2), n1, n2, p, q, ad), I1, J1)
        show (¬ (I1 74 (((I1 71 r1.toNatClampNeg) - (nI 1))).toNatClampNeg) = (nI 0) → _) ∧ ((I1 74 (((I1 71 r1.toNatClampNeg) - (nI 1))).toNatClampNeg) = (nI 0) → _)
        refine ⟨fun c3 => ?_, fun c3 => ?_⟩
        · exact (((h1.2.2 c1).2.2.2 c2).2.1 c3)
        · exact (((h1.2.2 c1).2.2.2 c2).2.2 c3)
/- 96 ThreeBreaths$Search leastWay -/
theorem fx_96 {d : Nat} {x0 : Int32} {x1 : Int32} {x2 : Int32} {b1 b2 : Bool} {n1 n2 : Nat} {p q : Bool} {ad : Nat → Nat} {I : mmI} {J : mmJ} {Q : mmQ} (h : mm_wc d 84 [.ref 70, .int x0, .int (nI 2), .int x1] (((mm_fl true b1 b2), 0, 0, p, q, ad), I, J) (fun v τ => ∃ r1 I1 J1, v = some (.int r1) ∧ τ = (((mm_fl true b1 b2), 0, 0, p, q, ad), I1, J1) ∧ ((¬ r1 = (-2) → mm_wc d 1002 [.int (I1 70 5), .int (nI 3456)] (((mm_fl true b1 b2), 0, 0, p, q, ad), I1, J1) (fun v τ => ∃ r2 I2 J2, v = some (.int r2) ∧ τ = (((mm_fl true b1 b2), 0, 0, p, q, ad), I2, J2) ∧ mm_w Q (mm_wc d) bk_96 37 [some (.ref 70), none, some (.int x1), some (.int x2), some (.int r1), some (.int (r2 - (nI 1))), some (.int (r2 - (nI 1)))] [] (((mm_fl true b1 b2), n1, n2, p, q, ad), I2, J2))) ∧ (r1 = (-2) → Q (some (.int (-2))) (((mm_fl true b1 b2), n1, n2, p, q, ad), I1, J1))))) : mm_wc (d + 1) 96 [.ref 70, .int x0, .int x1, .int x2] (((mm_fl true b1 b2), n1, n2, p, q, ad), I, J) Q := by
  refine mm_call (c := 96) rfl rfl ?_
  refine mm_go [37] 80 ?_
  show mm_wc d 84 [.ref 70, .int x0, .int (nI 2), .int x1] (((mm_fl true b1 b2), 0, 0, p, q, ad), I, J) _
  refine mm_wcm h ?_
  rintro v τ ⟨r1, I1, J1, rfl, rfl, h1⟩
  refine mm_r1' ⟨rfl, ?_⟩
  show mm_b _ _ _ _ _ [some (.ref 70), some (.int x0), some (.int x1), some (.int x2), none, none, none] [.int r1] (((mm_fl true b1 b2), n1, n2, p, q, ad), I1, J1)
  show (¬ r1 = (-2) → _) ∧ (r1 = (-2) → _)
  refine ⟨fun c0 => ?_, fun c0 => ?_⟩
  · show mm_u _ _ _ _ _ _ [some (.ref 70), some (.int x0), some (.int x1), some (.int x2), some (.int r1), none, none] [] (((mm_fl true b1 b2), n1, n2, p, q, ad), I1, J1)
    show mm_wc d 1002 [.int (I1 70 5), .int (nI 3456)] (((mm_fl true b1 b2), 0, 0, p, q, ad), I1, J1) _
    refine mm_wcm (h1.1 c0) ?_
    rintro v τ ⟨r2, I2, J2, rfl, rfl, h2⟩
    refine mm_r1' ⟨rfl, ?_⟩
    exact h2
  · exact (h1.2 c0)
theorem fx_96_37 {d : Nat} {a2 : Int32} {a3 : Int32} {a4 : Int32} {a5 : Int32} {a6 : Int32} {b1 b2 : Bool} {n1 n2 : Nat} {p q : Bool} {ad : Nat → Nat} {I : mmI} {J : mmJ} {Q : mmQ} (h : ((a6 < (nI 0) → (vp_in a3 17280 ∧ Q (some (.int (I 74 a3.toNatClampNeg))) (((mm_fl true b1 b2), n1, n2, p, q, ad), I, J))) ∧ (¬ a6 < (nI 0) → ((a5 ≤ a6 → ((¬ a6 = a5 → mm_wc d 97 [.ref 70, .int a6, .int (nI 1000000)] (((mm_fl true b1 b2), 0, 0, p, q, ad), I, J) (fun v τ => ∃ I1 J1, v = none ∧ τ = (((mm_fl true b1 b2), 0, 0, p, q, ad), I1, J1) ∧ mm_w Q (mm_wc d) bk_96 37 [some (.ref 70), none, some (.int a2), some (.int a3), some (.int a4), some (.int a5), some (.int (a6 + (-1)))] [] (((mm_fl true b1 b2), n1, n2, p, q, ad), I1, J1))) ∧ (a6 = a5 → mm_wc d 97 [.ref 70, .int a6, .int (nI 0)] (((mm_fl true b1 b2), 0, 0, p, q, ad), I, J) (fun v τ => ∃ I2 J2, v = none ∧ τ = (((mm_fl true b1 b2), 0, 0, p, q, ad), I2, J2) ∧ mm_w Q (mm_wc d) bk_96 37 [some (.ref 70), none, some (.int a2), some (.int a3), some (.int a4), some (.int a5), some (.int (a6 + (-1)))] [] (((mm_fl true b1 b2), n1, n2, p, q, ad), I2, J2))))) ∧ (¬ a5 ≤ a6 → (vp_in a6 6912 ∧ ((a4 ≤ (I 73 a6.toNatClampNeg) → ((¬ a6 = a5 → mm_wc d 97 [.ref 70, .int a6, .int (nI 1000000)] (((mm_fl true b1 b2), 0, 0, p, q, ad), I, J) (fun v τ => ∃ I3 J3, v = none ∧ τ = (((mm_fl true b1 b2), 0, 0, p, q, ad), I3, J3) ∧ mm_w Q (mm_wc d) bk_96 37 [some (.ref 70), none, some (.int a2), some (.int a3), some (.int a4), some (.int a5), some (.int (a6 + (-1)))] [] (((mm_fl true b1 b2), n1, n2, p, q, ad), I3, J3))) ∧ (a6 = a5 → mm_wc d 97 [.ref 70, .int a6, .int (nI 0)] (((mm_fl true b1 b2), 0, 0, p, q, ad), I, J) (fun v τ => ∃ I4 J4, v = none ∧ τ = (((mm_fl true b1 b2), 0, 0, p, q, ad), I4, J4) ∧ mm_w Q (mm_wc d) bk_96 37 [some (.ref 70), none, some (.int a2), some (.int a3), some (.int a4), some (.int a5), some (.int (a6 + (-1)))] [] (((mm_fl true b1 b2), n1, n2, p, q, ad), I4, J4))))) ∧ (¬ a4 ≤ (I 73 a6.toNatClampNeg) → mm_wc d 98 [.ref 70, .int a6, .int a2] (((mm_fl true b1 b2), 0, 0, p, q, ad), I, J) (fun v τ => ∃ I5 J5, v = none ∧ τ = (((mm_fl true b1 b2), 0, 0, p, q, ad), I5, J5) ∧ mm_w Q (mm_wc d) bk_96 37 [some (.ref 70), none, some (.int a2), some (.int a3), some (.int a4), some (.int a5), some (.int (a6 + (-1)))] [] (((mm_fl true b1 b2), n1, n2, p, q, ad), I5, J5)))))))))) : mm_w Q (mm_wc (d)) bk_96 37 [some (.ref 70), none, some (.int a2), some (.int a3), some (.int a4), some (.int a5), some (.int a6)] [] (((mm_fl true b1 b2), n1, n2, p, q, ad), I, J) := by
  refine mm_go [37] 80 ?_
  show (a6 < (nI 0) → _) ∧ (¬ a6 < (nI 0) → _)
  refine ⟨fun c0 => ?_, fun c0 => ?_⟩
  · show mm_u _ _ _ _ _ _ [some (.ref 70), none, some (.int a2), some (.int a3), some (.int a4), some (.int a5), some (.int a6)] [] (((mm_fl true b1 b2), n1, n2, p, q, ad), I, J)
    show vp_in a3 17280 ∧ _
    refine ⟨(h.1 c0).1, ?_⟩
    exact (h.1 c0).2
  · show mm_b _ _ _ _ _ [some (.ref 70), none, some (.int a2), some (.int a3), some (.int a4), some (.int a5), some (.int a6)] [] (((mm_fl true b1 b2), n1, n2, p, q, ad), I, J)
    show (a5 ≤ a6 → _) ∧ (¬ a5 ≤ a6 → _)
    refine ⟨fun c1 => ?_, fun c1 => ?_⟩
    · show mm_u _ _ _ _ _ _ [some (.ref 70), none, some (.int a2), some (.int a3), some (.int a4), some (.int a5), some (.int a6)] [] (((mm_fl true b1 b2), n1, n2, p, q, ad), I, J)
      show (¬ a6 = a5 → _) ∧ (a6 = a5 → _)
      refine ⟨fun c2 => ?_, fun c2 => ?_⟩
      · show mm_u _ _ _ _ _ _ [some (.ref 70), none, some (.int a2), some (.int a3), some (.int a4), some (.int a5), some (.int a6)] [.int a6, .ref 70] (((mm_fl true b1 b2), n1, n2, p, q, ad), I, J)
        show mm_wc d 97 [.ref 70, .int a6, .int (nI 1000000)] (((mm_fl true b1 b2), 0, 0, p, q, ad), I, J) _
        refine mm_wcm (((h.2 c0).1 c1).1 c2) ?_
        rintro v τ ⟨I1, J1, rfl, rfl, h1⟩
        refine mm_r0' ⟨rfl, ?_⟩
        exact h1
      · show mm_b _ _ _ _ _ [some (.ref 70), none, some (.int a2), some (.int a3), some (.int a4), some (.int a5), some (.int a6)] [.int a6, .ref 70] (((mm_fl true b1 b2), n1, n2, p, q, ad), I, J)
        show mm_wc d 97 [.ref 70, .int a6, .int (nI 0)] (((mm_fl true b1 b2), 0, 0, p, q, ad), I, J) _
        refine mm_wcm (((h.2 c0).1 c1).2 c2) ?_
        rintro v τ ⟨I2, J2, rfl, rfl, h2⟩
        refine mm_r0' ⟨rfl, ?_⟩
        exact h2
    · show mm_b _ _ _ _ _ [some (.ref 70), none, some (.int a2), some (.int a3), some (.int a4), some (.int a5), some (.int a6)] [] (((mm_fl true b1 b2), n1, n2, p, q, ad), I, J)
      show vp_in a6 6912 ∧ _
      refine ⟨((h.2 c0).2 c1).1, ?_⟩
      show mm_b _ _ _ _ _ [some (.ref 70), none, some (.int a2), some (.int a3), some (.int a4), some (.int a5), some (.int a6)] [.int (I 73 a6.toNatClampNeg)] (((mm_fl true b1 b2), n1, n2, p, q, ad), I, J)
      show (a4 ≤ (I 73 a6.toNatClampNeg) → _) ∧ (¬ a4 ≤ (I 73 a6.toNatClampNeg) → _)
      refine ⟨fun c2 => ?_, fun c2 => ?_⟩
      · show mm_u _ _ _ _ _ _ [some (.ref 70), none, some (.int a2), some (.int a3), some (.int a4), some (.int a5), some (.int a6)] [] (((mm_fl true b1 b2), n1, n2, p, q, ad), I, J)
        show (¬ a6 = a5 → _) ∧ (a6 = a5 → _)
        refine ⟨fun c3 => ?_, fun c3 => ?_⟩
        · show mm_u _ _ _ _ _ _ [some (.ref 70), none, some (.int a2), some (.int a3), some (.int a4), some (.int a5), some (.int a6)] [.int a6, .ref 70] (((mm_fl true b1 b2), n1, n2, p, q, ad), I, J)
          show mm_wc d 97 [.ref 70, .int a6, .int (nI 1000000)] (((mm_fl true b1 b2), 0, 0, p, q, ad), I, J) _
          refine mm_wcm ((((h.2 c0).2 c1).2.1 c2).1 c3) ?_
          rintro v τ ⟨I3, J3, rfl, rfl, h3⟩
          refine mm_r0' ⟨rfl, ?_⟩
          exact h3
        · show mm_b _ _ _ _ _ [some (.ref 70), none, some (.int a2), some (.int a3), some (.int a4), some (.int a5), some (.int a6)] [.int a6, .ref 70] (((mm_fl true b1 b2), n1, n2, p, q, ad), I, J)
          show mm_wc d 97 [.ref 70, .int a6, .int (nI 0)] (((mm_fl true b1 b2), 0, 0, p, q, ad), I, J) _
          refine mm_wcm ((((h.2 c0).2 c1).2.1 c2).2 c3) ?_
          rintro v τ ⟨I4, J4, rfl, rfl, h4⟩
          refine mm_r0' ⟨rfl, ?_⟩
          exact h4
      · show mm_b _ _ _ _ _ [some (.ref 70), none, some (.int a2), some (.int a3), some (.int a4), some (.int a5), some (.int a6)] [] (((mm_fl true b1 b2), n1, n2, p, q, ad), I, J)
        show mm_wc d 98 [.ref 70, .int a6, .int a2] (((mm_fl true b1 b2), 0, 0, p, q, ad), I, J) _
        refine mm_wcm (((h.2 c0).2 c1).2.2 c2) ?_
        rintro v τ ⟨I5, J5, rfl, rfl, h5⟩
        refine mm_r0' ⟨rfl, ?_⟩
        exact h5
/- 97 ThreeBreaths$Search setWaysFrom -/
theorem fx_97 {d : Nat} {x0 : Int32} {x1 : Int32} {b1 b2 : Bool} {n1 n2 : Nat} {p q : Bool} {ad : Nat → Nat} {I : mmI} {J : mmJ} {Q : mmQ} (h : mm_w Q (mm_wc d) bk_97 2 [some (.ref 70), some (.int x0), some (.int x1), some (.int (nI 0))] [] (((mm_fl true b1 b2), n1, n2, p, q, ad), I, J)) : mm_wc (d + 1) 97 [.ref 70, .int x0, .int x1] (((mm_fl true b1 b2), n1, n2, p, q, ad), I, J) Q := by
  refine mm_call (c := 97) rfl rfl ?_
  refine mm_go [2] 80 ?_
  exact h
theorem fx_97_2 {d : Nat} {a1 : Int32} {a2 : Int32} {a3 : Int32} {b1 b2 : Bool} {n1 n2 : Nat} {p q : Bool} {ad : Nat → Nat} {I : mmI} {J : mmJ} {Q : mmQ} (h : (((nI 5) ≤ a3 → Q none (((mm_fl true b1 b2), n1, n2, p, q, ad), I, J)) ∧ (¬ (nI 5) ≤ a3 → (vp_in ((a1 * (nI 5)) + a3) 17280 ∧ mm_w Q (mm_wc d) bk_97 2 [some (.ref 70), some (.int a1), some (.int a2), some (.int (a3 + (nI 1)))] [] (((mm_fl true b1 b2), n1, n2, p, q, ad), (mm_up I 74 (((a1 * (nI 5)) + a3)).toNatClampNeg a2), J))))) : mm_w Q (mm_wc (d)) bk_97 2 [some (.ref 70), some (.int a1), some (.int a2), some (.int a3)] [] (((mm_fl true b1 b2), n1, n2, p, q, ad), I, J) := by
  refine mm_go [2] 80 ?_
  show ((nI 5) ≤ a3 → _) ∧ (¬ (nI 5) ≤ a3 → _)
  refine ⟨fun c0 => ?_, fun c0 => ?_⟩
  · exact (h.1 c0)
  · show mm_b _ _ _ _ _ [some (.ref 70), some (.int a1), some (.int a2), some (.int a3)] [] (((mm_fl true b1 b2), n1, n2, p, q, ad), I, J)
    show vp_in ((a1 * (nI 5)) + a3) 17280 ∧ _
    refine ⟨(h.2 c0).1, ?_⟩
    exact (h.2 c0).2
/- 98 ThreeBreaths$Search findWaysFrom -/
theorem fx_98 {d : Nat} {x0 : Int32} {x1 : Int32} {b1 b2 : Bool} {n1 n2 : Nat} {p q : Bool} {ad : Nat → Nat} {I : mmI} {J : mmJ} {Q : mmQ} (h : mm_w Q (mm_wc d) bk_98 17 [some (.ref 70), some (.int x0), some (.int x1), some (.int (I (mm_ck p 5) 3)), some (.int (nI 0)), none, none] [] (((mm_fl true b1 b2), n1, n2, p, q, ad), I, J)) : mm_wc (d + 1) 98 [.ref 70, .int x0, .int x1] (((mm_fl true b1 b2), n1, n2, p, q, ad), I, J) Q := by
  cases p
  · refine mm_call (c := 98) rfl rfl ?_
    refine mm_go [17, 47, 60] 80 ?_
    exact h
  · refine mm_call (c := 98) rfl rfl ?_
    refine mm_go [17, 47, 60] 80 ?_
    exact h
theorem fx_98_17 {d : Nat} {a1 : Int32} {a2 : Int32} {a3 : Int32} {a4 : Int32} {b1 b2 : Bool} {n1 n2 : Nat} {p q : Bool} {ad : Nat → Nat} {I : mmI} {J : mmJ} {Q : mmQ} (h : ((a3 ≤ a4 → mm_w Q (mm_wc d) bk_98 47 [some (.ref 70), some (.int a1), none, some (.int a3), some (.int (nI 0)), none, none] [] (((mm_fl true b1 b2), n1, n2, p, q, ad), I, J)) ∧ (¬ a3 ≤ a4 → mm_wc d 99 [.ref 70, .int a1, .int a2, .int a4] (((mm_fl true b1 b2), 0, 0, p, q, ad), I, J) (fun v τ => ∃ r1 I1 J1, v = some (.int r1) ∧ τ = (((mm_fl true b1 b2), 0, 0, p, q, ad), I1, J1) ∧ (vp_in a4 5 ∧ mm_w Q (mm_wc d) bk_98 17 [some (.ref 70), some (.int a1), some (.int a2), some (.int a3), some (.int (a4 + (nI 1))), none, none] [] (((mm_fl true b1 b2), n1, n2, p, q, ad), (mm_up I1 75 a4.toNatClampNeg r1), J1)))))) : mm_w Q (mm_wc (d)) bk_98 17 [some (.ref 70), some (.int a1), some (.int a2), some (.int a3), some (.int a4), none, none] [] (((mm_fl true b1 b2), n1, n2, p, q, ad), I, J) := by
  refine mm_go [17, 47, 60] 80 ?_
  show (a3 ≤ a4 → _) ∧ (¬ a3 ≤ a4 → _)
  refine ⟨fun c0 => ?_, fun c0 => ?_⟩
  · exact (h.1 c0)
  · show mm_b _ _ _ _ _ [some (.ref 70), some (.int a1), some (.int a2), some (.int a3), some (.int a4), none, none] [] (((mm_fl true b1 b2), n1, n2, p, q, ad), I, J)
    show mm_wc d 99 [.ref 70, .int a1, .int a2, .int a4] (((mm_fl true b1 b2), 0, 0, p, q, ad), I, J) _
    refine mm_wcm (h.2 c0) ?_
    rintro v τ ⟨r1, I1, J1, rfl, rfl, h1⟩
    refine mm_r1' ⟨rfl, ?_⟩
    show mm_b _ _ _ _ _ [some (.ref 70), some (.int a1), some (.int a2), some (.int a3), some (.int a4), none, none] [.int r1, .int a4, .ref 75] (((mm_fl true b1 b2), n1, n2, p, q, ad), I1, J1)
    show vp_in a4 5 ∧ _
    refine ⟨h1.1, ?_⟩
    exact h1.2
theorem fx_98_47 {d : Nat} {a1 : Int32} {a3 : Int32} {a4 : Int32} {b1 b2 : Bool} {n1 n2 : Nat} {p q : Bool} {ad : Nat → Nat} {I : mmI} {J : mmJ} {Q : mmQ} (h : ((a3 ≤ a4 → Q none (((mm_fl true b1 b2), n1, n2, p, q, ad), I, J)) ∧ (¬ a3 ≤ a4 → mm_w Q (mm_wc d) bk_98 60 [some (.ref 70), some (.int a1), none, some (.int a3), some (.int a4), some (.int (nI 1000000)), some (.int (nI 0))] [] (((mm_fl true b1 b2), n1, n2, p, q, ad), I, J)))) : mm_w Q (mm_wc (d)) bk_98 47 [some (.ref 70), some (.int a1), none, some (.int a3), some (.int a4), none, none] [] (((mm_fl true b1 b2), n1, n2, p, q, ad), I, J) := by
  refine mm_go [17, 47, 60] 80 ?_
  show (a3 ≤ a4 → _) ∧ (¬ a3 ≤ a4 → _)
  refine ⟨fun c0 => ?_, fun c0 => ?_⟩
  · exact (h.1 c0)
  · exact (h.2 c0)
theorem fx_98_60 {d : Nat} {a1 : Int32} {a3 : Int32} {a4 : Int32} {a5 : Int32} {a6 : Int32} {b1 b2 : Bool} {n1 n2 : Nat} {p q : Bool} {ad : Nat → Nat} {I : mmI} {J : mmJ} {Q : mmQ} (h : ((a3 ≤ a6 → (vp_in ((a1 * (nI 5)) + a4) 17280 ∧ mm_w Q (mm_wc d) bk_98 47 [some (.ref 70), some (.int a1), none, some (.int a3), some (.int (a4 + (nI 1))), none, none] [] (((mm_fl true b1 b2), n1, n2, p, q, ad), (mm_up I 74 (((a1 * (nI 5)) + a4)).toNatClampNeg a5), J))) ∧ (¬ a3 ≤ a6 → mm_wc d 30 [.ref 6, .int a4, .int a6] (((mm_fl true b1 b2), 0, 0, p, q, ad), I, J) (fun v τ => ∃ r1 I1 J1, v = some (.int r1) ∧ τ = (((mm_fl true b1 b2), 0, 0, p, q, ad), I1, J1) ∧ (vp_in a6 5 ∧ mm_wc d 1002 [.int a5, .int (r1 + (I1 75 a6.toNatClampNeg))] (((mm_fl true b1 b2), 0, 0, p, q, ad), I1, J1) (fun v τ => ∃ r2 I2 J2, v = some (.int r2) ∧ τ = (((mm_fl true b1 b2), 0, 0, p, q, ad), I2, J2) ∧ mm_w Q (mm_wc d) bk_98 60 [some (.ref 70), some (.int a1), none, some (.int a3), some (.int a4), some (.int r2), some (.int (a6 + (nI 1)))] [] (((mm_fl true b1 b2), n1, n2, p, q, ad), I2, J2))))))) : mm_w Q (mm_wc (d)) bk_98 60 [some (.ref 70), some (.int a1), none, some (.int a3), some (.int a4), some (.int a5), some (.int a6)] [] (((mm_fl true b1 b2), n1, n2, p, q, ad), I, J) := by
  refine mm_go [17, 47, 60] 80 ?_
  show (a3 ≤ a6 → _) ∧ (¬ a3 ≤ a6 → _)
  refine ⟨fun c0 => ?_, fun c0 => ?_⟩
  · show mm_u _ _ _ _ _ _ [some (.ref 70), some (.int a1), none, some (.int a3), some (.int a4), some (.int a5), some (.int a6)] [] (((mm_fl true b1 b2), n1, n2, p, q, ad), I, J)
    show vp_in ((a1 * (nI 5)) + a4) 17280 ∧ _
    refine ⟨(h.1 c0).1, ?_⟩
    exact (h.1 c0).2
  · show mm_b _ _ _ _ _ [some (.ref 70), some (.int a1), none, some (.int a3), some (.int a4), some (.int a5), some (.int a6)] [] (((mm_fl true b1 b2), n1, n2, p, q, ad), I, J)
    show mm_wc d 30 [.ref 6, .int a4, .int a6] (((mm_fl true b1 b2), 0, 0, p, q, ad), I, J) _
    refine mm_wcm (h.2 c0) ?_
    rintro v τ ⟨r1, I1, J1, rfl, rfl, h1⟩
    refine mm_r1' ⟨rfl, ?_⟩
    show mm_b _ _ _ _ _ [some (.ref 70), some (.int a1), none, some (.int a3), some (.int a4), some (.int a5), some (.int a6)] [.int r1, .int a5] (((mm_fl true b1 b2), n1, n2, p, q, ad), I1, J1)
    show vp_in a6 5 ∧ _
    refine ⟨h1.1, ?_⟩
    show mm_b _ _ _ _ _ [some (.ref 70), some (.int a1), none, some (.int a3), some (.int a4), some (.int a5), some (.int a6)] [.int (I1 75 a6.toNatClampNeg), .int r1, .int a5] (((mm_fl true b1 b2), n1, n2, p, q, ad), I1, J1)
    show mm_wc d 1002 [.int a5, .int (r1 + (I1 75 a6.toNatClampNeg))] (((mm_fl true b1 b2), 0, 0, p, q, ad), I1, J1) _
    refine mm_wcm (h1.2) ?_
    rintro v τ ⟨r2, I2, J2, rfl, rfl, h2⟩
    refine mm_r1' ⟨rfl, ?_⟩
    exact h2
/- 99 ThreeBreaths$Search leastWayBehind -/
theorem fx_99 {d : Nat} {x0 : Int32} {x1 : Int32} {x2 : Int32} {b1 b2 : Bool} {n1 n2 : Nat} {p q : Bool} {ad : Nat → Nat} {I : mmI} {J : mmJ} {Q : mmQ} (h : mm_w Q (mm_wc d) bk_99 7 [some (.ref 70), some (.int x0), some (.int x1), some (.int x2), some (.int (nI 1000000)), some (.int (nI 0)), none, none] [] (((mm_fl true b1 b2), n1, n2, p, q, ad), I, J)) : mm_wc (d + 1) 99 [.ref 70, .int x0, .int x1, .int x2] (((mm_fl true b1 b2), n1, n2, p, q, ad), I, J) Q := by
  refine mm_call (c := 99) rfl rfl ?_
  refine mm_go [7] 80 ?_
  exact h
theorem fx_99_7 {d : Nat} {a1 : Int32} {a2 : Int32} {a3 : Int32} {a4 : Int32} {a5 : Int32} {b1 b2 : Bool} {n1 n2 : Nat} {p q : Bool} {ad : Nat → Nat} {I : mmI} {J : mmJ} {Q : mmQ} (h : (((nI 16) ≤ a5 → Q (some (.int a4)) (((mm_fl true b1 b2), n1, n2, p, q, ad), I, J)) ∧ (¬ (nI 16) ≤ a5 → mm_wc d 9 [.ref 6, .int a2, .int a3, .int a5] (((mm_fl true b1 b2), 0, 0, p, q, ad), I, J) (fun v τ => ∃ r1 I1 J1, v = some (.int r1) ∧ τ = (((mm_fl true b1 b2), 0, 0, p, q, ad), I1, J1) ∧ (vp_in r1 320 ∧ (vp_in a1 6912 ∧ mm_wc d 24 [.ref 6, .int (I1 72 a1.toNatClampNeg), .int (I1 7 r1.toNatClampNeg)] (((mm_fl true b1 b2), 0, 0, p, q, ad), I1, J1) (fun v τ => ∃ r2 I2 J2, v = some (.int r2) ∧ τ = (((mm_fl true b1 b2), 0, 0, p, q, ad), I2, J2) ∧ (vp_in r2 16384 ∧ ((((I2 71 r2.toNatClampNeg) - (nI 1)) ≤ a1 → mm_w Q (mm_wc d) bk_99 7 [some (.ref 70), some (.int a1), some (.int a2), some (.int a3), some (.int a4), some (.int (a5 + (nI 1))), none, none] [] (((mm_fl true b1 b2), n1, n2, p, q, ad), I2, J2)) ∧ (¬ ((I2 71 r2.toNatClampNeg) - (nI 1)) ≤ a1 → (vp_in ((I2 71 r2.toNatClampNeg) - (nI 1)) 6912 ∧ (vp_in a1 6912 ∧ ((¬ (I2 73 (((I2 71 r2.toNatClampNeg) - (nI 1))).toNatClampNeg) = ((I2 73 a1.toNatClampNeg) + (nI 1)) → mm_w Q (mm_wc d) bk_99 7 [some (.ref 70), some (.int a1), some (.int a2), some (.int a3), some (.int a4), some (.int (a5 + (nI 1))), none, none] [] (((mm_fl true b1 b2), n1, n2, p, q, ad), I2, J2)) ∧ ((I2 73 (((I2 71 r2.toNatClampNeg) - (nI 1))).toNatClampNeg) = ((I2 73 a1.toNatClampNeg) + (nI 1)) → (vp_in ((((I2 71 r2.toNatClampNeg) - (nI 1)) * (nI 5)) + a3) 17280 ∧ mm_wc d 1002 [.int a4, .int (I2 74 (((((I2 71 r2.toNatClampNeg) - (nI 1)) * (nI 5)) + a3)).toNatClampNeg)] (((mm_fl true b1 b2), 0, 0, p, q, ad), I2, J2) (fun v τ => ∃ r3 I3 J3, v = some (.int r3) ∧ τ = (((mm_fl true b1 b2), 0, 0, p, q, ad), I3, J3) ∧ mm_w Q (mm_wc d) bk_99 7 [some (.ref 70), some (.int a1), some (.int a2), some (.int a3), some (.int r3), some (.int (a5 + (nI 1))), none, none] [] (((mm_fl true b1 b2), n1, n2, p, q, ad), I3, J3))))))))))))))))) : mm_w Q (mm_wc (d)) bk_99 7 [some (.ref 70), some (.int a1), some (.int a2), some (.int a3), some (.int a4), some (.int a5), none, none] [] (((mm_fl true b1 b2), n1, n2, p, q, ad), I, J) := by
  refine mm_go [7] 80 ?_
  show ((nI 16) ≤ a5 → _) ∧ (¬ (nI 16) ≤ a5 → _)
  refine ⟨fun c0 => ?_, fun c0 => ?_⟩
  · exact (h.1 c0)
  · show mm_b _ _ _ _ _ [some (.ref 70), some (.int a1), some (.int a2), some (.int a3), some (.int a4), some (.int a5), none, none] [] (((mm_fl true b1 b2), n1, n2, p, q, ad), I, J)
    show mm_wc d 9 [.ref 6, .int a2, .int a3, .int a5] (((mm_fl true b1 b2), 0, 0, p, q, ad), I, J) _
    refine mm_wcm (h.2 c0) ?_
    rintro v τ ⟨r1, I1, J1, rfl, rfl, h1⟩
    refine mm_r1' ⟨rfl, ?_⟩
    show mm_b _ _ _ _ _ [some (.ref 70), some (.int a1), some (.int a2), some (.int a3), some (.int a4), some (.int a5), none, none] [.int r1, .ref 7] (((mm_fl true b1 b2), n1, n2, p, q, ad), I1, J1)
    show vp_in r1 320 ∧ _
    refine ⟨h1.1, ?_⟩
    show mm_b _ _ _ _ _ [some (.ref 70), some (.int a1), some (.int a2), some (.int a3), some (.int a4), some (.int a5), none, none] [.int (I1 7 r1.toNatClampNeg)] (((mm_fl true b1 b2), n1, n2, p, q, ad), I1, J1)
    show vp_in a1 6912 ∧ _
    refine ⟨h1.2.1, ?_⟩
    show mm_b _ _ _ _ _ [some (.ref 70), some (.int a1), some (.int a2), some (.int a3), some (.int a4), some (.int a5), some (.int (I1 7 r1.toNatClampNeg)), none] [.int (I1 72 a1.toNatClampNeg), .ref 6, .ref 71] (((mm_fl true b1 b2), n1, n2, p, q, ad), I1, J1)
    show mm_wc d 24 [.ref 6, .int (I1 72 a1.toNatClampNeg), .int (I1 7 r1.toNatClampNeg)] (((mm_fl true b1 b2), 0, 0, p, q, ad), I1, J1) _
    refine mm_wcm (h1.2.2) ?_
    rintro v τ ⟨r2, I2, J2, rfl, rfl, h2⟩
    refine mm_r1' ⟨rfl, ?_⟩
    show mm_b _ _ _ _ _ [some (.ref 70), some (.int a1), some (.int a2), some (.int a3), some (.int a4), some (.int a5), some (.int (I1 7 r1.toNatClampNeg)), none] [.int r2, .ref 71] (((mm_fl true b1 b2), n1, n2, p, q, ad), I2, J2)
    show vp_in r2 16384 ∧ _
    refine ⟨h2.1, ?_⟩
    show mm_b _ _ _ _ _ [some (.ref 70), some (.int a1), some (.int a2), some (.int a3), some (.int a4), some (.int a5), some (.int (I1 7 r1.toNatClampNeg)), none] [.int (I2 71 r2.toNatClampNeg)] (((mm_fl true b1 b2), n1, n2, p, q, ad), I2, J2)
    show (((I2 71 r2.toNatClampNeg) - (nI 1)) ≤ a1 → _) ∧ (¬ ((I2 71 r2.toNatClampNeg) - (nI 1)) ≤ a1 → _)
    refine ⟨fun c1 => ?_, fun c1 => ?_⟩
    · exact (h2.2.1 c1)
    · show mm_b _ _ _ _ _ [some (.ref 70), some (.int a1), some (.int a2), some (.int a3), some (.int a4), some (.int a5), some (.int (I1 7 r1.toNatClampNeg)), some (.int ((I2 71 r2.toNatClampNeg) - (nI 1)))] [] (((mm_fl true b1 b2), n1, n2, p, q, ad), I2, J2)
      show vp_in ((I2 71 r2.toNatClampNeg) - (nI 1)) 6912 ∧ _
      refine ⟨(h2.2.2 c1).1, ?_⟩
      show mm_b _ _ _ _ _ [some (.ref 70), some (.int a1), some (.int a2), some (.int a3), some (.int a4), some (.int a5), some (.int (I1 7 r1.toNatClampNeg)), some (.int ((I2 71 r2.toNatClampNeg) - (nI 1)))] [.int (I2 73 (((I2 71 r2.toNatClampNeg) - (nI 1))).toNatClampNeg)] (((mm_fl true b1 b2), n1, n2, p, q, ad), I2, J2)
      show vp_in a1 6912 ∧ _
      refine ⟨(h2.2.2 c1).2.1, ?_⟩
      show mm_b _ _ _ _ _ [some (.ref 70), some (.int a1), some (.int a2), some (.int a3), some (.int a4), some (.int a5), some (.int (I1 7 r1.toNatClampNeg)), some (.int ((I2 71 r2.toNatClampNeg) - (nI 1)))] [.int (I2 73 a1.toNatClampNeg), .int (I2 73 (((I2 71 r2.toNatClampNeg) - (nI 1))).toNatClampNeg)] (((mm_fl true b1 b2), n1, n2, p, q, ad), I2, J2)
      show (¬ (I2 73 (((I2 71 r2.toNatClampNeg) - (nI 1))).toNatClampNeg) = ((I2 73 a1.toNatClampNeg) + (nI 1)) → _) ∧ ((I2 73 (((I2 71 r2.toNatClampNeg) - (nI 1))).toNatClampNeg) = ((I2 73 a1.toNatClampNeg) + (nI 1)) → _)
      refine ⟨fun c2 => ?_, fun c2 => ?_⟩
      · exact ((h2.2.2 c1).2.2.1 c2)
      · show mm_b _ _ _ _ _ [some (.ref 70), some (.int a1), some (.int a2), some (.int a3), some (.int a4), some (.int a5), some (.int (I1 7 r1.toNatClampNeg)), some (.int ((I2 71 r2.toNatClampNeg) - (nI 1)))] [] (((mm_fl true b1 b2), n1, n2, p, q, ad), I2, J2)
        show vp_in ((((I2 71 r2.toNatClampNeg) - (nI 1)) * (nI 5)) + a3) 17280 ∧ _
        refine ⟨((h2.2.2 c1).2.2.2 c2).1, ?_⟩
        show mm_b _ _ _ _ _ [some (.ref 70), some (.int a1), some (.int a2), some (.int a3), some (.int a4), some (.int a5), some (.int (I1 7 r1.toNatClampNeg)), some (.int ((I2 71 r2.toNatClampNeg) - (nI 1)))] [.int (I2 74 (((((I2 71 r2.toNatClampNeg) - (nI 1)) * (nI 5)) + a3)).toNatClampNeg), .int a4] (((mm_fl true b1 b2), n1, n2, p, q, ad), I2, J2)
        show mm_wc d 1002 [.int a4, .int (I2 74 (((((I2 71 r2.toNatClampNeg) - (nI 1)) * (nI 5)) + a3)).toNatClampNeg)] (((mm_fl true b1 b2), 0, 0, p, q, ad), I2, J2) _
        refine mm_wcm (((h2.2.2 c1).2.2.2 c2).2) ?_
        rintro v τ ⟨r3, I3, J3, rfl, rfl, h3⟩
        refine mm_r1' ⟨rfl, ?_⟩
        exact h3
/- 100 ThreeBreaths$Search teamFrom -/
theorem fx_100 {d : Nat} {x0 : Int32} {b1 b2 : Bool} {n1 n2 : Nat} {p q : Bool} {ad : Nat → Nat} {I : mmI} {J : mmJ} {Q : mmQ} (h : mm_wc d 82 [.ref 70, .int x0] (((mm_fl true b1 b2), 0, 0, p, q, ad), I, J) (fun v τ => ∃ I1 J1, v = none ∧ τ = (((mm_fl true b1 b2), 0, 0, p, q, ad), I1, J1) ∧ ((¬ (I1 70 12) = (-3) → Q (some (.int (I1 70 12))) (((mm_fl true b1 b2), n1, n2, p, q, ad), I1, J1)) ∧ ((I1 70 12) = (-3) → mm_wc d 101 [.ref 70, .int x0] (((mm_fl true b1 b2), 0, 0, p, q, ad), I1, J1) (fun v τ => ∃ r2 I2 J2, v = some (.int r2) ∧ τ = (((mm_fl true b1 b2), 0, 0, p, q, ad), I2, J2) ∧ Q (some (.int r2)) (((mm_fl true b1 b2), n1, n2, p, q, ad), (mm_up I2 70 12 r2), J2)))))) : mm_wc (d + 1) 100 [.ref 70, .int x0] (((mm_fl true b1 b2), n1, n2, p, q, ad), I, J) Q := by
  refine mm_call (c := 100) rfl rfl ?_
  refine mm_go [] 80 ?_
  show mm_wc d 82 [.ref 70, .int x0] (((mm_fl true b1 b2), 0, 0, p, q, ad), I, J) _
  refine mm_wcm h ?_
  rintro v τ ⟨I1, J1, rfl, rfl, h1⟩
  refine mm_r0' ⟨rfl, ?_⟩
  show mm_b _ _ _ _ _ [some (.ref 70), some (.int x0)] [] (((mm_fl true b1 b2), n1, n2, p, q, ad), I1, J1)
  show (¬ (I1 70 12) = (-3) → _) ∧ ((I1 70 12) = (-3) → _)
  refine ⟨fun c0 => ?_, fun c0 => ?_⟩
  · exact (h1.1 c0)
  · show mm_b _ _ _ _ _ [some (.ref 70), some (.int x0)] [] (((mm_fl true b1 b2), n1, n2, p, q, ad), I1, J1)
    show mm_wc d 101 [.ref 70, .int x0] (((mm_fl true b1 b2), 0, 0, p, q, ad), I1, J1) _
    refine mm_wcm (h1.2 c0) ?_
    rintro v τ ⟨r2, I2, J2, rfl, rfl, h2⟩
    refine mm_r1' ⟨rfl, ?_⟩
    exact h2
/- 101 ThreeBreaths$Search findTeam -/
theorem fx_101 {d : Nat} {x0 : Int32} {b1 b2 : Bool} {n1 n2 : Nat} {p q : Bool} {ad : Nat → Nat} {I : mmI} {J : mmJ} {Q : mmQ} (h : ((¬ x0 = (nI 0) → mm_wc d 90 [.ref 70] (((mm_fl true b1 b2), 0, 0, p, q, ad), I, J) (fun v τ => ∃ I1 J1, v = none ∧ τ = (((mm_fl true b1 b2), 0, 0, p, q, ad), I1, J1) ∧ mm_wc d 91 [.ref 70, .int x0, .int (nI 0)] (((mm_fl true b1 b2), 0, 0, p, q, ad), I1, J1) (fun v τ => ∃ I2 J2, v = none ∧ τ = (((mm_fl true b1 b2), 0, 0, p, q, ad), I2, J2) ∧ (vp_in x0 16384 ∧ mm_w Q (mm_wc d) bk_101 36 [some (.ref 70), none, some (.int (I2 (mm_ck p 0) 6)), some (.int (nI 1)), none] [] (((mm_fl true b1 b2), n1, n2, p, q, ad), (mm_up I2 71 x0.toNatClampNeg (nI 1)), J2))))) ∧ (x0 = (nI 0) → Q (some (.int (nI 0))) (((mm_fl true b1 b2), n1, n2, p, q, ad), I, J)))) : mm_wc (d + 1) 101 [.ref 70, .int x0] (((mm_fl true b1 b2), n1, n2, p, q, ad), I, J) Q := by
  cases p
  · refine mm_call (c := 101) rfl rfl ?_
    refine mm_go [36, 44] 80 ?_
    show (¬ x0 = (nI 0) → _) ∧ (x0 = (nI 0) → _)
    refine ⟨fun c0 => ?_, fun c0 => ?_⟩
    · show mm_u _ _ _ _ _ _ [some (.ref 70), some (.int x0), none, none, none] [] (((mm_fl true b1 b2), n1, n2, false, q, ad), I, J)
      show mm_wc d 90 [.ref 70] (((mm_fl true b1 b2), 0, 0, false, q, ad), I, J) _
      refine mm_wcm (h.1 c0) ?_
      rintro v τ ⟨I1, J1, rfl, rfl, h1⟩
      refine mm_r0' ⟨rfl, ?_⟩
      show mm_b _ _ _ _ _ [some (.ref 70), some (.int x0), none, none, none] [] (((mm_fl true b1 b2), n1, n2, false, q, ad), I1, J1)
      show mm_wc d 91 [.ref 70, .int x0, .int (nI 0)] (((mm_fl true b1 b2), 0, 0, false, q, ad), I1, J1) _
      refine mm_wcm h1 ?_
      rintro v τ ⟨I2, J2, rfl, rfl, h2⟩
      refine mm_r0' ⟨rfl, ?_⟩
      show mm_b _ _ _ _ _ [some (.ref 70), some (.int x0), none, none, none] [] (((mm_fl true b1 b2), n1, n2, false, q, ad), I2, J2)
      show vp_in x0 16384 ∧ _
      refine ⟨h2.1, ?_⟩
      exact h2.2
    · exact (h.2 c0)
  · refine mm_call (c := 101) rfl rfl ?_
    refine mm_go [36, 44] 80 ?_
    show (¬ x0 = (nI 0) → _) ∧ (x0 = (nI 0) → _)
    refine ⟨fun c0 => ?_, fun c0 => ?_⟩
    · show mm_u _ _ _ _ _ _ [some (.ref 70), some (.int x0), none, none, none] [] (((mm_fl true b1 b2), n1, n2, true, q, ad), I, J)
      show mm_wc d 90 [.ref 70] (((mm_fl true b1 b2), 0, 0, true, q, ad), I, J) _
      refine mm_wcm (h.1 c0) ?_
      rintro v τ ⟨I1, J1, rfl, rfl, h1⟩
      refine mm_r0' ⟨rfl, ?_⟩
      show mm_b _ _ _ _ _ [some (.ref 70), some (.int x0), none, none, none] [] (((mm_fl true b1 b2), n1, n2, true, q, ad), I1, J1)
      show mm_wc d 91 [.ref 70, .int x0, .int (nI 0)] (((mm_fl true b1 b2), 0, 0, true, q, ad), I1, J1) _
      refine mm_wcm h1 ?_
      rintro v τ ⟨I2, J2, rfl, rfl, h2⟩
      refine mm_r0' ⟨rfl, ?_⟩
      show mm_b _ _ _ _ _ [some (.ref 70), some (.int x0), none, none, none] [] (((mm_fl true b1 b2), n1, n2, true, q, ad), I2, J2)
      show vp_in x0 16384 ∧ _
      refine ⟨h2.1, ?_⟩
      exact h2.2
    · exact (h.2 c0)
theorem fx_101_36 {d : Nat} {a2 : Int32} {a3 : Int32} {b1 b2 : Bool} {n1 n2 : Nat} {p q : Bool} {ad : Nat → Nat} {I : mmI} {J : mmJ} {Q : mmQ} (h : ((a2 < a3 → Q (some (.int (-2))) (((mm_fl true b1 b2), n1, n2, p, q, ad), I, J)) ∧ (¬ a2 < a3 → mm_w Q (mm_wc d) bk_101 44 [some (.ref 70), none, some (.int a2), some (.int a3), some (.int (nI 1))] [] (((mm_fl true b1 b2), n1, n2, p, q, ad), I, J)))) : mm_w Q (mm_wc (d)) bk_101 36 [some (.ref 70), none, some (.int a2), some (.int a3), none] [] (((mm_fl true b1 b2), n1, n2, p, q, ad), I, J) := by
  refine mm_go [36, 44] 80 ?_
  show (a2 < a3 → _) ∧ (¬ a2 < a3 → _)
  refine ⟨fun c0 => ?_, fun c0 => ?_⟩
  · exact (h.1 c0)
  · exact (h.2 c0)
theorem fx_101_44 {d : Nat} {a2 : Int32} {a3 : Int32} {a4 : Int32} {b1 b2 : Bool} {n1 n2 : Nat} {p q : Bool} {ad : Nat → Nat} {I : mmI} {J : mmJ} {Q : mmQ} (h : ((((nI 1) <<< (a2 &&& 31)) ≤ a4 → mm_w Q (mm_wc d) bk_101 36 [some (.ref 70), none, some (.int a2), some (.int (a3 + (nI 1))), none] [] (((mm_fl true b1 b2), n1, n2, p, q, ad), I, J)) ∧ (¬ ((nI 1) <<< (a2 &&& 31)) ≤ a4 → mm_wc d 278 [.int a4] (((mm_fl true b1 b2), 0, 0, p, q, ad), I, J) (fun v τ => ∃ r1 I1 J1, v = some (.int r1) ∧ τ = (((mm_fl true b1 b2), 0, 0, p, q, ad), I1, J1) ∧ ((¬ r1 = a3 → mm_w Q (mm_wc d) bk_101 44 [some (.ref 70), none, some (.int a2), some (.int a3), some (.int (a4 + (nI 1)))] [] (((mm_fl true b1 b2), n1, n2, p, q, ad), I1, J1)) ∧ (r1 = a3 → mm_wc d 102 [.ref 70, .int a4] (((mm_fl true b1 b2), 0, 0, p, q, ad), I1, J1) (fun v τ => ∃ r2 I2 J2, v = some (.int r2) ∧ τ = (((mm_fl true b1 b2), 0, 0, p, q, ad), I2, J2) ∧ ((r2 = (nI 0) → mm_w Q (mm_wc d) bk_101 44 [some (.ref 70), none, some (.int a2), some (.int a3), some (.int (a4 + (nI 1)))] [] (((mm_fl true b1 b2), n1, n2, p, q, ad), I2, J2)) ∧ (¬ r2 = (nI 0) → Q (some (.int a4)) (((mm_fl true b1 b2), n1, n2, p, q, ad), I2, J2)))))))))) : mm_w Q (mm_wc (d)) bk_101 44 [some (.ref 70), none, some (.int a2), some (.int a3), some (.int a4)] [] (((mm_fl true b1 b2), n1, n2, p, q, ad), I, J) := by
  refine mm_go [36, 44] 80 ?_
  show (((nI 1) <<< (a2 &&& 31)) ≤ a4 → _) ∧ (¬ ((nI 1) <<< (a2 &&& 31)) ≤ a4 → _)
  refine ⟨fun c0 => ?_, fun c0 => ?_⟩
  · exact (h.1 c0)
  · show mm_b _ _ _ _ _ [some (.ref 70), none, some (.int a2), some (.int a3), some (.int a4)] [] (((mm_fl true b1 b2), n1, n2, p, q, ad), I, J)
    show mm_wc d 278 [.int a4] (((mm_fl true b1 b2), 0, 0, p, q, ad), I, J) _
    refine mm_wcm (h.2 c0) ?_
    rintro v τ ⟨r1, I1, J1, rfl, rfl, h1⟩
    refine mm_r1' ⟨rfl, ?_⟩
    show mm_b _ _ _ _ _ [some (.ref 70), none, some (.int a2), some (.int a3), some (.int a4)] [.int r1] (((mm_fl true b1 b2), n1, n2, p, q, ad), I1, J1)
    show (¬ r1 = a3 → _) ∧ (r1 = a3 → _)
    refine ⟨fun c1 => ?_, fun c1 => ?_⟩
    · exact (h1.1 c1)
    · show mm_b _ _ _ _ _ [some (.ref 70), none, some (.int a2), some (.int a3), some (.int a4)] [] (((mm_fl true b1 b2), n1, n2, p, q, ad), I1, J1)
      show mm_wc d 102 [.ref 70, .int a4] (((mm_fl true b1 b2), 0, 0, p, q, ad), I1, J1) _
      refine mm_wcm (h1.2 c1) ?_
      rintro v τ ⟨r2, I2, J2, rfl, rfl, h2⟩
      refine mm_r1' ⟨rfl, ?_⟩
      show mm_b _ _ _ _ _ [some (.ref 70), none, some (.int a2), some (.int a3), some (.int a4)] [.int r2] (((mm_fl true b1 b2), n1, n2, p, q, ad), I2, J2)
      show (r2 = (nI 0) → _) ∧ (¬ r2 = (nI 0) → _)
      refine ⟨fun c2 => ?_, fun c2 => ?_⟩
      · exact (h2.1 c2)
      · exact (h2.2 c2)
/- 102 ThreeBreaths$Search canPutOut -/
theorem fx_102 {d : Nat} {x0 : Int32} {b1 b2 : Bool} {n1 n2 : Nat} {p q : Bool} {ad : Nat → Nat} {I : mmI} {J : mmJ} {Q : mmQ} (h : mm_w Q (mm_wc d) bk_102 2 [some (.ref 70), some (.int x0), some (.int (nI 0))] [] (((mm_fl true b1 b2), n1, n2, p, q, ad), I, J)) : mm_wc (d + 1) 102 [.ref 70, .int x0] (((mm_fl true b1 b2), n1, n2, p, q, ad), I, J) Q := by
  refine mm_call (c := 102) rfl rfl ?_
  refine mm_go [2] 80 ?_
  exact h
theorem fx_102_2 {d : Nat} {a1 : Int32} {a2 : Int32} {b1 b2 : Bool} {n1 n2 : Nat} {p q : Bool} {ad : Nat → Nat} {I : mmI} {J : mmJ} {Q : mmQ} (h : (((I (mm_ck p 0) 6) ≤ a2 → (((((I 71 0) >>> (a1 &&& 31)) &&& (nI 1)) = (nI 0) → Q (some (.int (nI 0))) (((mm_fl true b1 b2), n1, n2, p, q, ad), I, J)) ∧ (¬ (((I 71 0) >>> (a1 &&& 31)) &&& (nI 1)) = (nI 0) → Q (some (.int (nI 1))) (((mm_fl true b1 b2), n1, n2, p, q, ad), I, J)))) ∧ (¬ (I (mm_ck p 0) 6) ≤ a2 → ((((a1 >>> (a2 &&& 31)) &&& (nI 1)) = (nI 0) → mm_w Q (mm_wc d) bk_102 2 [some (.ref 70), some (.int a1), some (.int (a2 + (nI 1)))] [] (((mm_fl true b1 b2), n1, n2, p, q, ad), I, J)) ∧ (¬ ((a1 >>> (a2 &&& 31)) &&& (nI 1)) = (nI 0) → mm_wc d 36 [.ref 77, .int (nI 2), .int a2, .int (nI 1)] (((mm_fl true b1 b2), 0, 0, p, q, ad), I, J) (fun v τ => ∃ I1 J1, v = none ∧ τ = (((mm_fl true b1 b2), 0, 0, p, q, ad), I1, J1) ∧ mm_wc d 103 [.ref 70, .int (a1 ^^^ ((nI 1) <<< (a2 &&& 31))), .int a1] (((mm_fl true b1 b2), 0, 0, p, q, ad), I1, J1) (fun v τ => ∃ I2 J2, v = none ∧ τ = (((mm_fl true b1 b2), 0, 0, p, q, ad), I2, J2) ∧ mm_w Q (mm_wc d) bk_102 2 [some (.ref 70), some (.int a1), some (.int (a2 + (nI 1)))] [] (((mm_fl true b1 b2), n1, n2, p, q, ad), I2, J2)))))))) : mm_w Q (mm_wc (d)) bk_102 2 [some (.ref 70), some (.int a1), some (.int a2)] [] (((mm_fl true b1 b2), n1, n2, p, q, ad), I, J) := by
  cases p
  · refine mm_go [2] 80 ?_
    show ((I 32 6) ≤ a2 → _) ∧ (¬ (I 32 6) ≤ a2 → _)
    refine ⟨fun c0 => ?_, fun c0 => ?_⟩
    · show mm_u _ _ _ _ _ _ [some (.ref 70), some (.int a1), some (.int a2)] [] (((mm_fl true b1 b2), n1, n2, false, q, ad), I, J)
      show (vp_in (nI 0) 16384) ∧ _
      refine ⟨(mm_inl (by decide)), ?_⟩
      show mm_b _ _ _ _ _ [some (.ref 70), some (.int a1), none] [.int (I 71 0)] (((mm_fl true b1 b2), n1, n2, false, q, ad), I, J)
      show ((((I 71 0) >>> (a1 &&& 31)) &&& (nI 1)) = (nI 0) → _) ∧ (¬ (((I 71 0) >>> (a1 &&& 31)) &&& (nI 1)) = (nI 0) → _)
      refine ⟨fun c1 => ?_, fun c1 => ?_⟩
      · show mm_u _ _ _ _ _ _ [some (.ref 70), some (.int a1), none] [] (((mm_fl true b1 b2), n1, n2, false, q, ad), I, J)
        show (((nI 0) : Int32) = 0 ∨ ((nI 0) : Int32) = 1) ∧ _
        refine ⟨(by decide), ?_⟩
        exact ((h.1 c0).1 c1)
      · show mm_b _ _ _ _ _ [some (.ref 70), some (.int a1), none] [] (((mm_fl true b1 b2), n1, n2, false, q, ad), I, J)
        show (((nI 1) : Int32) = 0 ∨ ((nI 1) : Int32) = 1) ∧ _
        refine ⟨(by decide), ?_⟩
        exact ((h.1 c0).2 c1)
    · show mm_b _ _ _ _ _ [some (.ref 70), some (.int a1), some (.int a2)] [] (((mm_fl true b1 b2), n1, n2, false, q, ad), I, J)
      show (((a1 >>> (a2 &&& 31)) &&& (nI 1)) = (nI 0) → _) ∧ (¬ ((a1 >>> (a2 &&& 31)) &&& (nI 1)) = (nI 0) → _)
      refine ⟨fun c1 => ?_, fun c1 => ?_⟩
      · exact ((h.2 c0).1 c1)
      · show mm_b _ _ _ _ _ [some (.ref 70), some (.int a1), some (.int a2)] [] (((mm_fl true b1 b2), n1, n2, false, q, ad), I, J)
        show mm_wc d 36 [.ref 77, .int (nI 2), .int a2, .int (nI 1)] (((mm_fl true b1 b2), 0, 0, false, q, ad), I, J) _
        refine mm_wcm ((h.2 c0).2 c1) ?_
        rintro v τ ⟨I1, J1, rfl, rfl, h1⟩
        refine mm_r0' ⟨rfl, ?_⟩
        show mm_b _ _ _ _ _ [some (.ref 70), some (.int a1), some (.int a2)] [] (((mm_fl true b1 b2), n1, n2, false, q, ad), I1, J1)
        show mm_wc d 103 [.ref 70, .int (a1 ^^^ ((nI 1) <<< (a2 &&& 31))), .int a1] (((mm_fl true b1 b2), 0, 0, false, q, ad), I1, J1) _
        refine mm_wcm h1 ?_
        rintro v τ ⟨I2, J2, rfl, rfl, h2⟩
        refine mm_r0' ⟨rfl, ?_⟩
        exact h2
  · refine mm_go [2] 80 ?_
    show ((I 18 6) ≤ a2 → _) ∧ (¬ (I 18 6) ≤ a2 → _)
    refine ⟨fun c0 => ?_, fun c0 => ?_⟩
    · show mm_u _ _ _ _ _ _ [some (.ref 70), some (.int a1), some (.int a2)] [] (((mm_fl true b1 b2), n1, n2, true, q, ad), I, J)
      show (vp_in (nI 0) 16384) ∧ _
      refine ⟨(mm_inl (by decide)), ?_⟩
      show mm_b _ _ _ _ _ [some (.ref 70), some (.int a1), none] [.int (I 71 0)] (((mm_fl true b1 b2), n1, n2, true, q, ad), I, J)
      show ((((I 71 0) >>> (a1 &&& 31)) &&& (nI 1)) = (nI 0) → _) ∧ (¬ (((I 71 0) >>> (a1 &&& 31)) &&& (nI 1)) = (nI 0) → _)
      refine ⟨fun c1 => ?_, fun c1 => ?_⟩
      · show mm_u _ _ _ _ _ _ [some (.ref 70), some (.int a1), none] [] (((mm_fl true b1 b2), n1, n2, true, q, ad), I, J)
        show (((nI 0) : Int32) = 0 ∨ ((nI 0) : Int32) = 1) ∧ _
        refine ⟨(by decide), ?_⟩
        exact ((h.1 c0).1 c1)
      · show mm_b _ _ _ _ _ [some (.ref 70), some (.int a1), none] [] (((mm_fl true b1 b2), n1, n2, true, q, ad), I, J)
        show (((nI 1) : Int32) = 0 ∨ ((nI 1) : Int32) = 1) ∧ _
        refine ⟨(by decide), ?_⟩
        exact ((h.1 c0).2 c1)
    · show mm_b _ _ _ _ _ [some (.ref 70), some (.int a1), some (.int a2)] [] (((mm_fl true b1 b2), n1, n2, true, q, ad), I, J)
      show (((a1 >>> (a2 &&& 31)) &&& (nI 1)) = (nI 0) → _) ∧ (¬ ((a1 >>> (a2 &&& 31)) &&& (nI 1)) = (nI 0) → _)
      refine ⟨fun c1 => ?_, fun c1 => ?_⟩
      · exact ((h.2 c0).1 c1)
      · show mm_b _ _ _ _ _ [some (.ref 70), some (.int a1), some (.int a2)] [] (((mm_fl true b1 b2), n1, n2, true, q, ad), I, J)
        show mm_wc d 36 [.ref 77, .int (nI 2), .int a2, .int (nI 1)] (((mm_fl true b1 b2), 0, 0, true, q, ad), I, J) _
        refine mm_wcm ((h.2 c0).2 c1) ?_
        rintro v τ ⟨I1, J1, rfl, rfl, h1⟩
        refine mm_r0' ⟨rfl, ?_⟩
        show mm_b _ _ _ _ _ [some (.ref 70), some (.int a1), some (.int a2)] [] (((mm_fl true b1 b2), n1, n2, true, q, ad), I1, J1)
        show mm_wc d 103 [.ref 70, .int (a1 ^^^ ((nI 1) <<< (a2 &&& 31))), .int a1] (((mm_fl true b1 b2), 0, 0, true, q, ad), I1, J1) _
        refine mm_wcm h1 ?_
        rintro v τ ⟨I2, J2, rfl, rfl, h2⟩
        refine mm_r0' ⟨rfl, ?_⟩
        exact h2
/- 103 ThreeBreaths$Search blowLast -/
theorem fx_103 {d : Nat} {x0 : Int32} {x1 : Int32} {b1 b2 : Bool} {n1 n2 : Nat} {p q : Bool} {ad : Nat → Nat} {I : mmI} {J : mmJ} {Q : mmQ} (h : mm_w Q (mm_wc d) bk_103 8 [some (.ref 70), some (.int x0), some (.int x1), some (.int (I 70 5)), some (.int (nI 0)), none, none, none] [] (((mm_fl true b1 b2), n1, n2, p, q, ad), I, J)) : mm_wc (d + 1) 103 [.ref 70, .int x0, .int x1] (((mm_fl true b1 b2), n1, n2, p, q, ad), I, J) Q := by
  refine mm_call (c := 103) rfl rfl ?_
  refine mm_go [8, 36] 80 ?_
  exact h
theorem fx_103_8 {d : Nat} {a1 : Int32} {a2 : Int32} {a3 : Int32} {a4 : Int32} {b1 b2 : Bool} {n1 n2 : Nat} {p q : Bool} {ad : Nat → Nat} {I : mmI} {J : mmJ} {Q : mmQ} (h : ((a3 ≤ a4 → Q none (((mm_fl true b1 b2), n1, n2, p, q, ad), I, J)) ∧ (¬ a3 ≤ a4 → (vp_in a4 6912 ∧ (vp_in (I 72 a4.toNatClampNeg) 16384 ∧ (((((I 71 ((I 72 a4.toNatClampNeg)).toNatClampNeg) >>> (a1 &&& 31)) &&& (nI 1)) = (nI 0) → mm_w Q (mm_wc d) bk_103 8 [some (.ref 70), some (.int a1), some (.int a2), some (.int a3), some (.int (a4 + (nI 1))), none, none, none] [] (((mm_fl true b1 b2), n1, n2, p, q, ad), I, J)) ∧ (¬ (((I 71 ((I 72 a4.toNatClampNeg)).toNatClampNeg) >>> (a1 &&& 31)) &&& (nI 1)) = (nI 0) → mm_w Q (mm_wc d) bk_103 36 [some (.ref 70), some (.int a1), some (.int a2), some (.int a3), some (.int a4), some (.int (nI 0)), none, none] [] (((mm_fl true b1 b2), n1, n2, p, q, ad), I, J)))))))) : mm_w Q (mm_wc (d)) bk_103 8 [some (.ref 70), some (.int a1), some (.int a2), some (.int a3), some (.int a4), none, none, none] [] (((mm_fl true b1 b2), n1, n2, p, q, ad), I, J) := by
  refine mm_go [8, 36] 80 ?_
  show (a3 ≤ a4 → _) ∧ (¬ a3 ≤ a4 → _)
  refine ⟨fun c0 => ?_, fun c0 => ?_⟩
  · exact (h.1 c0)
  · show mm_b _ _ _ _ _ [some (.ref 70), some (.int a1), some (.int a2), some (.int a3), some (.int a4), none, none, none] [] (((mm_fl true b1 b2), n1, n2, p, q, ad), I, J)
    show vp_in a4 6912 ∧ _
    refine ⟨(h.2 c0).1, ?_⟩
    show mm_b _ _ _ _ _ [some (.ref 70), some (.int a1), some (.int a2), some (.int a3), some (.int a4), none, none, none] [.int (I 72 a4.toNatClampNeg), .ref 71] (((mm_fl true b1 b2), n1, n2, p, q, ad), I, J)
    show vp_in (I 72 a4.toNatClampNeg) 16384 ∧ _
    refine ⟨(h.2 c0).2.1, ?_⟩
    show mm_b _ _ _ _ _ [some (.ref 70), some (.int a1), some (.int a2), some (.int a3), some (.int a4), none, none, none] [.int (I 71 ((I 72 a4.toNatClampNeg)).toNatClampNeg)] (((mm_fl true b1 b2), n1, n2, p, q, ad), I, J)
    show ((((I 71 ((I 72 a4.toNatClampNeg)).toNatClampNeg) >>> (a1 &&& 31)) &&& (nI 1)) = (nI 0) → _) ∧ (¬ (((I 71 ((I 72 a4.toNatClampNeg)).toNatClampNeg) >>> (a1 &&& 31)) &&& (nI 1)) = (nI 0) → _)
    refine ⟨fun c1 => ?_, fun c1 => ?_⟩
    · exact ((h.2 c0).2.2.1 c1)
    · exact ((h.2 c0).2.2.2 c1)
theorem fx_103_36 {d : Nat} {a1 : Int32} {a2 : Int32} {a3 : Int32} {a4 : Int32} {a5 : Int32} {b1 b2 : Bool} {n1 n2 : Nat} {p q : Bool} {ad : Nat → Nat} {I : mmI} {J : mmJ} {Q : mmQ} (h : (((I 77 3) ≤ a5 → mm_w Q (mm_wc d) bk_103 8 [some (.ref 70), some (.int a1), some (.int a2), some (.int a3), some (.int (a4 + (nI 1))), none, none, none] [] (((mm_fl true b1 b2), n1, n2, p, q, ad), I, J)) ∧ (¬ (I 77 3) ≤ a5 → (vp_in a4 6912 ∧ (vp_in a5 320 ∧ mm_wc d 24 [.ref 6, .int (I 72 a4.toNatClampNeg), .int (I 78 a5.toNatClampNeg)] (((mm_fl true b1 b2), 0, 0, p, q, ad), I, J) (fun v τ => ∃ r1 I1 J1, v = some (.int r1) ∧ τ = (((mm_fl true b1 b2), 0, 0, p, q, ad), I1, J1) ∧ (vp_in r1 16384 ∧ ((¬ (I1 71 r1.toNatClampNeg) = (nI 0) → (vp_in r1 16384 ∧ mm_w Q (mm_wc d) bk_103 36 [some (.ref 70), some (.int a1), some (.int a2), some (.int a3), some (.int a4), some (.int (a5 + (nI 1))), none, none] [] (((mm_fl true b1 b2), n1, n2, p, q, ad), (mm_up I1 71 r1.toNatClampNeg ((I1 71 r1.toNatClampNeg) ||| ((nI 1) <<< (a2 &&& 31)))), J1))) ∧ ((I1 71 r1.toNatClampNeg) = (nI 0) → mm_wc d 91 [.ref 70, .int r1, .int (nI 0)] (((mm_fl true b1 b2), 0, 0, p, q, ad), I1, J1) (fun v τ => ∃ I2 J2, v = none ∧ τ = (((mm_fl true b1 b2), 0, 0, p, q, ad), I2, J2) ∧ (vp_in r1 16384 ∧ mm_w Q (mm_wc d) bk_103 36 [some (.ref 70), some (.int a1), some (.int a2), some (.int a3), some (.int a4), some (.int (a5 + (nI 1))), none, none] [] (((mm_fl true b1 b2), n1, n2, p, q, ad), (mm_up I2 71 r1.toNatClampNeg ((I1 71 r1.toNatClampNeg) ||| ((nI 1) <<< (a2 &&& 31)))), J2)))))))))))) : mm_w Q (mm_wc (d)) bk_103 36 [some (.ref 70), some (.int a1), some (.int a2), some (.int a3), some (.int a4), some (.int a5), none, none] [] (((mm_fl true b1 b2), n1, n2, p, q, ad), I, J) := by
  refine mm_go [8, 36] 80 ?_
  show ((I 77 3) ≤ a5 → _) ∧ (¬ (I 77 3) ≤ a5 → _)
  refine ⟨fun c0 => ?_, fun c0 => ?_⟩
  · exact (h.1 c0)
  · show mm_b _ _ _ _ _ [some (.ref 70), some (.int a1), some (.int a2), some (.int a3), some (.int a4), some (.int a5), none, none] [] (((mm_fl true b1 b2), n1, n2, p, q, ad), I, J)
    show vp_in a4 6912 ∧ _
    refine ⟨(h.2 c0).1, ?_⟩
    show mm_b _ _ _ _ _ [some (.ref 70), some (.int a1), some (.int a2), some (.int a3), some (.int a4), some (.int a5), none, none] [.int (I 72 a4.toNatClampNeg), .ref 6] (((mm_fl true b1 b2), n1, n2, p, q, ad), I, J)
    show vp_in a5 320 ∧ _
    refine ⟨(h.2 c0).2.1, ?_⟩
    show mm_b _ _ _ _ _ [some (.ref 70), some (.int a1), some (.int a2), some (.int a3), some (.int a4), some (.int a5), none, none] [.int (I 78 a5.toNatClampNeg), .int (I 72 a4.toNatClampNeg), .ref 6] (((mm_fl true b1 b2), n1, n2, p, q, ad), I, J)
    show mm_wc d 24 [.ref 6, .int (I 72 a4.toNatClampNeg), .int (I 78 a5.toNatClampNeg)] (((mm_fl true b1 b2), 0, 0, p, q, ad), I, J) _
    refine mm_wcm ((h.2 c0).2.2) ?_
    rintro v τ ⟨r1, I1, J1, rfl, rfl, h1⟩
    refine mm_r1' ⟨rfl, ?_⟩
    show mm_b _ _ _ _ _ [some (.ref 70), some (.int a1), some (.int a2), some (.int a3), some (.int a4), some (.int a5), none, none] [.int r1] (((mm_fl true b1 b2), n1, n2, p, q, ad), I1, J1)
    show vp_in r1 16384 ∧ _
    refine ⟨h1.1, ?_⟩
    show mm_b _ _ _ _ _ [some (.ref 70), some (.int a1), some (.int a2), some (.int a3), some (.int a4), some (.int a5), some (.int r1), none] [.int (I1 71 r1.toNatClampNeg)] (((mm_fl true b1 b2), n1, n2, p, q, ad), I1, J1)
    show (¬ (I1 71 r1.toNatClampNeg) = (nI 0) → _) ∧ ((I1 71 r1.toNatClampNeg) = (nI 0) → _)
    refine ⟨fun c1 => ?_, fun c1 => ?_⟩
    · show mm_u _ _ _ _ _ _ [some (.ref 70), some (.int a1), some (.int a2), some (.int a3), some (.int a4), some (.int a5), some (.int r1), some (.int (I1 71 r1.toNatClampNeg))] [] (((mm_fl true b1 b2), n1, n2, p, q, ad), I1, J1)
      show vp_in r1 16384 ∧ _
      refine ⟨(h1.2.1 c1).1, ?_⟩
      exact (h1.2.1 c1).2
    · show mm_b _ _ _ _ _ [some (.ref 70), some (.int a1), some (.int a2), some (.int a3), some (.int a4), some (.int a5), some (.int r1), some (.int (I1 71 r1.toNatClampNeg))] [] (((mm_fl true b1 b2), n1, n2, p, q, ad), I1, J1)
      show mm_wc d 91 [.ref 70, .int r1, .int (nI 0)] (((mm_fl true b1 b2), 0, 0, p, q, ad), I1, J1) _
      refine mm_wcm (h1.2.2 c1) ?_
      rintro v τ ⟨I2, J2, rfl, rfl, h2⟩
      refine mm_r0' ⟨rfl, ?_⟩
      show mm_b _ _ _ _ _ [some (.ref 70), some (.int a1), some (.int a2), some (.int a3), some (.int a4), some (.int a5), some (.int r1), some (.int (I1 71 r1.toNatClampNeg))] [] (((mm_fl true b1 b2), n1, n2, p, q, ad), I2, J2)
      show vp_in r1 16384 ∧ _
      refine ⟨h2.1, ?_⟩
      exact h2.2
/- 104 ThreeBreaths$Search fewestBurning -/
theorem fx_104 {d : Nat} {x0 : Int32} {x1 : Int32} {b1 b2 : Bool} {n1 n2 : Nat} {p q : Bool} {ad : Nat → Nat} {I : mmI} {J : mmJ} {Q : mmQ} (h : mm_wc d 36 [.ref 77, .int (nI 4), .int (-1), .int (nI 1)] (((mm_fl true b1 b2), 0, 0, p, q, ad), I, J) (fun v τ => ∃ I1 J1, v = none ∧ τ = (((mm_fl true b1 b2), 0, 0, p, q, ad), I1, J1) ∧ mm_wc d 90 [.ref 70] (((mm_fl true b1 b2), 0, 0, p, q, ad), I1, J1) (fun v τ => ∃ I2 J2, v = none ∧ τ = (((mm_fl true b1 b2), 0, 0, p, q, ad), I2, J2) ∧ (vp_in x0 16384 ∧ mm_w Q (mm_wc d) bk_104 42 [some (.ref 70), none, some (.int x1), some (.ref 72), some (.ref 73), some (.int (nI 1)), some (.int (nI 2)), none, none] [] (((mm_fl true b1 b2), n1, n2, p, q, ad), (mm_up (mm_up I2 72 0 x0) 71 x0.toNatClampNeg (nI 1)), J2))))) : mm_wc (d + 1) 104 [.ref 70, .int x0, .int x1] (((mm_fl true b1 b2), n1, n2, p, q, ad), I, J) Q := by
  refine mm_call (c := 104) rfl rfl ?_
  refine mm_go [42, 98] 80 ?_
  show mm_wc d 36 [.ref 77, .int (nI 4), .int (-1), .int (nI 1)] (((mm_fl true b1 b2), 0, 0, p, q, ad), I, J) _
  refine mm_wcm h ?_
  rintro v τ ⟨I1, J1, rfl, rfl, h1⟩
  refine mm_r0' ⟨rfl, ?_⟩
  show mm_b _ _ _ _ _ [some (.ref 70), some (.int x0), some (.int x1), none, none, none, none, none, none] [] (((mm_fl true b1 b2), n1, n2, p, q, ad), I1, J1)
  show mm_wc d 90 [.ref 70] (((mm_fl true b1 b2), 0, 0, p, q, ad), I1, J1) _
  refine mm_wcm h1 ?_
  rintro v τ ⟨I2, J2, rfl, rfl, h2⟩
  refine mm_r0' ⟨rfl, ?_⟩
  show mm_b _ _ _ _ _ [some (.ref 70), some (.int x0), some (.int x1), none, none, none, none, none, none] [] (((mm_fl true b1 b2), n1, n2, p, q, ad), I2, J2)
  show (vp_in (nI 0) 6912) ∧ _
  refine ⟨(mm_inl (by decide)), ?_⟩
  show mm_b _ _ _ _ _ [some (.ref 70), some (.int x0), some (.int x1), some (.ref 72), some (.ref 73), some (.int (nI 1)), none, none, none] [] (((mm_fl true b1 b2), n1, n2, p, q, ad), (mm_up I2 72 0 x0), J2)
  show vp_in x0 16384 ∧ _
  refine ⟨h2.1, ?_⟩
  exact h2.2
theorem fx_104_42 {d : Nat} {a2 : Int32} {a5 : Int32} {a6 : Int32} {b1 b2 : Bool} {n1 n2 : Nat} {p q : Bool} {ad : Nat → Nat} {I : mmI} {J : mmJ} {Q : mmQ} (h : (((a2 + (nI 1)) < a6 → mm_wc d 279 [.ref 71, .int (nI 0)] (((mm_fl true b1 b2), 0, 0, p, q, ad), I, J) (fun v τ => ∃ I1 J1, v = none ∧ τ = (((mm_fl true b1 b2), 0, 0, p, q, ad), I1, J1) ∧ mm_w Q (mm_wc d) bk_104 98 [some (.ref 70), none, none, some (.ref 72), none, some (.int a5), some (.int (nI 10)), some (.int (nI 0)), none] [] (((mm_fl true b1 b2), n1, n2, p, q, ad), I1, J1))) ∧ (¬ (a2 + (nI 1)) < a6 → mm_wc d 105 [.ref 70, .ref 72, .int a5, .ref 73, .int a6] (((mm_fl true b1 b2), 0, 0, p, q, ad), I, J) (fun v τ => ∃ r2 I2 J2, v = some (.int r2) ∧ τ = (((mm_fl true b1 b2), 0, 0, p, q, ad), I2, J2) ∧ mm_w Q (mm_wc d) bk_104 42 [some (.ref 70), none, some (.int a2), some (.ref 73), some (.ref 72), some (.int r2), some (.int (a6 + (nI 1))), none, none] [] (((mm_fl true b1 b2), n1, n2, p, q, ad), I2, J2))))) : mm_w Q (mm_wc (d)) bk_104 42 [some (.ref 70), none, some (.int a2), some (.ref 72), some (.ref 73), some (.int a5), some (.int a6), none, none] [] (((mm_fl true b1 b2), n1, n2, p, q, ad), I, J) := by
  refine mm_go [42, 98] 80 ?_
  show ((a2 + (nI 1)) < a6 → _) ∧ (¬ (a2 + (nI 1)) < a6 → _)
  refine ⟨fun c0 => ?_, fun c0 => ?_⟩
  · show mm_u _ _ _ _ _ _ [some (.ref 70), none, some (.int a2), some (.ref 72), some (.ref 73), some (.int a5), some (.int a6), none, none] [] (((mm_fl true b1 b2), n1, n2, p, q, ad), I, J)
    show mm_wc d 279 [.ref 71, .int (nI 0)] (((mm_fl true b1 b2), 0, 0, p, q, ad), I, J) _
    refine mm_wcm (h.1 c0) ?_
    rintro v τ ⟨I1, J1, rfl, rfl, h1⟩
    refine mm_r0' ⟨rfl, ?_⟩
    exact h1
  · show mm_b _ _ _ _ _ [some (.ref 70), none, some (.int a2), some (.ref 72), some (.ref 73), some (.int a5), some (.int a6), none, none] [] (((mm_fl true b1 b2), n1, n2, p, q, ad), I, J)
    show mm_wc d 105 [.ref 70, .ref 72, .int a5, .ref 73, .int a6] (((mm_fl true b1 b2), 0, 0, p, q, ad), I, J) _
    refine mm_wcm (h.2 c0) ?_
    rintro v τ ⟨r2, I2, J2, rfl, rfl, h2⟩
    refine mm_r1' ⟨rfl, ?_⟩
    exact h2
theorem fx_104_98 {d : Nat} {a5 : Int32} {a6 : Int32} {a7 : Int32} {b1 b2 : Bool} {n1 n2 : Nat} {p q : Bool} {ad : Nat → Nat} {I : mmI} {J : mmJ} {Q : mmQ} (h : ((a5 ≤ a7 → Q (some (.int a6)) (((mm_fl true b1 b2), n1, n2, p, q, ad), I, J)) ∧ (¬ a5 ≤ a7 → (vp_in a7 6912 ∧ mm_wc d 18 [.ref 6, .int (I 72 a7.toNatClampNeg)] (((mm_fl true b1 b2), 0, 0, p, q, ad), I, J) (fun v τ => ∃ r1 I1 J1, v = some (.int r1) ∧ τ = (((mm_fl true b1 b2), 0, 0, p, q, ad), I1, J1) ∧ mm_wc d 1002 [.int a6, .int r1] (((mm_fl true b1 b2), 0, 0, p, q, ad), I1, J1) (fun v τ => ∃ r2 I2 J2, v = some (.int r2) ∧ τ = (((mm_fl true b1 b2), 0, 0, p, q, ad), I2, J2) ∧ mm_w Q (mm_wc d) bk_104 98 [some (.ref 70), none, none, some (.ref 72), none, some (.int a5), some (.int r2), some (.int (a7 + (nI 1))), none] [] (((mm_fl true b1 b2), n1, n2, p, q, ad), I2, J2))))))) : mm_w Q (mm_wc (d)) bk_104 98 [some (.ref 70), none, none, some (.ref 72), none, some (.int a5), some (.int a6), some (.int a7), none] [] (((mm_fl true b1 b2), n1, n2, p, q, ad), I, J) := by
  refine mm_go [42, 98] 80 ?_
  show (a5 ≤ a7 → _) ∧ (¬ a5 ≤ a7 → _)
  refine ⟨fun c0 => ?_, fun c0 => ?_⟩
  · exact (h.1 c0)
  · show mm_b _ _ _ _ _ [some (.ref 70), none, none, some (.ref 72), none, some (.int a5), some (.int a6), some (.int a7), none] [] (((mm_fl true b1 b2), n1, n2, p, q, ad), I, J)
    show vp_in a7 6912 ∧ _
    refine ⟨(h.2 c0).1, ?_⟩
    show mm_b _ _ _ _ _ [some (.ref 70), none, none, some (.ref 72), none, some (.int a5), some (.int a6), some (.int a7), none] [.int (I 72 a7.toNatClampNeg), .ref 6, .int a6] (((mm_fl true b1 b2), n1, n2, p, q, ad), I, J)
    show mm_wc d 18 [.ref 6, .int (I 72 a7.toNatClampNeg)] (((mm_fl true b1 b2), 0, 0, p, q, ad), I, J) _
    refine mm_wcm ((h.2 c0).2) ?_
    rintro v τ ⟨r1, I1, J1, rfl, rfl, h1⟩
    refine mm_r1' ⟨rfl, ?_⟩
    show mm_b _ _ _ _ _ [some (.ref 70), none, none, some (.ref 72), none, some (.int a5), some (.int a6), some (.int a7), none] [.int r1, .int a6] (((mm_fl true b1 b2), n1, n2, p, q, ad), I1, J1)
    show mm_wc d 1002 [.int a6, .int r1] (((mm_fl true b1 b2), 0, 0, p, q, ad), I1, J1) _
    refine mm_wcm h1 ?_
    rintro v τ ⟨r2, I2, J2, rfl, rfl, h2⟩
    refine mm_r1' ⟨rfl, ?_⟩
    exact h2
theorem fx_104_42b {d : Nat} {a2 : Int32} {a5 : Int32} {a6 : Int32} {b1 b2 : Bool} {n1 n2 : Nat} {p q : Bool} {ad : Nat → Nat} {I : mmI} {J : mmJ} {Q : mmQ} (h : (((a2 + (nI 1)) < a6 → mm_wc d 279 [.ref 71, .int (nI 0)] (((mm_fl true b1 b2), 0, 0, p, q, ad), I, J) (fun v τ => ∃ I1 J1, v = none ∧ τ = (((mm_fl true b1 b2), 0, 0, p, q, ad), I1, J1) ∧ mm_w Q (mm_wc d) bk_104 98 [some (.ref 70), none, none, some (.ref 73), none, some (.int a5), some (.int (nI 10)), some (.int (nI 0)), none] [] (((mm_fl true b1 b2), n1, n2, p, q, ad), I1, J1))) ∧ (¬ (a2 + (nI 1)) < a6 → mm_wc d 105 [.ref 70, .ref 73, .int a5, .ref 72, .int a6] (((mm_fl true b1 b2), 0, 0, p, q, ad), I, J) (fun v τ => ∃ r2 I2 J2, v = some (.int r2) ∧ τ = (((mm_fl true b1 b2), 0, 0, p, q, ad), I2, J2) ∧ mm_w Q (mm_wc d) bk_104 42 [some (.ref 70), none, some (.int a2), some (.ref 72), some (.ref 73), some (.int r2), some (.int (a6 + (nI 1))), none, none] [] (((mm_fl true b1 b2), n1, n2, p, q, ad), I2, J2))))) : mm_w Q (mm_wc (d)) bk_104 42 [some (.ref 70), none, some (.int a2), some (.ref 73), some (.ref 72), some (.int a5), some (.int a6), none, none] [] (((mm_fl true b1 b2), n1, n2, p, q, ad), I, J) := by
  refine mm_go [42, 98] 80 ?_
  show ((a2 + (nI 1)) < a6 → _) ∧ (¬ (a2 + (nI 1)) < a6 → _)
  refine ⟨fun c0 => ?_, fun c0 => ?_⟩
  · show mm_u _ _ _ _ _ _ [some (.ref 70), none, some (.int a2), some (.ref 73), some (.ref 72), some (.int a5), some (.int a6), none, none] [] (((mm_fl true b1 b2), n1, n2, p, q, ad), I, J)
    show mm_wc d 279 [.ref 71, .int (nI 0)] (((mm_fl true b1 b2), 0, 0, p, q, ad), I, J) _
    refine mm_wcm (h.1 c0) ?_
    rintro v τ ⟨I1, J1, rfl, rfl, h1⟩
    refine mm_r0' ⟨rfl, ?_⟩
    exact h1
  · show mm_b _ _ _ _ _ [some (.ref 70), none, some (.int a2), some (.ref 73), some (.ref 72), some (.int a5), some (.int a6), none, none] [] (((mm_fl true b1 b2), n1, n2, p, q, ad), I, J)
    show mm_wc d 105 [.ref 70, .ref 73, .int a5, .ref 72, .int a6] (((mm_fl true b1 b2), 0, 0, p, q, ad), I, J) _
    refine mm_wcm (h.2 c0) ?_
    rintro v τ ⟨r2, I2, J2, rfl, rfl, h2⟩
    refine mm_r1' ⟨rfl, ?_⟩
    exact h2
theorem fx_104_98b {d : Nat} {a5 : Int32} {a6 : Int32} {a7 : Int32} {b1 b2 : Bool} {n1 n2 : Nat} {p q : Bool} {ad : Nat → Nat} {I : mmI} {J : mmJ} {Q : mmQ} (h : ((a5 ≤ a7 → Q (some (.int a6)) (((mm_fl true b1 b2), n1, n2, p, q, ad), I, J)) ∧ (¬ a5 ≤ a7 → (vp_in a7 6912 ∧ mm_wc d 18 [.ref 6, .int (I 73 a7.toNatClampNeg)] (((mm_fl true b1 b2), 0, 0, p, q, ad), I, J) (fun v τ => ∃ r1 I1 J1, v = some (.int r1) ∧ τ = (((mm_fl true b1 b2), 0, 0, p, q, ad), I1, J1) ∧ mm_wc d 1002 [.int a6, .int r1] (((mm_fl true b1 b2), 0, 0, p, q, ad), I1, J1) (fun v τ => ∃ r2 I2 J2, v = some (.int r2) ∧ τ = (((mm_fl true b1 b2), 0, 0, p, q, ad), I2, J2) ∧ mm_w Q (mm_wc d) bk_104 98 [some (.ref 70), none, none, some (.ref 73), none, some (.int a5), some (.int r2), some (.int (a7 + (nI 1))), none] [] (((mm_fl true b1 b2), n1, n2, p, q, ad), I2, J2))))))) : mm_w Q (mm_wc (d)) bk_104 98 [some (.ref 70), none, none, some (.ref 73), none, some (.int a5), some (.int a6), some (.int a7), none] [] (((mm_fl true b1 b2), n1, n2, p, q, ad), I, J) := by
  refine mm_go [42, 98] 80 ?_
  show (a5 ≤ a7 → _) ∧ (¬ a5 ≤ a7 → _)
  refine ⟨fun c0 => ?_, fun c0 => ?_⟩
  · exact (h.1 c0)
  · show mm_b _ _ _ _ _ [some (.ref 70), none, none, some (.ref 73), none, some (.int a5), some (.int a6), some (.int a7), none] [] (((mm_fl true b1 b2), n1, n2, p, q, ad), I, J)
    show vp_in a7 6912 ∧ _
    refine ⟨(h.2 c0).1, ?_⟩
    show mm_b _ _ _ _ _ [some (.ref 70), none, none, some (.ref 73), none, some (.int a5), some (.int a6), some (.int a7), none] [.int (I 73 a7.toNatClampNeg), .ref 6, .int a6] (((mm_fl true b1 b2), n1, n2, p, q, ad), I, J)
    show mm_wc d 18 [.ref 6, .int (I 73 a7.toNatClampNeg)] (((mm_fl true b1 b2), 0, 0, p, q, ad), I, J) _
    refine mm_wcm ((h.2 c0).2) ?_
    rintro v τ ⟨r1, I1, J1, rfl, rfl, h1⟩
    refine mm_r1' ⟨rfl, ?_⟩
    show mm_b _ _ _ _ _ [some (.ref 70), none, none, some (.ref 73), none, some (.int a5), some (.int a6), some (.int a7), none] [.int r1, .int a6] (((mm_fl true b1 b2), n1, n2, p, q, ad), I1, J1)
    show mm_wc d 1002 [.int a6, .int r1] (((mm_fl true b1 b2), 0, 0, p, q, ad), I1, J1) _
    refine mm_wcm h1 ?_
    rintro v τ ⟨r2, I2, J2, rfl, rfl, h2⟩
    refine mm_r1' ⟨rfl, ?_⟩
    exact h2
/- 105 ThreeBreaths$Search nextRound -/
theorem fx_105a {d : Nat} {x1 : Int32} {x3 : Int32} {b1 b2 : Bool} {n1 n2 : Nat} {p q : Bool} {ad : Nat → Nat} {I : mmI} {J : mmJ} {Q : mmQ} (h : mm_w Q (mm_wc d) bk_105 6 [some (.ref 70), some (.ref 72), some (.int x1), some (.ref 73), some (.int x3), some (.int (nI 0)), some (.int (nI 0)), none, none] [] (((mm_fl true b1 b2), n1, n2, p, q, ad), I, J)) : mm_wc (d + 1) 105 [.ref 70, .ref 72, .int x1, .ref 73, .int x3] (((mm_fl true b1 b2), n1, n2, p, q, ad), I, J) Q := by
  refine mm_call (c := 105) rfl rfl ?_
  refine mm_go [6, 15] 80 ?_
  exact h
theorem fx_105a_6 {d : Nat} {a2 : Int32} {a4 : Int32} {a5 : Int32} {a6 : Int32} {b1 b2 : Bool} {n1 n2 : Nat} {p q : Bool} {ad : Nat → Nat} {I : mmI} {J : mmJ} {Q : mmQ} (h : ((a2 ≤ a6 → Q (some (.int a5)) (((mm_fl true b1 b2), n1, n2, p, q, ad), I, J)) ∧ (¬ a2 ≤ a6 → mm_w Q (mm_wc d) bk_105 15 [some (.ref 70), some (.ref 72), some (.int a2), some (.ref 73), some (.int a4), some (.int a5), some (.int a6), some (.int (nI 0)), none] [] (((mm_fl true b1 b2), n1, n2, p, q, ad), I, J)))) : mm_w Q (mm_wc (d)) bk_105 6 [some (.ref 70), some (.ref 72), some (.int a2), some (.ref 73), some (.int a4), some (.int a5), some (.int a6), none, none] [] (((mm_fl true b1 b2), n1, n2, p, q, ad), I, J) := by
  refine mm_go [6, 15] 80 ?_
  show (a2 ≤ a6 → _) ∧ (¬ a2 ≤ a6 → _)
  refine ⟨fun c0 => ?_, fun c0 => ?_⟩
  · exact (h.1 c0)
  · exact (h.2 c0)
theorem fx_105a_15 {d : Nat} {a2 : Int32} {a4 : Int32} {a5 : Int32} {a6 : Int32} {a7 : Int32} {b1 b2 : Bool} {n1 n2 : Nat} {p q : Bool} {ad : Nat → Nat} {I : mmI} {J : mmJ} {Q : mmQ} (h : (((I 77 3) ≤ a7 → mm_w Q (mm_wc d) bk_105 6 [some (.ref 70), some (.ref 72), some (.int a2), some (.ref 73), some (.int a4), some (.int a5), some (.int (a6 + (nI 1))), none, none] [] (((mm_fl true b1 b2), n1, n2, p, q, ad), I, J)) ∧ (¬ (I 77 3) ≤ a7 → (vp_in a6 6912 ∧ (vp_in a7 320 ∧ mm_wc d 24 [.ref 6, .int (I 72 a6.toNatClampNeg), .int (I 78 a7.toNatClampNeg)] (((mm_fl true b1 b2), 0, 0, p, q, ad), I, J) (fun v τ => ∃ r1 I1 J1, v = some (.int r1) ∧ τ = (((mm_fl true b1 b2), 0, 0, p, q, ad), I1, J1) ∧ (vp_in r1 16384 ∧ (((I1 71 r1.toNatClampNeg) = a4 → mm_w Q (mm_wc d) bk_105 15 [some (.ref 70), some (.ref 72), some (.int a2), some (.ref 73), some (.int a4), some (.int a5), some (.int a6), some (.int (a7 + (nI 1))), none] [] (((mm_fl true b1 b2), n1, n2, p, q, ad), I1, J1)) ∧ (¬ (I1 71 r1.toNatClampNeg) = a4 → (((nI 6912) ≤ a5 → mm_w Q (mm_wc d) bk_105 15 [some (.ref 70), some (.ref 72), some (.int a2), some (.ref 73), some (.int a4), some (.int a5), some (.int a6), some (.int (a7 + (nI 1))), none] [] (((mm_fl true b1 b2), n1, n2, p, q, ad), I1, J1)) ∧ (¬ (nI 6912) ≤ a5 → (vp_in r1 16384 ∧ (vp_in a5 6912 ∧ ((¬ r1 = (nI 0) → mm_w Q (mm_wc d) bk_105 15 [some (.ref 70), some (.ref 72), some (.int a2), some (.ref 73), some (.int a4), some (.int (a5 + (nI 1))), some (.int a6), some (.int (a7 + (nI 1))), none] [] (((mm_fl true b1 b2), n1, n2, p, q, ad), (mm_up (mm_up I1 71 r1.toNatClampNeg a4) 73 a5.toNatClampNeg r1), J1)) ∧ (r1 = (nI 0) → Q (some (.int (nI 1))) (((mm_fl true b1 b2), n1, n2, p, q, ad), (mm_up (mm_up (mm_up I1 71 r1.toNatClampNeg a4) 73 a5.toNatClampNeg r1) 73 0 (nI 0)), J1)))))))))))))))) : mm_w Q (mm_wc (d)) bk_105 15 [some (.ref 70), some (.ref 72), some (.int a2), some (.ref 73), some (.int a4), some (.int a5), some (.int a6), some (.int a7), none] [] (((mm_fl true b1 b2), n1, n2, p, q, ad), I, J) := by
  refine mm_go [6, 15] 80 ?_
  show ((I 77 3) ≤ a7 → _) ∧ (¬ (I 77 3) ≤ a7 → _)
  refine ⟨fun c0 => ?_, fun c0 => ?_⟩
  · exact (h.1 c0)
  · show mm_b _ _ _ _ _ [some (.ref 70), some (.ref 72), some (.int a2), some (.ref 73), some (.int a4), some (.int a5), some (.int a6), some (.int a7), none] [] (((mm_fl true b1 b2), n1, n2, p, q, ad), I, J)
    show vp_in a6 6912 ∧ _
    refine ⟨(h.2 c0).1, ?_⟩
    show mm_b _ _ _ _ _ [some (.ref 70), some (.ref 72), some (.int a2), some (.ref 73), some (.int a4), some (.int a5), some (.int a6), some (.int a7), none] [.int (I 72 a6.toNatClampNeg), .ref 6] (((mm_fl true b1 b2), n1, n2, p, q, ad), I, J)
    show vp_in a7 320 ∧ _
    refine ⟨(h.2 c0).2.1, ?_⟩
    show mm_b _ _ _ _ _ [some (.ref 70), some (.ref 72), some (.int a2), some (.ref 73), some (.int a4), some (.int a5), some (.int a6), some (.int a7), none] [.int (I 78 a7.toNatClampNeg), .int (I 72 a6.toNatClampNeg), .ref 6] (((mm_fl true b1 b2), n1, n2, p, q, ad), I, J)
    show mm_wc d 24 [.ref 6, .int (I 72 a6.toNatClampNeg), .int (I 78 a7.toNatClampNeg)] (((mm_fl true b1 b2), 0, 0, p, q, ad), I, J) _
    refine mm_wcm ((h.2 c0).2.2) ?_
    rintro v τ ⟨r1, I1, J1, rfl, rfl, h1⟩
    refine mm_r1' ⟨rfl, ?_⟩
    show mm_b _ _ _ _ _ [some (.ref 70), some (.ref 72), some (.int a2), some (.ref 73), some (.int a4), some (.int a5), some (.int a6), some (.int a7), none] [.int r1] (((mm_fl true b1 b2), n1, n2, p, q, ad), I1, J1)
    show vp_in r1 16384 ∧ _
    refine ⟨h1.1, ?_⟩
    show mm_b _ _ _ _ _ [some (.ref 70), some (.ref 72), some (.int a2), some (.ref 73), some (.int a4), some (.int a5), some (.int a6), some (.int a7), some (.int r1)] [.int (I1 71 r1.toNatClampNeg)] (((mm_fl true b1 b2), n1, n2, p, q, ad), I1, J1)
    show ((I1 71 r1.toNatClampNeg) = a4 → _) ∧ (¬ (I1 71 r1.toNatClampNeg) = a4 → _)
    refine ⟨fun c1 => ?_, fun c1 => ?_⟩
    · exact (h1.2.1 c1)
    · show mm_b _ _ _ _ _ [some (.ref 70), some (.ref 72), some (.int a2), some (.ref 73), some (.int a4), some (.int a5), some (.int a6), some (.int a7), some (.int r1)] [] (((mm_fl true b1 b2), n1, n2, p, q, ad), I1, J1)
      show ((nI 6912) ≤ a5 → _) ∧ (¬ (nI 6912) ≤ a5 → _)
      refine ⟨fun c2 => ?_, fun c2 => ?_⟩
      · exact ((h1.2.2 c1).1 c2)
      · show mm_b _ _ _ _ _ [some (.ref 70), some (.ref 72), some (.int a2), some (.ref 73), some (.int a4), some (.int a5), some (.int a6), some (.int a7), some (.int r1)] [] (((mm_fl true b1 b2), n1, n2, p, q, ad), I1, J1)
        show vp_in r1 16384 ∧ _
        refine ⟨((h1.2.2 c1).2 c2).1, ?_⟩
        show mm_b _ _ _ _ _ [some (.ref 70), some (.ref 72), some (.int a2), some (.ref 73), some (.int a4), some (.int a5), some (.int a6), some (.int a7), some (.int r1)] [] (((mm_fl true b1 b2), n1, n2, p, q, ad), (mm_up I1 71 r1.toNatClampNeg a4), J1)
        show vp_in a5 6912 ∧ _
        refine ⟨((h1.2.2 c1).2 c2).2.1, ?_⟩
        show mm_b _ _ _ _ _ [some (.ref 70), some (.ref 72), some (.int a2), some (.ref 73), some (.int a4), some (.int a5), some (.int a6), some (.int a7), some (.int r1)] [] (((mm_fl true b1 b2), n1, n2, p, q, ad), (mm_up (mm_up I1 71 r1.toNatClampNeg a4) 73 a5.toNatClampNeg r1), J1)
        show (¬ r1 = (nI 0) → _) ∧ (r1 = (nI 0) → _)
        refine ⟨fun c3 => ?_, fun c3 => ?_⟩
        · exact (((h1.2.2 c1).2 c2).2.2.1 c3)
        · show mm_b _ _ _ _ _ [some (.ref 70), some (.ref 72), some (.int a2), some (.ref 73), some (.int a4), some (.int (a5 + (nI 1))), some (.int a6), some (.int a7), some (.int r1)] [] (((mm_fl true b1 b2), n1, n2, p, q, ad), (mm_up (mm_up I1 71 r1.toNatClampNeg a4) 73 a5.toNatClampNeg r1), J1)
          show (vp_in (nI 0) 6912) ∧ _
          refine ⟨(mm_inl (by decide)), ?_⟩
          exact (((h1.2.2 c1).2 c2).2.2.2 c3)
/- 105 ThreeBreaths$Search nextRound -/
theorem fx_105b {d : Nat} {x1 : Int32} {x3 : Int32} {b1 b2 : Bool} {n1 n2 : Nat} {p q : Bool} {ad : Nat → Nat} {I : mmI} {J : mmJ} {Q : mmQ} (h : mm_w Q (mm_wc d) bk_105 6 [some (.ref 70), some (.ref 73), some (.int x1), some (.ref 72), some (.int x3), some (.int (nI 0)), some (.int (nI 0)), none, none] [] (((mm_fl true b1 b2), n1, n2, p, q, ad), I, J)) : mm_wc (d + 1) 105 [.ref 70, .ref 73, .int x1, .ref 72, .int x3] (((mm_fl true b1 b2), n1, n2, p, q, ad), I, J) Q := by
  refine mm_call (c := 105) rfl rfl ?_
  refine mm_go [6, 15] 80 ?_
  exact h
theorem fx_105b_6 {d : Nat} {a2 : Int32} {a4 : Int32} {a5 : Int32} {a6 : Int32} {b1 b2 : Bool} {n1 n2 : Nat} {p q : Bool} {ad : Nat → Nat} {I : mmI} {J : mmJ} {Q : mmQ} (h : ((a2 ≤ a6 → Q (some (.int a5)) (((mm_fl true b1 b2), n1, n2, p, q, ad), I, J)) ∧ (¬ a2 ≤ a6 → mm_w Q (mm_wc d) bk_105 15 [some (.ref 70), some (.ref 73), some (.int a2), some (.ref 72), some (.int a4), some (.int a5), some (.int a6), some (.int (nI 0)), none] [] (((mm_fl true b1 b2), n1, n2, p, q, ad), I, J)))) : mm_w Q (mm_wc (d)) bk_105 6 [some (.ref 70), some (.ref 73), some (.int a2), some (.ref 72), some (.int a4), some (.int a5), some (.int a6), none, none] [] (((mm_fl true b1 b2), n1, n2, p, q, ad), I, J) := by
  refine mm_go [6, 15] 80 ?_
  show (a2 ≤ a6 → _) ∧ (¬ a2 ≤ a6 → _)
  refine ⟨fun c0 => ?_, fun c0 => ?_⟩
  · exact (h.1 c0)
  · exact (h.2 c0)
theorem fx_105b_15 {d : Nat} {a2 : Int32} {a4 : Int32} {a5 : Int32} {a6 : Int32} {a7 : Int32} {b1 b2 : Bool} {n1 n2 : Nat} {p q : Bool} {ad : Nat → Nat} {I : mmI} {J : mmJ} {Q : mmQ} (h : (((I 77 3) ≤ a7 → mm_w Q (mm_wc d) bk_105 6 [some (.ref 70), some (.ref 73), some (.int a2), some (.ref 72), some (.int a4), some (.int a5), some (.int (a6 + (nI 1))), none, none] [] (((mm_fl true b1 b2), n1, n2, p, q, ad), I, J)) ∧ (¬ (I 77 3) ≤ a7 → (vp_in a6 6912 ∧ (vp_in a7 320 ∧ mm_wc d 24 [.ref 6, .int (I 73 a6.toNatClampNeg), .int (I 78 a7.toNatClampNeg)] (((mm_fl true b1 b2), 0, 0, p, q, ad), I, J) (fun v τ => ∃ r1 I1 J1, v = some (.int r1) ∧ τ = (((mm_fl true b1 b2), 0, 0, p, q, ad), I1, J1) ∧ (vp_in r1 16384 ∧ (((I1 71 r1.toNatClampNeg) = a4 → mm_w Q (mm_wc d) bk_105 15 [some (.ref 70), some (.ref 73), some (.int a2), some (.ref 72), some (.int a4), some (.int a5), some (.int a6), some (.int (a7 + (nI 1))), none] [] (((mm_fl true b1 b2), n1, n2, p, q, ad), I1, J1)) ∧ (¬ (I1 71 r1.toNatClampNeg) = a4 → (((nI 6912) ≤ a5 → mm_w Q (mm_wc d) bk_105 15 [some (.ref 70), some (.ref 73), some (.int a2), some (.ref 72), some (.int a4), some (.int a5), some (.int a6), some (.int (a7 + (nI 1))), none] [] (((mm_fl true b1 b2), n1, n2, p, q, ad), I1, J1)) ∧ (¬ (nI 6912) ≤ a5 → (vp_in r1 16384 ∧ (vp_in a5 6912 ∧ ((¬ r1 = (nI 0) → mm_w Q (mm_wc d) bk_105 15 [some (.ref 70), some (.ref 73), some (.int a2), some (.ref 72), some (.int a4), some (.int (a5 + (nI 1))), some (.int a6), some (.int (a7 + (nI 1))), none] [] (((mm_fl true b1 b2), n1, n2, p, q, ad), (mm_up (mm_up I1 71 r1.toNatClampNeg a4) 72 a5.toNatClampNeg r1), J1)) ∧ (r1 = (nI 0) → Q (some (.int (nI 1))) (((mm_fl true b1 b2), n1, n2, p, q, ad), (mm_up (mm_up (mm_up I1 71 r1.toNatClampNeg a4) 72 a5.toNatClampNeg r1) 72 0 (nI 0)), J1)))))))))))))))) : mm_w Q (mm_wc (d)) bk_105 15 [some (.ref 70), some (.ref 73), some (.int a2), some (.ref 72), some (.int a4), some (.int a5), some (.int a6), some (.int a7), none] [] (((mm_fl true b1 b2), n1, n2, p, q, ad), I, J) := by
  refine mm_go [6, 15] 80 ?_
  show ((I 77 3) ≤ a7 → _) ∧ (¬ (I 77 3) ≤ a7 → _)
  refine ⟨fun c0 => ?_, fun c0 => ?_⟩
  · exact (h.1 c0)
  · show mm_b _ _ _ _ _ [some (.ref 70), some (.ref 73), some (.int a2), some (.ref 72), some (.int a4), some (.int a5), some (.int a6), some (.int a7), none] [] (((mm_fl true b1 b2), n1, n2, p, q, ad), I, J)
    show vp_in a6 6912 ∧ _
    refine ⟨(h.2 c0).1, ?_⟩
    show mm_b _ _ _ _ _ [some (.ref 70), some (.ref 73), some (.int a2), some (.ref 72), some (.int a4), some (.int a5), some (.int a6), some (.int a7), none] [.int (I 73 a6.toNatClampNeg), .ref 6] (((mm_fl true b1 b2), n1, n2, p, q, ad), I, J)
    show vp_in a7 320 ∧ _
    refine ⟨(h.2 c0).2.1, ?_⟩
    show mm_b _ _ _ _ _ [some (.ref 70), some (.ref 73), some (.int a2), some (.ref 72), some (.int a4), some (.int a5), some (.int a6), some (.int a7), none] [.int (I 78 a7.toNatClampNeg), .int (I 73 a6.toNatClampNeg), .ref 6] (((mm_fl true b1 b2), n1, n2, p, q, ad), I, J)
    show mm_wc d 24 [.ref 6, .int (I 73 a6.toNatClampNeg), .int (I 78 a7.toNatClampNeg)] (((mm_fl true b1 b2), 0, 0, p, q, ad), I, J) _
    refine mm_wcm ((h.2 c0).2.2) ?_
    rintro v τ ⟨r1, I1, J1, rfl, rfl, h1⟩
    refine mm_r1' ⟨rfl, ?_⟩
    show mm_b _ _ _ _ _ [some (.ref 70), some (.ref 73), some (.int a2), some (.ref 72), some (.int a4), some (.int a5), some (.int a6), some (.int a7), none] [.int r1] (((mm_fl true b1 b2), n1, n2, p, q, ad), I1, J1)
    show vp_in r1 16384 ∧ _
    refine ⟨h1.1, ?_⟩
    show mm_b _ _ _ _ _ [some (.ref 70), some (.ref 73), some (.int a2), some (.ref 72), some (.int a4), some (.int a5), some (.int a6), some (.int a7), some (.int r1)] [.int (I1 71 r1.toNatClampNeg)] (((mm_fl true b1 b2), n1, n2, p, q, ad), I1, J1)
    show ((I1 71 r1.toNatClampNeg) = a4 → _) ∧ (¬ (I1 71 r1.toNatClampNeg) = a4 → _)
    refine ⟨fun c1 => ?_, fun c1 => ?_⟩
    · exact (h1.2.1 c1)
    · show mm_b _ _ _ _ _ [some (.ref 70), some (.ref 73), some (.int a2), some (.ref 72), some (.int a4), some (.int a5), some (.int a6), some (.int a7), some (.int r1)] [] (((mm_fl true b1 b2), n1, n2, p, q, ad), I1, J1)
      show ((nI 6912) ≤ a5 → _) ∧ (¬ (nI 6912) ≤ a5 → _)
      refine ⟨fun c2 => ?_, fun c2 => ?_⟩
      · exact ((h1.2.2 c1).1 c2)
      · show mm_b _ _ _ _ _ [some (.ref 70), some (.ref 73), some (.int a2), some (.ref 72), some (.int a4), some (.int a5), some (.int a6), some (.int a7), some (.int r1)] [] (((mm_fl true b1 b2), n1, n2, p, q, ad), I1, J1)
        show vp_in r1 16384 ∧ _
        refine ⟨((h1.2.2 c1).2 c2).1, ?_⟩
        show mm_b _ _ _ _ _ [some (.ref 70), some (.ref 73), some (.int a2), some (.ref 72), some (.int a4), some (.int a5), some (.int a6), some (.int a7), some (.int r1)] [] (((mm_fl true b1 b2), n1, n2, p, q, ad), (mm_up I1 71 r1.toNatClampNeg a4), J1)
        show vp_in a5 6912 ∧ _
        refine ⟨((h1.2.2 c1).2 c2).2.1, ?_⟩
        show mm_b _ _ _ _ _ [some (.ref 70), some (.ref 73), some (.int a2), some (.ref 72), some (.int a4), some (.int a5), some (.int a6), some (.int a7), some (.int r1)] [] (((mm_fl true b1 b2), n1, n2, p, q, ad), (mm_up (mm_up I1 71 r1.toNatClampNeg a4) 72 a5.toNatClampNeg r1), J1)
        show (¬ r1 = (nI 0) → _) ∧ (r1 = (nI 0) → _)
        refine ⟨fun c3 => ?_, fun c3 => ?_⟩
        · exact (((h1.2.2 c1).2 c2).2.2.1 c3)
        · show mm_b _ _ _ _ _ [some (.ref 70), some (.ref 73), some (.int a2), some (.ref 72), some (.int a4), some (.int (a5 + (nI 1))), some (.int a6), some (.int a7), some (.int r1)] [] (((mm_fl true b1 b2), n1, n2, p, q, ad), (mm_up (mm_up I1 71 r1.toNatClampNeg a4) 72 a5.toNatClampNeg r1), J1)
          show (vp_in (nI 0) 6912) ∧ _
          refine ⟨(mm_inl (by decide)), ?_⟩
          exact (((h1.2.2 c1).2 c2).2.2.2 c3)
