/- 38 ThreeBreaths$Odds outOf -/
theorem fx_38 {d : Nat} {x0 : Int32} {b0 b2 : Bool} {n1 n2 : Nat} {p q : Bool} {ad : Nat → Nat} {I : mmI} {J : mmJ} {Q : mmQ} (h : mm_wc d 42 [.ref 81] (((mm_fl b0 true b2), 0, 0, p, q, ad), I, J) (fun v τ => ∃ I1 J1, v = none ∧ τ = (((mm_fl b0 true b2), 0, 0, p, q, ad), I1, J1) ∧ mm_wc d 281 [.ref 81, .int x0] (((mm_fl b0 true b2), 0, 0, p, q, ad), I1, J1) (fun v τ => ∃ r2 I2 J2, v = some (.int r2) ∧ τ = (((mm_fl b0 true b2), 0, 0, p, q, ad), I2, J2) ∧ Q (some (.int r2)) (((mm_fl b0 true b2), n1, n2, p, q, ad), I2, J2)))) : mm_wc (d + 1) 38 [.ref 81, .int x0] (((mm_fl b0 true b2), n1, n2, p, q, ad), I, J) Q := by
  refine mm_call (c := 38) rfl rfl ?_
  refine mm_go [] 80 ?_
  show mm_wc d 42 [.ref 81] (((mm_fl b0 true b2), 0, 0, p, q, ad), I, J) _
  refine mm_wcm h ?_
  rintro v τ ⟨I1, J1, rfl, rfl, h1⟩
  refine mm_r0' ⟨rfl, ?_⟩
  show mm_b _ _ _ _ _ [some (.ref 81), some (.int x0)] [] (((mm_fl b0 true b2), n1, n2, p, q, ad), I1, J1)
  show mm_wc d 281 [.ref 81, .int x0] (((mm_fl b0 true b2), 0, 0, p, q, ad), I1, J1) _
  refine mm_wcm h1 ?_
  rintro v τ ⟨r2, I2, J2, rfl, rfl, h2⟩
  refine mm_r1' ⟨rfl, ?_⟩
  exact h2
/- 39 ThreeBreaths$Odds likeliness -/
theorem fx_39 {d : Nat} {x0 : Int32} {x1 : Int32} {b0 b2 : Bool} {n1 n2 : Nat} {p q : Bool} {ad : Nat → Nat} {I : mmI} {J : mmJ} {Q : mmQ} (h : mm_wc d 42 [.ref 81] (((mm_fl b0 true b2), 0, 0, p, q, ad), I, J) (fun v τ => ∃ I1 J1, v = none ∧ τ = (((mm_fl b0 true b2), 0, 0, p, q, ad), I1, J1) ∧ mm_wc d 46 [.ref 81, .int x0, .int x1] (((mm_fl b0 true b2), 0, 0, p, q, ad), I1, J1) (fun v τ => ∃ r2 I2 J2, v = some (.int r2) ∧ τ = (((mm_fl b0 true b2), 0, 0, p, q, ad), I2, J2) ∧ Q (some (.int r2)) (((mm_fl b0 true b2), n1, n2, p, q, ad), I2, J2)))) : mm_wc (d + 1) 39 [.ref 81, .int x0, .int x1] (((mm_fl b0 true b2), n1, n2, p, q, ad), I, J) Q := by
  refine mm_call (c := 39) rfl rfl ?_
  refine mm_go [] 80 ?_
  show mm_wc d 42 [.ref 81] (((mm_fl b0 true b2), 0, 0, p, q, ad), I, J) _
  refine mm_wcm h ?_
  rintro v τ ⟨I1, J1, rfl, rfl, h1⟩
  refine mm_r0' ⟨rfl, ?_⟩
  show mm_b _ _ _ _ _ [some (.ref 81), some (.int x0), some (.int x1)] [] (((mm_fl b0 true b2), n1, n2, p, q, ad), I1, J1)
  show mm_wc d 46 [.ref 81, .int x0, .int x1] (((mm_fl b0 true b2), 0, 0, p, q, ad), I1, J1) _
  refine mm_wcm h1 ?_
  rintro v τ ⟨r2, I2, J2, rfl, rfl, h2⟩
  refine mm_r1' ⟨rfl, ?_⟩
  exact h2
/- 40 ThreeBreaths$Odds meanLeft -/
theorem fx_40 {d : Nat} {x0 : Int32} {x1 : Int32} {b0 b2 : Bool} {n1 n2 : Nat} {p q : Bool} {ad : Nat → Nat} {I : mmI} {J : mmJ} {Q : mmQ} (h : mm_wc d 42 [.ref 81] (((mm_fl b0 true b2), 0, 0, p, q, ad), I, J) (fun v τ => ∃ I1 J1, v = none ∧ τ = (((mm_fl b0 true b2), 0, 0, p, q, ad), I1, J1) ∧ mm_wc d 48 [.ref 81, .int x0, .int x1] (((mm_fl b0 true b2), 0, 0, p, q, ad), I1, J1) (fun v τ => ∃ r2 I2 J2, v = some (.int r2) ∧ τ = (((mm_fl b0 true b2), 0, 0, p, q, ad), I2, J2) ∧ Q (some (.int r2)) (((mm_fl b0 true b2), n1, n2, p, q, ad), I2, J2)))) : mm_wc (d + 1) 40 [.ref 81, .int x0, .int x1] (((mm_fl b0 true b2), n1, n2, p, q, ad), I, J) Q := by
  refine mm_call (c := 40) rfl rfl ?_
  refine mm_go [] 80 ?_
  show mm_wc d 42 [.ref 81] (((mm_fl b0 true b2), 0, 0, p, q, ad), I, J) _
  refine mm_wcm h ?_
  rintro v τ ⟨I1, J1, rfl, rfl, h1⟩
  refine mm_r0' ⟨rfl, ?_⟩
  show mm_b _ _ _ _ _ [some (.ref 81), some (.int x0), some (.int x1)] [] (((mm_fl b0 true b2), n1, n2, p, q, ad), I1, J1)
  show mm_wc d 48 [.ref 81, .int x0, .int x1] (((mm_fl b0 true b2), 0, 0, p, q, ad), I1, J1) _
  refine mm_wcm h1 ?_
  rintro v τ ⟨r2, I2, J2, rfl, rfl, h2⟩
  refine mm_r1' ⟨rfl, ?_⟩
  exact h2
/- 41 ThreeBreaths$Odds likeliestBreath -/
theorem fx_41 {d : Nat} {x0 : Int32} {x1 : Int32} {b0 b2 : Bool} {n1 n2 : Nat} {p q : Bool} {ad : Nat → Nat} {I : mmI} {J : mmJ} {Q : mmQ} (h : mm_wc d 39 [.ref 81, .int x0, .int x1] (((mm_fl b0 true b2), 0, 0, p, q, ad), I, J) (fun v τ => ∃ r1 I1 J1, v = some (.int r1) ∧ τ = (((mm_fl b0 true b2), 0, 0, p, q, ad), I1, J1) ∧ mm_wc d 47 [.ref 81, .int x0, .int x1] (((mm_fl b0 true b2), 0, 0, p, q, ad), I1, J1) (fun v τ => ∃ I2 J2, v = none ∧ τ = (((mm_fl b0 true b2), 0, 0, p, q, ad), I2, J2) ∧ mm_w Q (mm_wc d) bk_41 16 [some (.ref 81), none, some (.int x1), some (.int r1), some (.int (nI 0))] [] (((mm_fl b0 true b2), n1, n2, p, q, ad), I2, J2)))) : mm_wc (d + 1) 41 [.ref 81, .int x0, .int x1] (((mm_fl b0 true b2), n1, n2, p, q, ad), I, J) Q := by
  refine mm_call (c := 41) rfl rfl ?_
  refine mm_go [16] 80 ?_
  show mm_wc d 39 [.ref 81, .int x0, .int x1] (((mm_fl b0 true b2), 0, 0, p, q, ad), I, J) _
  refine mm_wcm h ?_
  rintro v τ ⟨r1, I1, J1, rfl, rfl, h1⟩
  refine mm_r1' ⟨rfl, ?_⟩
  show mm_b _ _ _ _ _ [some (.ref 81), some (.int x0), some (.int x1), none, none] [.int r1] (((mm_fl b0 true b2), n1, n2, p, q, ad), I1, J1)
  show mm_wc d 47 [.ref 81, .int x0, .int x1] (((mm_fl b0 true b2), 0, 0, p, q, ad), I1, J1) _
  refine mm_wcm h1 ?_
  rintro v τ ⟨I2, J2, rfl, rfl, h2⟩
  refine mm_r0' ⟨rfl, ?_⟩
  exact h2
theorem fx_41_16 {d : Nat} {a2 : Int32} {a3 : Int32} {a4 : Int32} {b0 b2 : Bool} {n1 n2 : Nat} {p q : Bool} {ad : Nat → Nat} {I : mmI} {J : mmJ} {Q : mmQ} (h : (((I 81 9) ≤ a4 → Q (some (.int (-1))) (((mm_fl b0 true b2), n1, n2, p, q, ad), I, J)) ∧ (¬ (I 81 9) ≤ a4 → mm_wc d 45 [.ref 81, .int a4, .int a2] (((mm_fl b0 true b2), 0, 0, p, q, ad), I, J) (fun v τ => ∃ r1 I1 J1, v = some (.int r1) ∧ τ = (((mm_fl b0 true b2), 0, 0, p, q, ad), I1, J1) ∧ ((¬ r1 = a3 → mm_w Q (mm_wc d) bk_41 16 [some (.ref 81), none, some (.int a2), some (.int a3), some (.int (a4 + (nI 1)))] [] (((mm_fl b0 true b2), n1, n2, p, q, ad), I1, J1)) ∧ (r1 = a3 → (vp_in a4 320 ∧ Q (some (.int (I1 95 a4.toNatClampNeg))) (((mm_fl b0 true b2), n1, n2, p, q, ad), I1, J1)))))))) : mm_w Q (mm_wc (d)) bk_41 16 [some (.ref 81), none, some (.int a2), some (.int a3), some (.int a4)] [] (((mm_fl b0 true b2), n1, n2, p, q, ad), I, J) := by
  refine mm_go [16] 80 ?_
  show ((I 81 9) ≤ a4 → _) ∧ (¬ (I 81 9) ≤ a4 → _)
  refine ⟨fun c0 => ?_, fun c0 => ?_⟩
  · exact (h.1 c0)
  · show mm_b _ _ _ _ _ [some (.ref 81), none, some (.int a2), some (.int a3), some (.int a4)] [] (((mm_fl b0 true b2), n1, n2, p, q, ad), I, J)
    show mm_wc d 45 [.ref 81, .int a4, .int a2] (((mm_fl b0 true b2), 0, 0, p, q, ad), I, J) _
    refine mm_wcm (h.2 c0) ?_
    rintro v τ ⟨r1, I1, J1, rfl, rfl, h1⟩
    refine mm_r1' ⟨rfl, ?_⟩
    show mm_b _ _ _ _ _ [some (.ref 81), none, some (.int a2), some (.int a3), some (.int a4)] [.int r1] (((mm_fl b0 true b2), n1, n2, p, q, ad), I1, J1)
    show (¬ r1 = a3 → _) ∧ (r1 = a3 → _)
    refine ⟨fun c1 => ?_, fun c1 => ?_⟩
    · exact (h1.1 c1)
    · show mm_b _ _ _ _ _ [some (.ref 81), none, some (.int a2), some (.int a3), some (.int a4)] [] (((mm_fl b0 true b2), n1, n2, p, q, ad), I1, J1)
      show vp_in a4 320 ∧ _
      refine ⟨(h1.2 c1).1, ?_⟩
      exact (h1.2 c1).2
/- 42 ThreeBreaths$Odds prepare -/
theorem fx_42 {d : Nat} {b0 b2 : Bool} {n1 n2 : Nat} {p q : Bool} {ad : Nat → Nat} {I : mmI} {J : mmJ} {Q : mmQ} (h : ((¬ (I 81 1) = (I 6 1) → mm_wc d 279 [.ref 83, .int (-1)] (((mm_fl b0 true b2), 0, 0, p, q, ad), (mm_up I 81 1 (I 6 1)), J) (fun v τ => ∃ I1 J1, v = none ∧ τ = (((mm_fl b0 true b2), 0, 0, p, q, ad), I1, J1) ∧ mm_wc d 279 [.ref 86, .int (-1)] (((mm_fl b0 true b2), 0, 0, p, q, ad), I1, J1) (fun v τ => ∃ I2 J2, v = none ∧ τ = (((mm_fl b0 true b2), 0, 0, p, q, ad), I2, J2) ∧ mm_wc d 279 [.ref 84, .int (-1)] (((mm_fl b0 true b2), 0, 0, p, q, ad), I2, J2) (fun v τ => ∃ I3 J3, v = none ∧ τ = (((mm_fl b0 true b2), 0, 0, p, q, ad), I3, J3) ∧ mm_wc d 279 [.ref 87, .int (-1)] (((mm_fl b0 true b2), 0, 0, p, q, ad), I3, J3) (fun v τ => ∃ I4 J4, v = none ∧ τ = (((mm_fl b0 true b2), 0, 0, p, q, ad), I4, J4) ∧ mm_wc d 43 [.ref 81] (((mm_fl b0 true b2), 0, 0, p, q, ad), (mm_up (mm_up (mm_up I4 81 10 (I4 (mm_ck p 13) 0)) 81 11 (I4 (mm_ck p 13) 1)) 81 12 (I4 (mm_ck p 13) 2)), J4) (fun v τ => ∃ I5 J5, v = none ∧ τ = (((mm_fl b0 true b2), 0, 0, p, q, ad), I5, J5) ∧ Q none (((mm_fl b0 true b2), n1, n2, p, q, ad), I5, J5))))))) ∧ ((I 81 1) = (I 6 1) → Q none (((mm_fl b0 true b2), n1, n2, p, q, ad), I, J)))) : mm_wc (d + 1) 42 [.ref 81] (((mm_fl b0 true b2), n1, n2, p, q, ad), I, J) Q := by
  cases p
  · refine mm_call (c := 42) rfl rfl ?_
    refine mm_go [] 80 ?_
    show (¬ (I 81 1) = (I 6 1) → _) ∧ ((I 81 1) = (I 6 1) → _)
    refine ⟨fun c0 => ?_, fun c0 => ?_⟩
    · show mm_u _ _ _ _ _ _ [some (.ref 81), none] [] (((mm_fl b0 true b2), n1, n2, false, q, ad), I, J)
      show (((nI 2) : Int32) ≤ (nI 0) → _) ∧ (¬ ((nI 2) : Int32) ≤ (nI 0) → _)
      refine ⟨fun q => absurd q (by decide), fun _ => ?_⟩
      show mm_b _ _ _ _ _ [some (.ref 81), some (.int (nI 0))] [] (((mm_fl b0 true b2), n1, n2, false, q, ad), (mm_up I 81 1 (I 6 1)), J)
      show (vp_in (nI 0) 2) ∧ _
      refine ⟨(mm_inl (by decide)), ?_⟩
      show mm_b _ _ _ _ _ [some (.ref 81), some (.int (nI 0))] [.ref 83] (((mm_fl b0 true b2), n1, n2, false, q, ad), (mm_up I 81 1 (I 6 1)), J)
      show mm_wc d 279 [.ref 83, .int (-1)] (((mm_fl b0 true b2), 0, 0, false, q, ad), (mm_up I 81 1 (I 6 1)), J) _
      refine mm_wcm (h.1 c0) ?_
      rintro v τ ⟨I1, J1, rfl, rfl, h1⟩
      refine mm_r0' ⟨rfl, ?_⟩
      show mm_b _ _ _ _ _ [some (.ref 81), some (.int (nI 0))] [] (((mm_fl b0 true b2), n1, n2, false, q, ad), I1, J1)
      show (vp_in (nI 0) 2) ∧ _
      refine ⟨(mm_inl (by decide)), ?_⟩
      show mm_b _ _ _ _ _ [some (.ref 81), some (.int (nI 0))] [.ref 86] (((mm_fl b0 true b2), n1, n2, false, q, ad), I1, J1)
      show mm_wc d 279 [.ref 86, .int (-1)] (((mm_fl b0 true b2), 0, 0, false, q, ad), I1, J1) _
      refine mm_wcm h1 ?_
      rintro v τ ⟨I2, J2, rfl, rfl, h2⟩
      refine mm_r0' ⟨rfl, ?_⟩
      show mm_b _ _ _ _ _ [some (.ref 81), some (.int (nI 0))] [] (((mm_fl b0 true b2), n1, n2, false, q, ad), I2, J2)
      show (((nI 2) : Int32) ≤ (nI 1) → _) ∧ (¬ ((nI 2) : Int32) ≤ (nI 1) → _)
      refine ⟨fun q => absurd q (by decide), fun _ => ?_⟩
      show mm_b _ _ _ _ _ [some (.ref 81), some (.int (nI 1))] [] (((mm_fl b0 true b2), n1, n2, false, q, ad), I2, J2)
      show (vp_in (nI 1) 2) ∧ _
      refine ⟨(mm_inl (by decide)), ?_⟩
      show mm_b _ _ _ _ _ [some (.ref 81), some (.int (nI 1))] [.ref 84] (((mm_fl b0 true b2), n1, n2, false, q, ad), I2, J2)
      show mm_wc d 279 [.ref 84, .int (-1)] (((mm_fl b0 true b2), 0, 0, false, q, ad), I2, J2) _
      refine mm_wcm h2 ?_
      rintro v τ ⟨I3, J3, rfl, rfl, h3⟩
      refine mm_r0' ⟨rfl, ?_⟩
      show mm_b _ _ _ _ _ [some (.ref 81), some (.int (nI 1))] [] (((mm_fl b0 true b2), n1, n2, false, q, ad), I3, J3)
      show (vp_in (nI 1) 2) ∧ _
      refine ⟨(mm_inl (by decide)), ?_⟩
      show mm_b _ _ _ _ _ [some (.ref 81), some (.int (nI 1))] [.ref 87] (((mm_fl b0 true b2), n1, n2, false, q, ad), I3, J3)
      show mm_wc d 279 [.ref 87, .int (-1)] (((mm_fl b0 true b2), 0, 0, false, q, ad), I3, J3) _
      refine mm_wcm h3 ?_
      rintro v τ ⟨I4, J4, rfl, rfl, h4⟩
      refine mm_r0' ⟨rfl, ?_⟩
      show mm_b _ _ _ _ _ [some (.ref 81), some (.int (nI 1))] [] (((mm_fl b0 true b2), n1, n2, false, q, ad), I4, J4)
      show (((nI 2) : Int32) ≤ (nI 2) → _) ∧ (¬ ((nI 2) : Int32) ≤ (nI 2) → _)
      refine ⟨fun _ => ?_, fun q => absurd q (by decide)⟩
      show mm_u _ _ _ _ _ _ [some (.ref 81), some (.int (nI 2))] [] (((mm_fl b0 true b2), n1, n2, false, q, ad), I4, J4)
      show (vp_in (nI 0) 3) ∧ _
      refine ⟨(mm_inl (by decide)), ?_⟩
      show mm_b _ _ _ _ _ [some (.ref 81), none] [.int (I4 45 0), .ref 81] (((mm_fl b0 true b2), n1, n2, false, q, ad), I4, J4)
      show (vp_in (nI 1) 3) ∧ _
      refine ⟨(mm_inl (by decide)), ?_⟩
      show mm_b _ _ _ _ _ [some (.ref 81), none] [.int (I4 45 1), .ref 81] (((mm_fl b0 true b2), n1, n2, false, q, ad), (mm_up I4 81 10 (I4 45 0)), J4)
      show (vp_in (nI 2) 3) ∧ _
      refine ⟨(mm_inl (by decide)), ?_⟩
      show mm_b _ _ _ _ _ [some (.ref 81), none] [.int (I4 45 2), .ref 81] (((mm_fl b0 true b2), n1, n2, false, q, ad), (mm_up (mm_up I4 81 10 (I4 45 0)) 81 11 (I4 45 1)), J4)
      show mm_wc d 43 [.ref 81] (((mm_fl b0 true b2), 0, 0, false, q, ad), (mm_up (mm_up (mm_up I4 81 10 (I4 45 0)) 81 11 (I4 45 1)) 81 12 (I4 45 2)), J4) _
      refine mm_wcm h4 ?_
      rintro v τ ⟨I5, J5, rfl, rfl, h5⟩
      refine mm_r0' ⟨rfl, ?_⟩
      exact h5
    · exact (h.2 c0)
  · refine mm_call (c := 42) rfl rfl ?_
    refine mm_go [] 80 ?_
    show (¬ (I 81 1) = (I 6 1) → _) ∧ ((I 81 1) = (I 6 1) → _)
    refine ⟨fun c0 => ?_, fun c0 => ?_⟩
    · show mm_u _ _ _ _ _ _ [some (.ref 81), none] [] (((mm_fl b0 true b2), n1, n2, true, q, ad), I, J)
      show (((nI 2) : Int32) ≤ (nI 0) → _) ∧ (¬ ((nI 2) : Int32) ≤ (nI 0) → _)
      refine ⟨fun q => absurd q (by decide), fun _ => ?_⟩
      show mm_b _ _ _ _ _ [some (.ref 81), some (.int (nI 0))] [] (((mm_fl b0 true b2), n1, n2, true, q, ad), (mm_up I 81 1 (I 6 1)), J)
      show (vp_in (nI 0) 2) ∧ _
      refine ⟨(mm_inl (by decide)), ?_⟩
      show mm_b _ _ _ _ _ [some (.ref 81), some (.int (nI 0))] [.ref 83] (((mm_fl b0 true b2), n1, n2, true, q, ad), (mm_up I 81 1 (I 6 1)), J)
      show mm_wc d 279 [.ref 83, .int (-1)] (((mm_fl b0 true b2), 0, 0, true, q, ad), (mm_up I 81 1 (I 6 1)), J) _
      refine mm_wcm (h.1 c0) ?_
      rintro v τ ⟨I1, J1, rfl, rfl, h1⟩
      refine mm_r0' ⟨rfl, ?_⟩
      show mm_b _ _ _ _ _ [some (.ref 81), some (.int (nI 0))] [] (((mm_fl b0 true b2), n1, n2, true, q, ad), I1, J1)
      show (vp_in (nI 0) 2) ∧ _
      refine ⟨(mm_inl (by decide)), ?_⟩
      show mm_b _ _ _ _ _ [some (.ref 81), some (.int (nI 0))] [.ref 86] (((mm_fl b0 true b2), n1, n2, true, q, ad), I1, J1)
      show mm_wc d 279 [.ref 86, .int (-1)] (((mm_fl b0 true b2), 0, 0, true, q, ad), I1, J1) _
      refine mm_wcm h1 ?_
      rintro v τ ⟨I2, J2, rfl, rfl, h2⟩
      refine mm_r0' ⟨rfl, ?_⟩
      show mm_b _ _ _ _ _ [some (.ref 81), some (.int (nI 0))] [] (((mm_fl b0 true b2), n1, n2, true, q, ad), I2, J2)
      show (((nI 2) : Int32) ≤ (nI 1) → _) ∧ (¬ ((nI 2) : Int32) ≤ (nI 1) → _)
      refine ⟨fun q => absurd q (by decide), fun _ => ?_⟩
      show mm_b _ _ _ _ _ [some (.ref 81), some (.int (nI 1))] [] (((mm_fl b0 true b2), n1, n2, true, q, ad), I2, J2)
      show (vp_in (nI 1) 2) ∧ _
      refine ⟨(mm_inl (by decide)), ?_⟩
      show mm_b _ _ _ _ _ [some (.ref 81), some (.int (nI 1))] [.ref 84] (((mm_fl b0 true b2), n1, n2, true, q, ad), I2, J2)
      show mm_wc d 279 [.ref 84, .int (-1)] (((mm_fl b0 true b2), 0, 0, true, q, ad), I2, J2) _
      refine mm_wcm h2 ?_
      rintro v τ ⟨I3, J3, rfl, rfl, h3⟩
      refine mm_r0' ⟨rfl, ?_⟩
      show mm_b _ _ _ _ _ [some (.ref 81), some (.int (nI 1))] [] (((mm_fl b0 true b2), n1, n2, true, q, ad), I3, J3)
      show (vp_in (nI 1) 2) ∧ _
      refine ⟨(mm_inl (by decide)), ?_⟩
      show mm_b _ _ _ _ _ [some (.ref 81), some (.int (nI 1))] [.ref 87] (((mm_fl b0 true b2), n1, n2, true, q, ad), I3, J3)
      show mm_wc d 279 [.ref 87, .int (-1)] (((mm_fl b0 true b2), 0, 0, true, q, ad), I3, J3) _
      refine mm_wcm h3 ?_
      rintro v τ ⟨I4, J4, rfl, rfl, h4⟩
      refine mm_r0' ⟨rfl, ?_⟩
      show mm_b _ _ _ _ _ [some (.ref 81), some (.int (nI 1))] [] (((mm_fl b0 true b2), n1, n2, true, q, ad), I4, J4)
      show (((nI 2) : Int32) ≤ (nI 2) → _) ∧ (¬ ((nI 2) : Int32) ≤ (nI 2) → _)
      refine ⟨fun _ => ?_, fun q => absurd q (by decide)⟩
      show mm_u _ _ _ _ _ _ [some (.ref 81), some (.int (nI 2))] [] (((mm_fl b0 true b2), n1, n2, true, q, ad), I4, J4)
      show (vp_in (nI 0) 3) ∧ _
      refine ⟨(mm_inl (by decide)), ?_⟩
      show mm_b _ _ _ _ _ [some (.ref 81), none] [.int (I4 31 0), .ref 81] (((mm_fl b0 true b2), n1, n2, true, q, ad), I4, J4)
      show (vp_in (nI 1) 3) ∧ _
      refine ⟨(mm_inl (by decide)), ?_⟩
      show mm_b _ _ _ _ _ [some (.ref 81), none] [.int (I4 31 1), .ref 81] (((mm_fl b0 true b2), n1, n2, true, q, ad), (mm_up I4 81 10 (I4 31 0)), J4)
      show (vp_in (nI 2) 3) ∧ _
      refine ⟨(mm_inl (by decide)), ?_⟩
      show mm_b _ _ _ _ _ [some (.ref 81), none] [.int (I4 31 2), .ref 81] (((mm_fl b0 true b2), n1, n2, true, q, ad), (mm_up (mm_up I4 81 10 (I4 31 0)) 81 11 (I4 31 1)), J4)
      show mm_wc d 43 [.ref 81] (((mm_fl b0 true b2), 0, 0, true, q, ad), (mm_up (mm_up (mm_up I4 81 10 (I4 31 0)) 81 11 (I4 31 1)) 81 12 (I4 31 2)), J4) _
      refine mm_wcm h4 ?_
      rintro v τ ⟨I5, J5, rfl, rfl, h5⟩
      refine mm_r0' ⟨rfl, ?_⟩
      exact h5
    · exact (h.2 c0)
/- 43 ThreeBreaths$Odds findChoices -/
theorem fx_43 {d : Nat} {b0 b2 : Bool} {n1 n2 : Nat} {p q : Bool} {ad : Nat → Nat} {I : mmI} {J : mmJ} {Q : mmQ} (h : mm_w Q (mm_wc d) bk_43 7 [some (.ref 81), some (.int (nI 0)), none, none] [] (((mm_fl b0 true b2), n1, n2, p, q, ad), (mm_up I 81 9 (nI 0)), J)) : mm_wc (d + 1) 43 [.ref 81] (((mm_fl b0 true b2), n1, n2, p, q, ad), I, J) Q := by
  refine mm_call (c := 43) rfl rfl ?_
  refine mm_go [7] 80 ?_
  exact h
theorem fx_43_7 {d : Nat} {a1 : Int32} {b0 b2 : Bool} {n1 n2 : Nat} {p q : Bool} {ad : Nat → Nat} {I : mmI} {J : mmJ} {Q : mmQ} (h : (((I 6 2) ≤ a1 → Q none (((mm_fl b0 true b2), n1, n2, p, q, ad), I, J)) ∧ (¬ (I 6 2) ≤ a1 → mm_wc d 10 [.ref 6, .int a1] (((mm_fl b0 true b2), 0, 0, p, q, ad), I, J) (fun v τ => ∃ r1 I1 J1, v = some (.int r1) ∧ τ = (((mm_fl b0 true b2), 0, 0, p, q, ad), I1, J1) ∧ ((¬ (I1 81 10) = (nI 0) → (vp_in ((a1 - r1) + (((r1 + (nI 16)) - (nI 1)) - ((r1 + (nI 16)) - (nI 1)) / (nI 16) * (nI 16))) 320 ∧ (vp_in (I1 81 9) 320 ∧ ((¬ (I1 81 11) = (nI 0) → (vp_in a1 320 ∧ (vp_in (I1 81 9) 320 ∧ ((¬ (I1 81 12) = (nI 0) → (vp_in ((a1 - r1) + ((r1 + (nI 1)) - (r1 + (nI 1)) / (nI 16) * (nI 16))) 320 ∧ (vp_in (I1 81 9) 320 ∧ mm_wc d 44 [.ref 81] (((mm_fl b0 true b2), 0, 0, p, q, ad), (mm_up (mm_up (mm_up I1 92 ((I1 81 9)).toNatClampNeg (I1 8 (((a1 - r1) + (((r1 + (nI 16)) - (nI 1)) - ((r1 + (nI 16)) - (nI 1)) / (nI 16) * (nI 16)))).toNatClampNeg)) 93 ((I1 81 9)).toNatClampNeg (I1 8 a1.toNatClampNeg)) 94 ((I1 81 9)).toNatClampNeg (I1 8 (((a1 - r1) + ((r1 + (nI 1)) - (r1 + (nI 1)) / (nI 16) * (nI 16)))).toNatClampNeg)), J1) (fun v τ => ∃ r2 I2 J2, v = some (.int r2) ∧ τ = (((mm_fl b0 true b2), 0, 0, p, q, ad), I2, J2) ∧ ((r2 = (nI 0) → mm_w Q (mm_wc d) bk_43 7 [some (.ref 81), some (.int (a1 + (nI 1))), none, none] [] (((mm_fl b0 true b2), n1, n2, p, q, ad), I2, J2)) ∧ (¬ r2 = (nI 0) → (vp_in (I2 81 9) 320 ∧ mm_w Q (mm_wc d) bk_43 7 [some (.ref 81), some (.int (a1 + (nI 1))), none, none] [] (((mm_fl b0 true b2), n1, n2, p, q, ad), (mm_up (mm_up I2 95 ((I2 81 9)).toNatClampNeg a1) 81 9 ((I2 81 9) + (nI 1))), J2)))))))) ∧ ((I1 81 12) = (nI 0) → (vp_in (I1 81 9) 320 ∧ mm_wc d 44 [.ref 81] (((mm_fl b0 true b2), 0, 0, p, q, ad), (mm_up (mm_up (mm_up I1 92 ((I1 81 9)).toNatClampNeg (I1 8 (((a1 - r1) + (((r1 + (nI 16)) - (nI 1)) - ((r1 + (nI 16)) - (nI 1)) / (nI 16) * (nI 16)))).toNatClampNeg)) 93 ((I1 81 9)).toNatClampNeg (I1 8 a1.toNatClampNeg)) 94 ((I1 81 9)).toNatClampNeg (nI 0)), J1) (fun v τ => ∃ r3 I3 J3, v = some (.int r3) ∧ τ = (((mm_fl b0 true b2), 0, 0, p, q, ad), I3, J3) ∧ ((r3 = (nI 0) → mm_w Q (mm_wc d) bk_43 7 [some (.ref 81), some (.int (a1 + (nI 1))), none, none] [] (((mm_fl b0 true b2), n1, n2, p, q, ad), I3, J3)) ∧ (¬ r3 = (nI 0) → (vp_in (I3 81 9) 320 ∧ mm_w Q (mm_wc d) bk_43 7 [some (.ref 81), some (.int (a1 + (nI 1))), none, none] [] (((mm_fl b0 true b2), n1, n2, p, q, ad), (mm_up (mm_up I3 95 ((I3 81 9)).toNatClampNeg a1) 81 9 ((I3 81 9) + (nI 1))), J3))))))))))) ∧ ((I1 81 11) = (nI 0) → (vp_in (I1 81 9) 320 ∧ ((¬ (I1 81 12) = (nI 0) → (vp_in ((a1 - r1) + ((r1 + (nI 1)) - (r1 + (nI 1)) / (nI 16) * (nI 16))) 320 ∧ (vp_in (I1 81 9) 320 ∧ mm_wc d 44 [.ref 81] (((mm_fl b0 true b2), 0, 0, p, q, ad), (mm_up (mm_up (mm_up I1 92 ((I1 81 9)).toNatClampNeg (I1 8 (((a1 - r1) + (((r1 + (nI 16)) - (nI 1)) - ((r1 + (nI 16)) - (nI 1)) / (nI 16) * (nI 16)))).toNatClampNeg)) 93 ((I1 81 9)).toNatClampNeg (nI 0)) 94 ((I1 81 9)).toNatClampNeg (I1 8 (((a1 - r1) + ((r1 + (nI 1)) - (r1 + (nI 1)) / (nI 16) * (nI 16)))).toNatClampNeg)), J1) (fun v τ => ∃ r4 I4 J4, v = some (.int r4) ∧ τ = (((mm_fl b0 true b2), 0, 0, p, q, ad), I4, J4) ∧ ((r4 = (nI 0) → mm_w Q (mm_wc d) bk_43 7 [some (.ref 81), some (.int (a1 + (nI 1))), none, none] [] (((mm_fl b0 true b2), n1, n2, p, q, ad), I4, J4)) ∧ (¬ r4 = (nI 0) → (vp_in (I4 81 9) 320 ∧ mm_w Q (mm_wc d) bk_43 7 [some (.ref 81), some (.int (a1 + (nI 1))), none, none] [] (((mm_fl b0 true b2), n1, n2, p, q, ad), (mm_up (mm_up I4 95 ((I4 81 9)).toNatClampNeg a1) 81 9 ((I4 81 9) + (nI 1))), J4)))))))) ∧ ((I1 81 12) = (nI 0) → (vp_in (I1 81 9) 320 ∧ mm_wc d 44 [.ref 81] (((mm_fl b0 true b2), 0, 0, p, q, ad), (mm_up (mm_up (mm_up I1 92 ((I1 81 9)).toNatClampNeg (I1 8 (((a1 - r1) + (((r1 + (nI 16)) - (nI 1)) - ((r1 + (nI 16)) - (nI 1)) / (nI 16) * (nI 16)))).toNatClampNeg)) 93 ((I1 81 9)).toNatClampNeg (nI 0)) 94 ((I1 81 9)).toNatClampNeg (nI 0)), J1) (fun v τ => ∃ r5 I5 J5, v = some (.int r5) ∧ τ = (((mm_fl b0 true b2), 0, 0, p, q, ad), I5, J5) ∧ ((r5 = (nI 0) → mm_w Q (mm_wc d) bk_43 7 [some (.ref 81), some (.int (a1 + (nI 1))), none, none] [] (((mm_fl b0 true b2), n1, n2, p, q, ad), I5, J5)) ∧ (¬ r5 = (nI 0) → (vp_in (I5 81 9) 320 ∧ mm_w Q (mm_wc d) bk_43 7 [some (.ref 81), some (.int (a1 + (nI 1))), none, none] [] (((mm_fl b0 true b2), n1, n2, p, q, ad), (mm_up (mm_up I5 95 ((I5 81 9)).toNatClampNeg a1) 81 9 ((I5 81 9) + (nI 1))), J5)))))))))))))) ∧ ((I1 81 10) = (nI 0) → (vp_in (I1 81 9) 320 ∧ ((¬ (I1 81 11) = (nI 0) → (vp_in a1 320 ∧ (vp_in (I1 81 9) 320 ∧ ((¬ (I1 81 12) = (nI 0) → (vp_in ((a1 - r1) + ((r1 + (nI 1)) - (r1 + (nI 1)) / (nI 16) * (nI 16))) 320 ∧ (vp_in (I1 81 9) 320 ∧ mm_wc d 44 [.ref 81] (((mm_fl b0 true b2), 0, 0, p, q, ad), (mm_up (mm_up (mm_up I1 92 ((I1 81 9)).toNatClampNeg (nI 0)) 93 ((I1 81 9)).toNatClampNeg (I1 8 a1.toNatClampNeg)) 94 ((I1 81 9)).toNatClampNeg (I1 8 (((a1 - r1) + ((r1 + (nI 1)) - (r1 + (nI 1)) / (nI 16) * (nI 16)))).toNatClampNeg)), J1) (fun v τ => ∃ r6 I6 J6, v = some (.int r6) ∧ τ = (((mm_fl b0 true b2), 0, 0, p, q, ad), I6, J6) ∧ ((r6 = (nI 0) → mm_w Q (mm_wc d) bk_43 7 [some (.ref 81), some (.int (a1 + (nI 1))), none, none] [] (((mm_fl b0 true b2), n1, n2, p, q, ad), I6, J6)) ∧ (¬ r6 = (nI 0) → (vp_in (I6 81 9) 320 ∧ mm_w Q (mm_wc d) bk_43 7 [some (.ref 81), some (.int (a1 + (nI 1))), none, none] [] (((mm_fl b0 true b2), n1, n2, p, q, ad), (mm_up (mm_up I6 95 ((I6 81 9)).toNatClampNeg a1) 81 9 ((I6 81 9) + (nI 1))), J6)))))))) ∧ ((I1 81 12) = (nI 0) → (vp_in (I1 81 9) 320 ∧ mm_wc d 44 [.ref 81] (((mm_fl b0 true b2), 0, 0, p, q, ad), (mm_up (mm_up (mm_up I1 92 ((I1 81 9)).toNatClampNeg (nI 0)) 93 ((I1 81 9)).toNatClampNeg (I1 8 a1.toNatClampNeg)) 94 ((I1 81 9)).toNatClampNeg (nI 0)), J1) (fun v τ => ∃ r7 I7 J7, v = some (.int r7) ∧ τ = (((mm_fl b0 true b2), 0, 0, p, q, ad), I7, J7) ∧ ((r7 = (nI 0) → mm_w Q (mm_wc d) bk_43 7 [some (.ref 81), some (.int (a1 + (nI 1))), none, none] [] (((mm_fl b0 true b2), n1, n2, p, q, ad), I7, J7)) ∧ (¬ r7 = (nI 0) → (vp_in (I7 81 9) 320 ∧ mm_w Q (mm_wc d) bk_43 7 [some (.ref 81), some (.int (a1 + (nI 1))), none, none] [] (((mm_fl b0 true b2), n1, n2, p, q, ad), (mm_up (mm_up I7 95 ((I7 81 9)).toNatClampNeg a1) 81 9 ((I7 81 9) + (nI 1))), J7))))))))))) ∧ ((I1 81 11) = (nI 0) → (vp_in (I1 81 9) 320 ∧ ((¬ (I1 81 12) = (nI 0) → (vp_in ((a1 - r1) + ((r1 + (nI 1)) - (r1 + (nI 1)) / (nI 16) * (nI 16))) 320 ∧ (vp_in (I1 81 9) 320 ∧ mm_wc d 44 [.ref 81] (((mm_fl b0 true b2), 0, 0, p, q, ad), (mm_up (mm_up (mm_up I1 92 ((I1 81 9)).toNatClampNeg (nI 0)) 93 ((I1 81 9)).toNatClampNeg (nI 0)) 94 ((I1 81 9)).toNatClampNeg (I1 8 (((a1 - r1) + ((r1 + (nI 1)) - (r1 + (nI 1)) / (nI 16) * (nI 16)))).toNatClampNeg)), J1) (fun v τ => ∃ r8 I8 J8, v = some (.int r8) ∧ τ = (((mm_fl b0 true b2), 0, 0, p, q, ad), I8, J8) ∧ ((r8 = (nI 0) → mm_w Q (mm_wc d) bk_43 7 [some (.ref 81), some (.int (a1 + (nI 1))), none, none] [] (((mm_fl b0 true b2), n1, n2, p, q, ad), I8, J8)) ∧ (¬ r8 = (nI 0) → (vp_in (I8 81 9) 320 ∧ mm_w Q (mm_wc d) bk_43 7 [some (.ref 81), some (.int (a1 + (nI 1))), none, none] [] (((mm_fl b0 true b2), n1, n2, p, q, ad), (mm_up (mm_up I8 95 ((I8 81 9)).toNatClampNeg a1) 81 9 ((I8 81 9) + (nI 1))), J8)))))))) ∧ ((I1 81 12) = (nI 0) → (vp_in (I1 81 9) 320 ∧ mm_wc d 44 [.ref 81] (((mm_fl b0 true b2), 0, 0, p, q, ad), (mm_up (mm_up (mm_up I1 92 ((I1 81 9)).toNatClampNeg (nI 0)) 93 ((I1 81 9)).toNatClampNeg (nI 0)) 94 ((I1 81 9)).toNatClampNeg (nI 0)), J1) (fun v τ => ∃ r9 I9 J9, v = some (.int r9) ∧ τ = (((mm_fl b0 true b2), 0, 0, p, q, ad), I9, J9) ∧ ((r9 = (nI 0) → mm_w Q (mm_wc d) bk_43 7 [some (.ref 81), some (.int (a1 + (nI 1))), none, none] [] (((mm_fl b0 true b2), n1, n2, p, q, ad), I9, J9)) ∧ (¬ r9 = (nI 0) → (vp_in (I9 81 9) 320 ∧ mm_w Q (mm_wc d) bk_43 7 [some (.ref 81), some (.int (a1 + (nI 1))), none, none] [] (((mm_fl b0 true b2), n1, n2, p, q, ad), (mm_up (mm_up I9 95 ((I9 81 9)).toNatClampNeg a1) 81 9 ((I9 81 9) + (nI 1))), J9)))))))))))))))))) : mm_w Q (mm_wc (d)) bk_43 7 [some (.ref 81), some (.int a1), none, none] [] (((mm_fl b0 true b2), n1, n2, p, q, ad), I, J) := by
  refine mm_go [7] 80 ?_
  show ((I 6 2) ≤ a1 → _) ∧ (¬ (I 6 2) ≤ a1 → _)
  refine ⟨fun c0 => ?_, fun c0 => ?_⟩
  · exact (h.1 c0)
  · show mm_b _ _ _ _ _ [some (.ref 81), some (.int a1), none, none] [] (((mm_fl b0 true b2), n1, n2, p, q, ad), I, J)
    show mm_wc d 10 [.ref 6, .int a1] (((mm_fl b0 true b2), 0, 0, p, q, ad), I, J) _
    refine mm_wcm (h.2 c0) ?_
    rintro v τ ⟨r1, I1, J1, rfl, rfl, h1⟩
    refine mm_r1' ⟨rfl, ?_⟩
    show mm_b _ _ _ _ _ [some (.ref 81), some (.int a1), none, none] [.int r1] (((mm_fl b0 true b2), n1, n2, p, q, ad), I1, J1)
    show (¬ (I1 81 10) = (nI 0) → _) ∧ ((I1 81 10) = (nI 0) → _)
    refine ⟨fun c1 => ?_, fun c1 => ?_⟩
    · show mm_u _ _ _ _ _ _ [some (.ref 81), some (.int a1), some (.int r1), some (.int (a1 - r1))] [.int (I1 81 9), .ref 92] (((mm_fl b0 true b2), n1, n2, p, q, ad), I1, J1)
      show (¬ ((nI 16) : Int32) = 0) ∧ _
      refine ⟨(by decide), ?_⟩
      show mm_b _ _ _ _ _ [some (.ref 81), some (.int a1), some (.int r1), some (.int (a1 - r1))] [.int (((r1 + (nI 16)) - (nI 1)) - ((r1 + (nI 16)) - (nI 1)) / (nI 16) * (nI 16)), .int (a1 - r1), .ref 8, .int (I1 81 9), .ref 92] (((mm_fl b0 true b2), n1, n2, p, q, ad), I1, J1)
      show vp_in ((a1 - r1) + (((r1 + (nI 16)) - (nI 1)) - ((r1 + (nI 16)) - (nI 1)) / (nI 16) * (nI 16))) 320 ∧ _
      refine ⟨(h1.1 c1).1, ?_⟩
      show mm_b _ _ _ _ _ [some (.ref 81), some (.int a1), some (.int r1), some (.int (a1 - r1))] [.int (I1 8 (((a1 - r1) + (((r1 + (nI 16)) - (nI 1)) - ((r1 + (nI 16)) - (nI 1)) / (nI 16) * (nI 16)))).toNatClampNeg), .int (I1 81 9), .ref 92] (((mm_fl b0 true b2), n1, n2, p, q, ad), I1, J1)
      show vp_in (I1 81 9) 320 ∧ _
      refine ⟨(h1.1 c1).2.1, ?_⟩
      show mm_b _ _ _ _ _ [some (.ref 81), some (.int a1), some (.int r1), some (.int (a1 - r1))] [] (((mm_fl b0 true b2), n1, n2, p, q, ad), (mm_up I1 92 ((I1 81 9)).toNatClampNeg (I1 8 (((a1 - r1) + (((r1 + (nI 16)) - (nI 1)) - ((r1 + (nI 16)) - (nI 1)) / (nI 16) * (nI 16)))).toNatClampNeg)), J1)
      show (¬ (I1 81 11) = (nI 0) → _) ∧ ((I1 81 11) = (nI 0) → _)
      refine ⟨fun c2 => ?_, fun c2 => ?_⟩
      · show mm_u _ _ _ _ _ _ [some (.ref 81), some (.int a1), some (.int r1), some (.int (a1 - r1))] [.int (I1 81 9), .ref 93] (((mm_fl b0 true b2), n1, n2, p, q, ad), (mm_up I1 92 ((I1 81 9)).toNatClampNeg (I1 8 (((a1 - r1) + (((r1 + (nI 16)) - (nI 1)) - ((r1 + (nI 16)) - (nI 1)) / (nI 16) * (nI 16)))).toNatClampNeg)), J1)
        show vp_in a1 320 ∧ _
        refine ⟨((h1.1 c1).2.2.1 c2).1, ?_⟩
        show mm_b _ _ _ _ _ [some (.ref 81), some (.int a1), some (.int r1), some (.int (a1 - r1))] [.int (I1 8 a1.toNatClampNeg), .int (I1 81 9), .ref 93] (((mm_fl b0 true b2), n1, n2, p, q, ad), (mm_up I1 92 ((I1 81 9)).toNatClampNeg (I1 8 (((a1 - r1) + (((r1 + (nI 16)) - (nI 1)) - ((r1 + (nI 16)) - (nI 1)) / (nI 16) * (nI 16)))).toNatClampNeg)), J1)
        show vp_in (I1 81 9) 320 ∧ _
        refine ⟨((h1.1 c1).2.2.1 c2).2.1, ?_⟩
        show mm_b _ _ _ _ _ [some (.ref 81), some (.int a1), some (.int r1), some (.int (a1 - r1))] [] (((mm_fl b0 true b2), n1, n2, p, q, ad), (mm_up (mm_up I1 92 ((I1 81 9)).toNatClampNeg (I1 8 (((a1 - r1) + (((r1 + (nI 16)) - (nI 1)) - ((r1 + (nI 16)) - (nI 1)) / (nI 16) * (nI 16)))).toNatClampNeg)) 93 ((I1 81 9)).toNatClampNeg (I1 8 a1.toNatClampNeg)), J1)
        show (¬ (I1 81 12) = (nI 0) → _) ∧ ((I1 81 12) = (nI 0) → _)
        refine ⟨fun c3 => ?_, fun c3 => ?_⟩
        · show mm_u _ _ _ _ _ _ [some (.ref 81), some (.int a1), some (.int r1), some (.int (a1 - r1))] [.int (I1 81 9), .ref 94] (((mm_fl b0 true b2), n1, n2, p, q, ad), (mm_up (mm_up I1 92 ((I1 81 9)).toNatClampNeg (I1 8 (((a1 - r1) + (((r1 + (nI 16)) - (nI 1)) - ((r1 + (nI 16)) - (nI 1)) / (nI 16) * (nI 16)))).toNatClampNeg)) 93 ((I1 81 9)).toNatClampNeg (I1 8 a1.toNatClampNeg)), J1)
          show (¬ ((nI 16) : Int32) = 0) ∧ _
          refine ⟨(by decide), ?_⟩
          show mm_b _ _ _ _ _ [some (.ref 81), some (.int a1), some (.int r1), some (.int (a1 - r1))] [.int ((r1 + (nI 1)) - (r1 + (nI 1)) / (nI 16) * (nI 16)), .int (a1 - r1), .ref 8, .int (I1 81 9), .ref 94] (((mm_fl b0 true b2), n1, n2, p, q, ad), (mm_up (mm_up I1 92 ((I1 81 9)).toNatClampNeg (I1 8 (((a1 - r1) + (((r1 + (nI 16)) - (nI 1)) - ((r1 + (nI 16)) - (nI 1)) / (nI 16) * (nI 16)))).toNatClampNeg)) 93 ((I1 81 9)).toNatClampNeg (I1 8 a1.toNatClampNeg)), J1)
          show vp_in ((a1 - r1) + ((r1 + (nI 1)) - (r1 + (nI 1)) / (nI 16) * (nI 16))) 320 ∧ _
          refine ⟨(((h1.1 c1).2.2.1 c2).2.2.1 c3).1, ?_⟩
          show mm_b _ _ _ _ _ [some (.ref 81), some (.int a1), some (.int r1), some (.int (a1 - r1))] [.int (I1 8 (((a1 - r1) + ((r1 + (nI 1)) - (r1 + (nI 1)) / (nI 16) * (nI 16)))).toNatClampNeg), .int (I1 81 9), .ref 94] (((mm_fl b0 true b2), n1, n2, p, q, ad), (mm_up (mm_up I1 92 ((I1 81 9)).toNatClampNeg (I1 8 (((a1 - r1) + (((r1 + (nI 16)) - (nI 1)) - ((r1 + (nI 16)) - (nI 1)) / (nI 16) * (nI 16)))).toNatClampNeg)) 93 ((I1 81 9)).toNatClampNeg (I1 8 a1.toNatClampNeg)), J1)
          show vp_in (I1 81 9) 320 ∧ _
          refine ⟨(((h1.1 c1).2.2.1 c2).2.2.1 c3).2.1, ?_⟩
          show mm_b _ _ _ _ _ [some (.ref 81), some (.int a1), none, none] [] (((mm_fl b0 true b2), n1, n2, p, q, ad), (mm_up (mm_up (mm_up I1 92 ((I1 81 9)).toNatClampNeg (I1 8 (((a1 - r1) + (((r1 + (nI 16)) - (nI 1)) - ((r1 + (nI 16)) - (nI 1)) / (nI 16) * (nI 16)))).toNatClampNeg)) 93 ((I1 81 9)).toNatClampNeg (I1 8 a1.toNatClampNeg)) 94 ((I1 81 9)).toNatClampNeg (I1 8 (((a1 - r1) + ((r1 + (nI 1)) - (r1 + (nI 1)) / (nI 16) * (nI 16)))).toNatClampNeg)), J1)
          show mm_wc d 44 [.ref 81] (((mm_fl b0 true b2), 0, 0, p, q, ad), (mm_up (mm_up (mm_up I1 92 ((I1 81 9)).toNatClampNeg (I1 8 (((a1 - r1) + (((r1 + (nI 16)) - (nI 1)) - ((r1 + (nI 16)) - (nI 1)) / (nI 16) * (nI 16)))).toNatClampNeg)) 93 ((I1 81 9)).toNatClampNeg (I1 8 a1.toNatClampNeg)) 94 ((I1 81 9)).toNatClampNeg (I1 8 (((a1 - r1) + ((r1 + (nI 1)) - (r1 + (nI 1)) / (nI 16) * (nI 16)))).toNatClampNeg)), J1) _
          refine mm_wcm ((((h1.1 c1).2.2.1 c2).2.2.1 c3).2.2) ?_
          rintro v τ ⟨r2, I2, J2, rfl, rfl, h2⟩
          refine mm_r1' ⟨rfl, ?_⟩
          show mm_b _ _ _ _ _ [some (.ref 81), some (.int a1), none, none] [.int r2] (((mm_fl b0 true b2), n1, n2, p, q, ad), I2, J2)
          show (r2 = (nI 0) → _) ∧ (¬ r2 = (nI 0) → _)
          refine ⟨fun c4 => ?_, fun c4 => ?_⟩
          · exact (h2.1 c4)
          · show mm_b _ _ _ _ _ [some (.ref 81), some (.int a1), none, none] [] (((mm_fl b0 true b2), n1, n2, p, q, ad), I2, J2)
            show vp_in (I2 81 9) 320 ∧ _
            refine ⟨(h2.2 c4).1, ?_⟩
            exact (h2.2 c4).2
        · show mm_b _ _ _ _ _ [some (.ref 81), some (.int a1), some (.int r1), some (.int (a1 - r1))] [.int (I1 81 9), .ref 94] (((mm_fl b0 true b2), n1, n2, p, q, ad), (mm_up (mm_up I1 92 ((I1 81 9)).toNatClampNeg (I1 8 (((a1 - r1) + (((r1 + (nI 16)) - (nI 1)) - ((r1 + (nI 16)) - (nI 1)) / (nI 16) * (nI 16)))).toNatClampNeg)) 93 ((I1 81 9)).toNatClampNeg (I1 8 a1.toNatClampNeg)), J1)
          show vp_in (I1 81 9) 320 ∧ _
          refine ⟨(((h1.1 c1).2.2.1 c2).2.2.2 c3).1, ?_⟩
          show mm_b _ _ _ _ _ [some (.ref 81), some (.int a1), none, none] [] (((mm_fl b0 true b2), n1, n2, p, q, ad), (mm_up (mm_up (mm_up I1 92 ((I1 81 9)).toNatClampNeg (I1 8 (((a1 - r1) + (((r1 + (nI 16)) - (nI 1)) - ((r1 + (nI 16)) - (nI 1)) / (nI 16) * (nI 16)))).toNatClampNeg)) 93 ((I1 81 9)).toNatClampNeg (I1 8 a1.toNatClampNeg)) 94 ((I1 81 9)).toNatClampNeg (nI 0)), J1)
          show mm_wc d 44 [.ref 81] (((mm_fl b0 true b2), 0, 0, p, q, ad), (mm_up (mm_up (mm_up I1 92 ((I1 81 9)).toNatClampNeg (I1 8 (((a1 - r1) + (((r1 + (nI 16)) - (nI 1)) - ((r1 + (nI 16)) - (nI 1)) / (nI 16) * (nI 16)))).toNatClampNeg)) 93 ((I1 81 9)).toNatClampNeg (I1 8 a1.toNatClampNeg)) 94 ((I1 81 9)).toNatClampNeg (nI 0)), J1) _
          refine mm_wcm ((((h1.1 c1).2.2.1 c2).2.2.2 c3).2) ?_
          rintro v τ ⟨r3, I3, J3, rfl, rfl, h3⟩
          refine mm_r1' ⟨rfl, ?_⟩
          show mm_b _ _ _ _ _ [some (.ref 81), some (.int a1), none, none] [.int r3] (((mm_fl b0 true b2), n1, n2, p, q, ad), I3, J3)
          show (r3 = (nI 0) → _) ∧ (¬ r3 = (nI 0) → _)
          refine ⟨fun c4 => ?_, fun c4 => ?_⟩
          · exact (h3.1 c4)
          · show mm_b _ _ _ _ _ [some (.ref 81), some (.int a1), none, none] [] (((mm_fl b0 true b2), n1, n2, p, q, ad), I3, J3)
            show vp_in (I3 81 9) 320 ∧ _
            refine ⟨(h3.2 c4).1, ?_⟩
            exact (h3.2 c4).2
      · show mm_b _ _ _ _ _ [some (.ref 81), some (.int a1), some (.int r1), some (.int (a1 - r1))] [.int (I1 81 9), .ref 93] (((mm_fl b0 true b2), n1, n2, p, q, ad), (mm_up I1 92 ((I1 81 9)).toNatClampNeg (I1 8 (((a1 - r1) + (((r1 + (nI 16)) - (nI 1)) - ((r1 + (nI 16)) - (nI 1)) / (nI 16) * (nI 16)))).toNatClampNeg)), J1)
        show vp_in (I1 81 9) 320 ∧ _
        refine ⟨((h1.1 c1).2.2.2 c2).1, ?_⟩
        show mm_b _ _ _ _ _ [some (.ref 81), some (.int a1), some (.int r1), some (.int (a1 - r1))] [] (((mm_fl b0 true b2), n1, n2, p, q, ad), (mm_up (mm_up I1 92 ((I1 81 9)).toNatClampNeg (I1 8 (((a1 - r1) + (((r1 + (nI 16)) - (nI 1)) - ((r1 + (nI 16)) - (nI 1)) / (nI 16) * (nI 16)))).toNatClampNeg)) 93 ((I1 81 9)).toNatClampNeg (nI 0)), J1)
        show (¬ (I1 81 12) = (nI 0) → _) ∧ ((I1 81 12) = (nI 0) → _)
        refine ⟨fun c3 => ?_, fun c3 => ?_⟩
        · show mm_u _ _ _ _ _ _ [some (.ref 81), some (.int a1), some (.int r1), some (.int (a1 - r1))] [.int (I1 81 9), .ref 94] (((mm_fl b0 true b2), n1, n2, p, q, ad), (mm_up (mm_up I1 92 ((I1 81 9)).toNatClampNeg (I1 8 (((a1 - r1) + (((r1 + (nI 16)) - (nI 1)) - ((r1 + (nI 16)) - (nI 1)) / (nI 16) * (nI 16)))).toNatClampNeg)) 93 ((I1 81 9)).toNatClampNeg (nI 0)), J1)
          show (¬ ((nI 16) : Int32) = 0) ∧ _
          refine ⟨(by decide), ?_⟩
          show mm_b _ _ _ _ _ [some (.ref 81), some (.int a1), some (.int r1), some (.int (a1 - r1))] [.int ((r1 + (nI 1)) - (r1 + (nI 1)) / (nI 16) * (nI 16)), .int (a1 - r1), .ref 8, .int (I1 81 9), .ref 94] (((mm_fl b0 true b2), n1, n2, p, q, ad), (mm_up (mm_up I1 92 ((I1 81 9)).toNatClampNeg (I1 8 (((a1 - r1) + (((r1 + (nI 16)) - (nI 1)) - ((r1 + (nI 16)) - (nI 1)) / (nI 16) * (nI 16)))).toNatClampNeg)) 93 ((I1 81 9)).toNatClampNeg (nI 0)), J1)
          show vp_in ((a1 - r1) + ((r1 + (nI 1)) - (r1 + (nI 1)) / (nI 16) * (nI 16))) 320 ∧ _
          refine ⟨(((h1.1 c1).2.2.2 c2).2.1 c3).1, ?_⟩
          show mm_b _ _ _ _ _ [some (.ref 81), some (.int a1), some (.int r1), some (.int (a1 - r1))] [.int (I1 8 (((a1 - r1) + ((r1 + (nI 1)) - (r1 + (nI 1)) / (nI 16) * (nI 16)))).toNatClampNeg), .int (I1 81 9), .ref 94] (((mm_fl b0 true b2), n1, n2, p, q, ad), (mm_up (mm_up I1 92 ((I1 81 9)).toNatClampNeg (I1 8 (((a1 - r1) + (((r1 + (nI 16)) - (nI 1)) - ((r1 + (nI 16)) - (nI 1)) / (nI 16) * (nI 16)))).toNatClampNeg)) 93 ((I1 81 9)).toNatClampNeg (nI 0)), J1)
          show vp_in (I1 81 9) 320 ∧ _
          refine ⟨(((h1.1 c1).2.2.2 c2).2.1 c3).2.1, ?_⟩
          show mm_b _ _ _ _ _ [some (.ref 81), some (.int a1), none, none] [] (((mm_fl b0 true b2), n1, n2, p, q, ad), (mm_up (mm_up (mm_up I1 92 ((I1 81 9)).toNatClampNeg (I1 8 (((a1 - r1) + (((r1 + (nI 16)) - (nI 1)) - ((r1 + (nI 16)) - (nI 1)) / (nI 16) * (nI 16)))).toNatClampNeg)) 93 ((I1 81 9)).toNatClampNeg (nI 0)) 94 ((I1 81 9)).toNatClampNeg (I1 8 (((a1 - r1) + ((r1 + (nI 1)) - (r1 + (nI 1)) / (nI 16) * (nI 16)))).toNatClampNeg)), J1)
          show mm_wc d 44 [.ref 81] (((mm_fl b0 true b2), 0, 0, p, q, ad), (mm_up (mm_up (mm_up I1 92 ((I1 81 9)).toNatClampNeg (I1 8 (((a1 - r1) + (((r1 + (nI 16)) - (nI 1)) - ((r1 + (nI 16)) - (nI 1)) / (nI 16) * (nI 16)))).toNatClampNeg)) 93 ((I1 81 9)).toNatClampNeg (nI 0)) 94 ((I1 81 9)).toNatClampNeg (I1 8 (((a1 - r1) + ((r1 + (nI 1)) - (r1 + (nI 1)) / (nI 16) * (nI 16)))).toNatClampNeg)), J1) _
          refine mm_wcm ((((h1.1 c1).2.2.2 c2).2.1 c3).2.2) ?_
          rintro v τ ⟨r4, I4, J4, rfl, rfl, h4⟩
          refine mm_r1' ⟨rfl, ?_⟩
          show mm_b _ _ _ _ _ [some (.ref 81), some (.int a1), none, none] [.int r4] (((mm_fl b0 true b2), n1, n2, p, q, ad), I4, J4)
          show (r4 = (nI 0) → _) ∧ (¬ r4 = (nI 0) → _)
          refine ⟨fun c4 => ?_, fun c4 => ?_⟩
          · exact (h4.1 c4)
          · show mm_b _ _ _ _ _ [some (.ref 81), some (.int a1), none, none] [] (((mm_fl b0 true b2), n1, n2, p, q, ad), I4, J4)
            show vp_in (I4 81 9) 320 ∧ _
            refine ⟨(h4.2 c4).1, ?_⟩
            exact (h4.2 c4).2
        · show mm_b _ _ _ _ _ [some (.ref 81), some (.int a1), some (.int r1), some (.int (a1 - r1))] [.int (I1 81 9), .ref 94] (((mm_fl b0 true b2), n1, n2, p, q, ad), (mm_up (mm_up I1 92 ((I1 81 9)).toNatClampNeg (I1 8 (((a1 - r1) + (((r1 + (nI 16)) - (nI 1)) - ((r1 + (nI 16)) - (nI 1)) / (nI 16) * (nI 16)))).toNatClampNeg)) 93 ((I1 81 9)).toNatClampNeg (nI 0)), J1)
          show vp_in (I1 81 9) 320 ∧ _
          refine ⟨(((h1.1 c1).2.2.2 c2).2.2 c3).1, ?_⟩
          show mm_b _ _ _ _ _ [some (.ref 81), some (.int a1), none, none] [] (((mm_fl b0 true b2), n1, n2, p, q, ad), (mm_up (mm_up (mm_up I1 92 ((I1 81 9)).toNatClampNeg (I1 8 (((a1 - r1) + (((r1 + (nI 16)) - (nI 1)) - ((r1 + (nI 16)) - (nI 1)) / (nI 16) * (nI 16)))).toNatClampNeg)) 93 ((I1 81 9)).toNatClampNeg (nI 0)) 94 ((I1 81 9)).toNatClampNeg (nI 0)), J1)
          show mm_wc d 44 [.ref 81] (((mm_fl b0 true b2), 0, 0, p, q, ad), (mm_up (mm_up (mm_up I1 92 ((I1 81 9)).toNatClampNeg (I1 8 (((a1 - r1) + (((r1 + (nI 16)) - (nI 1)) - ((r1 + (nI 16)) - (nI 1)) / (nI 16) * (nI 16)))).toNatClampNeg)) 93 ((I1 81 9)).toNatClampNeg (nI 0)) 94 ((I1 81 9)).toNatClampNeg (nI 0)), J1) _
          refine mm_wcm ((((h1.1 c1).2.2.2 c2).2.2 c3).2) ?_
          rintro v τ ⟨r5, I5, J5, rfl, rfl, h5⟩
          refine mm_r1' ⟨rfl, ?_⟩
          show mm_b _ _ _ _ _ [some (.ref 81), some (.int a1), none, none] [.int r5] (((mm_fl b0 true b2), n1, n2, p, q, ad), I5, J5)
          show (r5 = (nI 0) → _) ∧ (¬ r5 = (nI 0) → _)
          refine ⟨fun c4 => ?_, fun c4 => ?_⟩
          · exact (h5.1 c4)
          · show mm_b _ _ _ _ _ [some (.ref 81), some (.int a1), none, none] [] (((mm_fl b0 true b2), n1, n2, p, q, ad), I5, J5)
            show vp_in (I5 81 9) 320 ∧ _
            refine ⟨(h5.2 c4).1, ?_⟩
            exact (h5.2 c4).2
    · show mm_b _ _ _ _ _ [some (.ref 81), some (.int a1), some (.int r1), some (.int (a1 - r1))] [.int (I1 81 9), .ref 92] (((mm_fl b0 true b2), n1, n2, p, q, ad), I1, J1)
      show vp_in (I1 81 9) 320 ∧ _
      refine ⟨(h1.2 c1).1, ?_⟩
      show mm_b _ _ _ _ _ [some (.ref 81), some (.int a1), some (.int r1), some (.int (a1 - r1))] [] (((mm_fl b0 true b2), n1, n2, p, q, ad), (mm_up I1 92 ((I1 81 9)).toNatClampNeg (nI 0)), J1)
      show (¬ (I1 81 11) = (nI 0) → _) ∧ ((I1 81 11) = (nI 0) → _)
      refine ⟨fun c2 => ?_, fun c2 => ?_⟩
      · show mm_u _ _ _ _ _ _ [some (.ref 81), some (.int a1), some (.int r1), some (.int (a1 - r1))] [.int (I1 81 9), .ref 93] (((mm_fl b0 true b2), n1, n2, p, q, ad), (mm_up I1 92 ((I1 81 9)).toNatClampNeg (nI 0)), J1)
        show vp_in a1 320 ∧ _
        refine ⟨((h1.2 c1).2.1 c2).1, ?_⟩
        show mm_b _ _ _ _ _ [some (.ref 81), some (.int a1), some (.int r1), some (.int (a1 - r1))] [.int (I1 8 a1.toNatClampNeg), .int (I1 81 9), .ref 93] (((mm_fl b0 true b2), n1, n2, p, q, ad), (mm_up I1 92 ((I1 81 9)).toNatClampNeg (nI 0)), J1)
        show vp_in (I1 81 9) 320 ∧ _
        refine ⟨((h1.2 c1).2.1 c2).2.1, ?_⟩
        show mm_b _ _ _ _ _ [some (.ref 81), some (.int a1), some (.int r1), some (.int (a1 - r1))] [] (((mm_fl b0 true b2), n1, n2, p, q, ad), (mm_up (mm_up I1 92 ((I1 81 9)).toNatClampNeg (nI 0)) 93 ((I1 81 9)).toNatClampNeg (I1 8 a1.toNatClampNeg)), J1)
        show (¬ (I1 81 12) = (nI 0) → _) ∧ ((I1 81 12) = (nI 0) → _)
        refine ⟨fun c3 => ?_, fun c3 => ?_⟩
        · show mm_u _ _ _ _ _ _ [some (.ref 81), some (.int a1), some (.int r1), some (.int (a1 - r1))] [.int (I1 81 9), .ref 94] (((mm_fl b0 true b2), n1, n2, p, q, ad), (mm_up (mm_up I1 92 ((I1 81 9)).toNatClampNeg (nI 0)) 93 ((I1 81 9)).toNatClampNeg (I1 8 a1.toNatClampNeg)), J1)
          show (¬ ((nI 16) : Int32) = 0) ∧ _
          refine ⟨(by decide), ?_⟩
          show mm_b _ _ _ _ _ [some (.ref 81), some (.int a1), some (.int r1), some (.int (a1 - r1))] [.int ((r1 + (nI 1)) - (r1 + (nI 1)) / (nI 16) * (nI 16)), .int (a1 - r1), .ref 8, .int (I1 81 9), .ref 94] (((mm_fl b0 true b2), n1, n2, p, q, ad), (mm_up (mm_up I1 92 ((I1 81 9)).toNatClampNeg (nI 0)) 93 ((I1 81 9)).toNatClampNeg (I1 8 a1.toNatClampNeg)), J1)
          show vp_in ((a1 - r1) + ((r1 + (nI 1)) - (r1 + (nI 1)) / (nI 16) * (nI 16))) 320 ∧ _
          refine ⟨(((h1.2 c1).2.1 c2).2.2.1 c3).1, ?_⟩
          show mm_b _ _ _ _ _ [some (.ref 81), some (.int a1), some (.int r1), some (.int (a1 - r1))] [.int (I1 8 (((a1 - r1) + ((r1 + (nI 1)) - (r1 + (nI 1)) / (nI 16) * (nI 16)))).toNatClampNeg), .int (I1 81 9), .ref 94] (((mm_fl b0 true b2), n1, n2, p, q, ad), (mm_up (mm_up I1 92 ((I1 81 9)).toNatClampNeg (nI 0)) 93 ((I1 81 9)).toNatClampNeg (I1 8 a1.toNatClampNeg)), J1)
          show vp_in (I1 81 9) 320 ∧ _
          refine ⟨(((h1.2 c1).2.1 c2).2.2.1 c3).2.1, ?_⟩
          show mm_b _ _ _ _ _ [some (.ref 81), some (.int a1), none, none] [] (((mm_fl b0 true b2), n1, n2, p, q, ad), (mm_up (mm_up (mm_up I1 92 ((I1 81 9)).toNatClampNeg (nI 0)) 93 ((I1 81 9)).toNatClampNeg (I1 8 a1.toNatClampNeg)) 94 ((I1 81 9)).toNatClampNeg (I1 8 (((a1 - r1) + ((r1 + (nI 1)) - (r1 + (nI 1)) / (nI 16) * (nI 16)))).toNatClampNeg)), J1)
          show mm_wc d 44 [.ref 81] (((mm_fl b0 true b2), 0, 0, p, q, ad), (mm_up (mm_up (mm_up I1 92 ((I1 81 9)).toNatClampNeg (nI 0)) 93 ((I1 81 9)).toNatClampNeg (I1 8 a1.toNatClampNeg)) 94 ((I1 81 9)).toNatClampNeg (I1 8 (((a1 - r1) + ((r1 + (nI 1)) - (r1 + (nI 1)) / (nI 16) * (nI 16)))).toNatClampNeg)), J1) _
          refine mm_wcm ((((h1.2 c1).2.1 c2).2.2.1 c3).2.2) ?_
          rintro v τ ⟨r6, I6, J6, rfl, rfl, h6⟩
          refine mm_r1' ⟨rfl, ?_⟩
          show mm_b _ _ _ _ _ [some (.ref 81), some (.int a1), none, none] [.int r6] (((mm_fl b0 true b2), n1, n2, p, q, ad), I6, J6)
          show (r6 = (nI 0) → _) ∧ (¬ r6 = (nI 0) → _)
          refine ⟨fun c4 => ?_, fun c4 => ?_⟩
          · exact (h6.1 c4)
          · show mm_b _ _ _ _ _ [some (.ref 81), some (.int a1), none, none] [] (((mm_fl b0 true b2), n1, n2, p, q, ad), I6, J6)
            show vp_in (I6 81 9) 320 ∧ _
            refine ⟨(h6.2 c4).1, ?_⟩
            exact (h6.2 c4).2
        · show mm_b _ _ _ _ _ [some (.ref 81), some (.int a1), some (.int r1), some (.int (a1 - r1))] [.int (I1 81 9), .ref 94] (((mm_fl b0 true b2), n1, n2, p, q, ad), (mm_up (mm_up I1 92 ((I1 81 9)).toNatClampNeg (nI 0)) 93 ((I1 81 9)).toNatClampNeg (I1 8 a1.toNatClampNeg)), J1)
          show vp_in (I1 81 9) 320 ∧ _
          refine ⟨(((h1.2 c1).2.1 c2).2.2.2 c3).1, ?_⟩
          show mm_b _ _ _ _ _ [some (.ref 81), some (.int a1), none, none] [] (((mm_fl b0 true b2), n1, n2, p, q, ad), (mm_up (mm_up (mm_up I1 92 ((I1 81 9)).toNatClampNeg (nI 0)) 93 ((I1 81 9)).toNatClampNeg (I1 8 a1.toNatClampNeg)) 94 ((I1 81 9)).toNatClampNeg (nI 0)), J1)
          show mm_wc d 44 [.ref 81] (((mm_fl b0 true b2), 0, 0, p, q, ad), (mm_up (mm_up (mm_up I1 92 ((I1 81 9)).toNatClampNeg (nI 0)) 93 ((I1 81 9)).toNatClampNeg (I1 8 a1.toNatClampNeg)) 94 ((I1 81 9)).toNatClampNeg (nI 0)), J1) _
          refine mm_wcm ((((h1.2 c1).2.1 c2).2.2.2 c3).2) ?_
          rintro v τ ⟨r7, I7, J7, rfl, rfl, h7⟩
          refine mm_r1' ⟨rfl, ?_⟩
          show mm_b _ _ _ _ _ [some (.ref 81), some (.int a1), none, none] [.int r7] (((mm_fl b0 true b2), n1, n2, p, q, ad), I7, J7)
          show (r7 = (nI 0) → _) ∧ (¬ r7 = (nI 0) → _)
          refine ⟨fun c4 => ?_, fun c4 => ?_⟩
          · exact (h7.1 c4)
          · show mm_b _ _ _ _ _ [some (.ref 81), some (.int a1), none, none] [] (((mm_fl b0 true b2), n1, n2, p, q, ad), I7, J7)
            show vp_in (I7 81 9) 320 ∧ _
            refine ⟨(h7.2 c4).1, ?_⟩
            exact (h7.2 c4).2
      · show mm_b _ _ _ _ _ [some (.ref 81), some (.int a1), some (.int r1), some (.int (a1 - r1))] [.int (I1 81 9), .ref 93] (((mm_fl b0 true b2), n1, n2, p, q, ad), (mm_up I1 92 ((I1 81 9)).toNatClampNeg (nI 0)), J1)
        show vp_in (I1 81 9) 320 ∧ _
        refine ⟨((h1.2 c1).2.2 c2).1, ?_⟩
        show mm_b _ _ _ _ _ [some (.ref 81), some (.int a1), some (.int r1), some (.int (a1 - r1))] [] (((mm_fl b0 true b2), n1, n2, p, q, ad), (mm_up (mm_up I1 92 ((I1 81 9)).toNatClampNeg (nI 0)) 93 ((I1 81 9)).toNatClampNeg (nI 0)), J1)
        show (¬ (I1 81 12) = (nI 0) → _) ∧ ((I1 81 12) = (nI 0) → _)
        refine ⟨fun c3 => ?_, fun c3 => ?_⟩
        · show mm_u _ _ _ _ _ _ [some (.ref 81), some (.int a1), some (.int r1), some (.int (a1 - r1))] [.int (I1 81 9), .ref 94] (((mm_fl b0 true b2), n1, n2, p, q, ad), (mm_up (mm_up I1 92 ((I1 81 9)).toNatClampNeg (nI 0)) 93 ((I1 81 9)).toNatClampNeg (nI 0)), J1)
          show (¬ ((nI 16) : Int32) = 0) ∧ _
          refine ⟨(by decide), ?_⟩
          show mm_b _ _ _ _ _ [some (.ref 81), some (.int a1), some (.int r1), some (.int (a1 - r1))] [.int ((r1 + (nI 1)) - (r1 + (nI 1)) / (nI 16) * (nI 16)), .int (a1 - r1), .ref 8, .int (I1 81 9), .ref 94] (((mm_fl b0 true b2), n1, n2, p, q, ad), (mm_up (mm_up I1 92 ((I1 81 9)).toNatClampNeg (nI 0)) 93 ((I1 81 9)).toNatClampNeg (nI 0)), J1)
          show vp_in ((a1 - r1) + ((r1 + (nI 1)) - (r1 + (nI 1)) / (nI 16) * (nI 16))) 320 ∧ _
          refine ⟨(((h1.2 c1).2.2 c2).2.1 c3).1, ?_⟩
          show mm_b _ _ _ _ _ [some (.ref 81), some (.int a1), some (.int r1), some (.int (a1 - r1))] [.int (I1 8 (((a1 - r1) + ((r1 + (nI 1)) - (r1 + (nI 1)) / (nI 16) * (nI 16)))).toNatClampNeg), .int (I1 81 9), .ref 94] (((mm_fl b0 true b2), n1, n2, p, q, ad), (mm_up (mm_up I1 92 ((I1 81 9)).toNatClampNeg (nI 0)) 93 ((I1 81 9)).toNatClampNeg (nI 0)), J1)
          show vp_in (I1 81 9) 320 ∧ _
          refine ⟨(((h1.2 c1).2.2 c2).2.1 c3).2.1, ?_⟩
          show mm_b _ _ _ _ _ [some (.ref 81), some (.int a1), none, none] [] (((mm_fl b0 true b2), n1, n2, p, q, ad), (mm_up (mm_up (mm_up I1 92 ((I1 81 9)).toNatClampNeg (nI 0)) 93 ((I1 81 9)).toNatClampNeg (nI 0)) 94 ((I1 81 9)).toNatClampNeg (I1 8 (((a1 - r1) + ((r1 + (nI 1)) - (r1 + (nI 1)) / (nI 16) * (nI 16)))).toNatClampNeg)), J1)
          show mm_wc d 44 [.ref 81] (((mm_fl b0 true b2), 0, 0, p, q, ad), (mm_up (mm_up (mm_up I1 92 ((I1 81 9)).toNatClampNeg (nI 0)) 93 ((I1 81 9)).toNatClampNeg (nI 0)) 94 ((I1 81 9)).toNatClampNeg (I1 8 (((a1 - r1) + ((r1 + (nI 1)) - (r1 + (nI 1)) / (nI 16) * (nI 16)))).toNatClampNeg)), J1) _
          refine mm_wcm ((((h1.2 c1).2.2 c2).2.1 c3).2.2) ?_
          rintro v τ ⟨r8, I8, J8, rfl, rfl, h8⟩
          refine mm_r1' ⟨rfl, ?_⟩
          show mm_b _ _ _ _ _ [some (.ref 81), some (.int a1), none, none] [.int r8] (((mm_fl b0 true b2), n1, n2, p, q, ad), I8, J8)
          show (r8 = (nI 0) → _) ∧ (¬ r8 = (nI 0) → _)
          refine ⟨fun c4 => ?_, fun c4 => ?_⟩
          · exact (h8.1 c4)
          · show mm_b _ _ _ _ _ [some (.ref 81), some (.int a1), none, none] [] (((mm_fl b0 true b2), n1, n2, p, q, ad), I8, J8)
            show vp_in (I8 81 9) 320 ∧ _
            refine ⟨(h8.2 c4).1, ?_⟩
            exact (h8.2 c4).2
        · show mm_b _ _ _ _ _ [some (.ref 81), some (.int a1), some (.int r1), some (.int (a1 - r1))] [.int (I1 81 9), .ref 94] (((mm_fl b0 true b2), n1, n2, p, q, ad), (mm_up (mm_up I1 92 ((I1 81 9)).toNatClampNeg (nI 0)) 93 ((I1 81 9)).toNatClampNeg (nI 0)), J1)
          show vp_in (I1 81 9) 320 ∧ _
          refine ⟨(((h1.2 c1).2.2 c2).2.2 c3).1, ?_⟩
          show mm_b _ _ _ _ _ [some (.ref 81), some (.int a1), none, none] [] (((mm_fl b0 true b2), n1, n2, p, q, ad), (mm_up (mm_up (mm_up I1 92 ((I1 81 9)).toNatClampNeg (nI 0)) 93 ((I1 81 9)).toNatClampNeg (nI 0)) 94 ((I1 81 9)).toNatClampNeg (nI 0)), J1)
          show mm_wc d 44 [.ref 81] (((mm_fl b0 true b2), 0, 0, p, q, ad), (mm_up (mm_up (mm_up I1 92 ((I1 81 9)).toNatClampNeg (nI 0)) 93 ((I1 81 9)).toNatClampNeg (nI 0)) 94 ((I1 81 9)).toNatClampNeg (nI 0)), J1) _
          refine mm_wcm ((((h1.2 c1).2.2 c2).2.2 c3).2) ?_
          rintro v τ ⟨r9, I9, J9, rfl, rfl, h9⟩
          refine mm_r1' ⟨rfl, ?_⟩
          show mm_b _ _ _ _ _ [some (.ref 81), some (.int a1), none, none] [.int r9] (((mm_fl b0 true b2), n1, n2, p, q, ad), I9, J9)
          show (r9 = (nI 0) → _) ∧ (¬ r9 = (nI 0) → _)
          refine ⟨fun c4 => ?_, fun c4 => ?_⟩
          · exact (h9.1 c4)
          · show mm_b _ _ _ _ _ [some (.ref 81), some (.int a1), none, none] [] (((mm_fl b0 true b2), n1, n2, p, q, ad), I9, J9)
            show vp_in (I9 81 9) 320 ∧ _
            refine ⟨(h9.2 c4).1, ?_⟩
            exact (h9.2 c4).2
/- 44 ThreeBreaths$Odds isNewChoice -/
theorem fx_44 {d : Nat} {b0 b2 : Bool} {n1 n2 : Nat} {p q : Bool} {ad : Nat → Nat} {I : mmI} {J : mmJ} {Q : mmQ} (h : mm_w Q (mm_wc d) bk_44 2 [some (.ref 81), some (.int (nI 0))] [] (((mm_fl b0 true b2), n1, n2, p, q, ad), I, J)) : mm_wc (d + 1) 44 [.ref 81] (((mm_fl b0 true b2), n1, n2, p, q, ad), I, J) Q := by
  refine mm_call (c := 44) rfl rfl ?_
  refine mm_go [2] 80 ?_
  exact h
theorem fx_44_2 {d : Nat} {a1 : Int32} {b0 b2 : Bool} {n1 n2 : Nat} {p q : Bool} {ad : Nat → Nat} {I : mmI} {J : mmJ} {Q : mmQ} (h : (((I 81 9) ≤ a1 → Q (some (.int (nI 1))) (((mm_fl b0 true b2), n1, n2, p, q, ad), I, J)) ∧ (¬ (I 81 9) ≤ a1 → (vp_in a1 320 ∧ (vp_in (I 81 9) 320 ∧ ((¬ (I 93 a1.toNatClampNeg) = (I 93 ((I 81 9)).toNatClampNeg) → mm_w Q (mm_wc d) bk_44 2 [some (.ref 81), some (.int (a1 + (nI 1)))] [] (((mm_fl b0 true b2), n1, n2, p, q, ad), I, J)) ∧ ((I 93 a1.toNatClampNeg) = (I 93 ((I 81 9)).toNatClampNeg) → (vp_in a1 320 ∧ (vp_in (I 81 9) 320 ∧ ((¬ (I 92 a1.toNatClampNeg) = (I 92 ((I 81 9)).toNatClampNeg) → mm_w Q (mm_wc d) bk_44 2 [some (.ref 81), some (.int (a1 + (nI 1)))] [] (((mm_fl b0 true b2), n1, n2, p, q, ad), I, J)) ∧ ((I 92 a1.toNatClampNeg) = (I 92 ((I 81 9)).toNatClampNeg) → (vp_in a1 320 ∧ (vp_in (I 81 9) 320 ∧ ((¬ (I 94 a1.toNatClampNeg) = (I 94 ((I 81 9)).toNatClampNeg) → mm_w Q (mm_wc d) bk_44 2 [some (.ref 81), some (.int (a1 + (nI 1)))] [] (((mm_fl b0 true b2), n1, n2, p, q, ad), I, J)) ∧ ((I 94 a1.toNatClampNeg) = (I 94 ((I 81 9)).toNatClampNeg) → Q (some (.int (nI 0))) (((mm_fl b0 true b2), n1, n2, p, q, ad), I, J)))))))))))))))) : mm_w Q (mm_wc (d)) bk_44 2 [some (.ref 81), some (.int a1)] [] (((mm_fl b0 true b2), n1, n2, p, q, ad), I, J) := by
  refine mm_go [2] 80 ?_
  show ((I 81 9) ≤ a1 → _) ∧ (¬ (I 81 9) ≤ a1 → _)
  refine ⟨fun c0 => ?_, fun c0 => ?_⟩
  · show mm_u _ _ _ _ _ _ [some (.ref 81), some (.int a1)] [] (((mm_fl b0 true b2), n1, n2, p, q, ad), I, J)
    show (((nI 1) : Int32) = 0 ∨ ((nI 1) : Int32) = 1) ∧ _
    refine ⟨(by decide), ?_⟩
    exact (h.1 c0)
  · show mm_b _ _ _ _ _ [some (.ref 81), some (.int a1)] [] (((mm_fl b0 true b2), n1, n2, p, q, ad), I, J)
    show vp_in a1 320 ∧ _
    refine ⟨(h.2 c0).1, ?_⟩
    show mm_b _ _ _ _ _ [some (.ref 81), some (.int a1)] [.int (I 93 a1.toNatClampNeg)] (((mm_fl b0 true b2), n1, n2, p, q, ad), I, J)
    show vp_in (I 81 9) 320 ∧ _
    refine ⟨(h.2 c0).2.1, ?_⟩
    show mm_b _ _ _ _ _ [some (.ref 81), some (.int a1)] [.int (I 93 ((I 81 9)).toNatClampNeg), .int (I 93 a1.toNatClampNeg)] (((mm_fl b0 true b2), n1, n2, p, q, ad), I, J)
    show (¬ (I 93 a1.toNatClampNeg) = (I 93 ((I 81 9)).toNatClampNeg) → _) ∧ ((I 93 a1.toNatClampNeg) = (I 93 ((I 81 9)).toNatClampNeg) → _)
    refine ⟨fun c1 => ?_, fun c1 => ?_⟩
    · exact ((h.2 c0).2.2.1 c1)
    · show mm_b _ _ _ _ _ [some (.ref 81), some (.int a1)] [] (((mm_fl b0 true b2), n1, n2, p, q, ad), I, J)
      show vp_in a1 320 ∧ _
      refine ⟨((h.2 c0).2.2.2 c1).1, ?_⟩
      show mm_b _ _ _ _ _ [some (.ref 81), some (.int a1)] [.int (I 92 a1.toNatClampNeg)] (((mm_fl b0 true b2), n1, n2, p, q, ad), I, J)
      show vp_in (I 81 9) 320 ∧ _
      refine ⟨((h.2 c0).2.2.2 c1).2.1, ?_⟩
      show mm_b _ _ _ _ _ [some (.ref 81), some (.int a1)] [.int (I 92 ((I 81 9)).toNatClampNeg), .int (I 92 a1.toNatClampNeg)] (((mm_fl b0 true b2), n1, n2, p, q, ad), I, J)
      show (¬ (I 92 a1.toNatClampNeg) = (I 92 ((I 81 9)).toNatClampNeg) → _) ∧ ((I 92 a1.toNatClampNeg) = (I 92 ((I 81 9)).toNatClampNeg) → _)
      refine ⟨fun c2 => ?_, fun c2 => ?_⟩
      · exact (((h.2 c0).2.2.2 c1).2.2.1 c2)
      · show mm_b _ _ _ _ _ [some (.ref 81), some (.int a1)] [] (((mm_fl b0 true b2), n1, n2, p, q, ad), I, J)
        show vp_in a1 320 ∧ _
        refine ⟨(((h.2 c0).2.2.2 c1).2.2.2 c2).1, ?_⟩
        show mm_b _ _ _ _ _ [some (.ref 81), some (.int a1)] [.int (I 94 a1.toNatClampNeg)] (((mm_fl b0 true b2), n1, n2, p, q, ad), I, J)
        show vp_in (I 81 9) 320 ∧ _
        refine ⟨(((h.2 c0).2.2.2 c1).2.2.2 c2).2.1, ?_⟩
        show mm_b _ _ _ _ _ [some (.ref 81), some (.int a1)] [.int (I 94 ((I 81 9)).toNatClampNeg), .int (I 94 a1.toNatClampNeg)] (((mm_fl b0 true b2), n1, n2, p, q, ad), I, J)
        show (¬ (I 94 a1.toNatClampNeg) = (I 94 ((I 81 9)).toNatClampNeg) → _) ∧ ((I 94 a1.toNatClampNeg) = (I 94 ((I 81 9)).toNatClampNeg) → _)
        refine ⟨fun c3 => ?_, fun c3 => ?_⟩
        · exact ((((h.2 c0).2.2.2 c1).2.2.2 c2).2.2.1 c3)
        · show mm_b _ _ _ _ _ [some (.ref 81), some (.int a1)] [] (((mm_fl b0 true b2), n1, n2, p, q, ad), I, J)
          show (((nI 0) : Int32) = 0 ∨ ((nI 0) : Int32) = 1) ∧ _
          refine ⟨(by decide), ?_⟩
          exact ((((h.2 c0).2.2.2 c1).2.2.2 c2).2.2.2 c3)
/- 45 ThreeBreaths$Odds total -/
theorem fx_45_n1 {d : Nat} {x0 : Int32} {b0 b2 : Bool} {n1 n2 : Nat} {p q : Bool} {ad : Nat → Nat} {I : mmI} {J : mmJ} {Q : mmQ} (h : (vp_in x0 320 ∧ (vp_in (I 92 x0.toNatClampNeg) 320 ∧ (vp_in x0 320 ∧ (vp_in (I 93 x0.toNatClampNeg) 320 ∧ (vp_in x0 320 ∧ (vp_in (I 94 x0.toNatClampNeg) 320 ∧ Q (some (.int ((((I 81 10) * (I 89 ((I 92 x0.toNatClampNeg)).toNatClampNeg)) + ((I 81 11) * (I 89 ((I 93 x0.toNatClampNeg)).toNatClampNeg))) + ((I 81 12) * (I 89 ((I 94 x0.toNatClampNeg)).toNatClampNeg))))) (((mm_fl b0 true b2), n1, n2, p, q, ad), I, J)))))))) : mm_wc (d + 1) 45 [.ref 81, .int x0, .int (nI 1)] (((mm_fl b0 true b2), n1, n2, p, q, ad), I, J) Q := by
  refine mm_call (c := 45) rfl rfl ?_
  refine mm_go [] 80 ?_
  show (vp_in (nI 0) 3) ∧ _
  refine ⟨(mm_inl (by decide)), ?_⟩
  show mm_b _ _ _ _ _ [some (.ref 81), some (.int x0), some (.int (nI 1)), none] [.ref 89] (((mm_fl b0 true b2), n1, n2, p, q, ad), I, J)
  show vp_in x0 320 ∧ _
  refine ⟨h.1, ?_⟩
  show mm_b _ _ _ _ _ [some (.ref 81), some (.int x0), some (.int (nI 1)), some (.ref 89)] [.int (I 92 x0.toNatClampNeg), .ref 89, .int (I 81 10)] (((mm_fl b0 true b2), n1, n2, p, q, ad), I, J)
  show vp_in (I 92 x0.toNatClampNeg) 320 ∧ _
  refine ⟨h.2.1, ?_⟩
  show mm_b _ _ _ _ _ [some (.ref 81), some (.int x0), some (.int (nI 1)), some (.ref 89)] [.int (I 89 ((I 92 x0.toNatClampNeg)).toNatClampNeg), .int (I 81 10)] (((mm_fl b0 true b2), n1, n2, p, q, ad), I, J)
  show vp_in x0 320 ∧ _
  refine ⟨h.2.2.1, ?_⟩
  show mm_b _ _ _ _ _ [some (.ref 81), some (.int x0), some (.int (nI 1)), some (.ref 89)] [.int (I 93 x0.toNatClampNeg), .ref 89, .int (I 81 11), .int ((I 81 10) * (I 89 ((I 92 x0.toNatClampNeg)).toNatClampNeg))] (((mm_fl b0 true b2), n1, n2, p, q, ad), I, J)
  show vp_in (I 93 x0.toNatClampNeg) 320 ∧ _
  refine ⟨h.2.2.2.1, ?_⟩
  show mm_b _ _ _ _ _ [some (.ref 81), some (.int x0), some (.int (nI 1)), some (.ref 89)] [.int (I 89 ((I 93 x0.toNatClampNeg)).toNatClampNeg), .int (I 81 11), .int ((I 81 10) * (I 89 ((I 92 x0.toNatClampNeg)).toNatClampNeg))] (((mm_fl b0 true b2), n1, n2, p, q, ad), I, J)
  show vp_in x0 320 ∧ _
  refine ⟨h.2.2.2.2.1, ?_⟩
  show mm_b _ _ _ _ _ [some (.ref 81), some (.int x0), some (.int (nI 1)), some (.ref 89)] [.int (I 94 x0.toNatClampNeg), .ref 89, .int (I 81 12), .int (((I 81 10) * (I 89 ((I 92 x0.toNatClampNeg)).toNatClampNeg)) + ((I 81 11) * (I 89 ((I 93 x0.toNatClampNeg)).toNatClampNeg)))] (((mm_fl b0 true b2), n1, n2, p, q, ad), I, J)
  show vp_in (I 94 x0.toNatClampNeg) 320 ∧ _
  refine ⟨h.2.2.2.2.2.1, ?_⟩
  exact h.2.2.2.2.2.2
/- 45 ThreeBreaths$Odds total -/
theorem fx_45_n2 {d : Nat} {x0 : Int32} {b0 b2 : Bool} {n1 n2 : Nat} {p q : Bool} {ad : Nat → Nat} {I : mmI} {J : mmJ} {Q : mmQ} (h : (vp_in x0 320 ∧ (vp_in (I 92 x0.toNatClampNeg) 320 ∧ (vp_in x0 320 ∧ (vp_in (I 93 x0.toNatClampNeg) 320 ∧ (vp_in x0 320 ∧ (vp_in (I 94 x0.toNatClampNeg) 320 ∧ Q (some (.int ((((I 81 10) * (I 90 ((I 92 x0.toNatClampNeg)).toNatClampNeg)) + ((I 81 11) * (I 90 ((I 93 x0.toNatClampNeg)).toNatClampNeg))) + ((I 81 12) * (I 90 ((I 94 x0.toNatClampNeg)).toNatClampNeg))))) (((mm_fl b0 true b2), n1, n2, p, q, ad), I, J)))))))) : mm_wc (d + 1) 45 [.ref 81, .int x0, .int (nI 2)] (((mm_fl b0 true b2), n1, n2, p, q, ad), I, J) Q := by
  refine mm_call (c := 45) rfl rfl ?_
  refine mm_go [] 80 ?_
  show (vp_in (nI 1) 3) ∧ _
  refine ⟨(mm_inl (by decide)), ?_⟩
  show mm_b _ _ _ _ _ [some (.ref 81), some (.int x0), some (.int (nI 2)), none] [.ref 90] (((mm_fl b0 true b2), n1, n2, p, q, ad), I, J)
  show vp_in x0 320 ∧ _
  refine ⟨h.1, ?_⟩
  show mm_b _ _ _ _ _ [some (.ref 81), some (.int x0), some (.int (nI 2)), some (.ref 90)] [.int (I 92 x0.toNatClampNeg), .ref 90, .int (I 81 10)] (((mm_fl b0 true b2), n1, n2, p, q, ad), I, J)
  show vp_in (I 92 x0.toNatClampNeg) 320 ∧ _
  refine ⟨h.2.1, ?_⟩
  show mm_b _ _ _ _ _ [some (.ref 81), some (.int x0), some (.int (nI 2)), some (.ref 90)] [.int (I 90 ((I 92 x0.toNatClampNeg)).toNatClampNeg), .int (I 81 10)] (((mm_fl b0 true b2), n1, n2, p, q, ad), I, J)
  show vp_in x0 320 ∧ _
  refine ⟨h.2.2.1, ?_⟩
  show mm_b _ _ _ _ _ [some (.ref 81), some (.int x0), some (.int (nI 2)), some (.ref 90)] [.int (I 93 x0.toNatClampNeg), .ref 90, .int (I 81 11), .int ((I 81 10) * (I 90 ((I 92 x0.toNatClampNeg)).toNatClampNeg))] (((mm_fl b0 true b2), n1, n2, p, q, ad), I, J)
  show vp_in (I 93 x0.toNatClampNeg) 320 ∧ _
  refine ⟨h.2.2.2.1, ?_⟩
  show mm_b _ _ _ _ _ [some (.ref 81), some (.int x0), some (.int (nI 2)), some (.ref 90)] [.int (I 90 ((I 93 x0.toNatClampNeg)).toNatClampNeg), .int (I 81 11), .int ((I 81 10) * (I 90 ((I 92 x0.toNatClampNeg)).toNatClampNeg))] (((mm_fl b0 true b2), n1, n2, p, q, ad), I, J)
  show vp_in x0 320 ∧ _
  refine ⟨h.2.2.2.2.1, ?_⟩
  show mm_b _ _ _ _ _ [some (.ref 81), some (.int x0), some (.int (nI 2)), some (.ref 90)] [.int (I 94 x0.toNatClampNeg), .ref 90, .int (I 81 12), .int (((I 81 10) * (I 90 ((I 92 x0.toNatClampNeg)).toNatClampNeg)) + ((I 81 11) * (I 90 ((I 93 x0.toNatClampNeg)).toNatClampNeg)))] (((mm_fl b0 true b2), n1, n2, p, q, ad), I, J)
  show vp_in (I 94 x0.toNatClampNeg) 320 ∧ _
  refine ⟨h.2.2.2.2.2.1, ?_⟩
  exact h.2.2.2.2.2.2
/- 45 ThreeBreaths$Odds total -/
theorem fx_45_n3 {d : Nat} {x0 : Int32} {b0 b2 : Bool} {n1 n2 : Nat} {p q : Bool} {ad : Nat → Nat} {I : mmI} {J : mmJ} {Q : mmQ} (h : (vp_in x0 320 ∧ (vp_in (I 92 x0.toNatClampNeg) 320 ∧ (vp_in x0 320 ∧ (vp_in (I 93 x0.toNatClampNeg) 320 ∧ (vp_in x0 320 ∧ (vp_in (I 94 x0.toNatClampNeg) 320 ∧ Q (some (.int ((((I 81 10) * (I 91 ((I 92 x0.toNatClampNeg)).toNatClampNeg)) + ((I 81 11) * (I 91 ((I 93 x0.toNatClampNeg)).toNatClampNeg))) + ((I 81 12) * (I 91 ((I 94 x0.toNatClampNeg)).toNatClampNeg))))) (((mm_fl b0 true b2), n1, n2, p, q, ad), I, J)))))))) : mm_wc (d + 1) 45 [.ref 81, .int x0, .int (nI 3)] (((mm_fl b0 true b2), n1, n2, p, q, ad), I, J) Q := by
  refine mm_call (c := 45) rfl rfl ?_
  refine mm_go [] 80 ?_
  show (vp_in (nI 2) 3) ∧ _
  refine ⟨(mm_inl (by decide)), ?_⟩
  show mm_b _ _ _ _ _ [some (.ref 81), some (.int x0), some (.int (nI 3)), none] [.ref 91] (((mm_fl b0 true b2), n1, n2, p, q, ad), I, J)
  show vp_in x0 320 ∧ _
  refine ⟨h.1, ?_⟩
  show mm_b _ _ _ _ _ [some (.ref 81), some (.int x0), some (.int (nI 3)), some (.ref 91)] [.int (I 92 x0.toNatClampNeg), .ref 91, .int (I 81 10)] (((mm_fl b0 true b2), n1, n2, p, q, ad), I, J)
  show vp_in (I 92 x0.toNatClampNeg) 320 ∧ _
  refine ⟨h.2.1, ?_⟩
  show mm_b _ _ _ _ _ [some (.ref 81), some (.int x0), some (.int (nI 3)), some (.ref 91)] [.int (I 91 ((I 92 x0.toNatClampNeg)).toNatClampNeg), .int (I 81 10)] (((mm_fl b0 true b2), n1, n2, p, q, ad), I, J)
  show vp_in x0 320 ∧ _
  refine ⟨h.2.2.1, ?_⟩
  show mm_b _ _ _ _ _ [some (.ref 81), some (.int x0), some (.int (nI 3)), some (.ref 91)] [.int (I 93 x0.toNatClampNeg), .ref 91, .int (I 81 11), .int ((I 81 10) * (I 91 ((I 92 x0.toNatClampNeg)).toNatClampNeg))] (((mm_fl b0 true b2), n1, n2, p, q, ad), I, J)
  show vp_in (I 93 x0.toNatClampNeg) 320 ∧ _
  refine ⟨h.2.2.2.1, ?_⟩
  show mm_b _ _ _ _ _ [some (.ref 81), some (.int x0), some (.int (nI 3)), some (.ref 91)] [.int (I 91 ((I 93 x0.toNatClampNeg)).toNatClampNeg), .int (I 81 11), .int ((I 81 10) * (I 91 ((I 92 x0.toNatClampNeg)).toNatClampNeg))] (((mm_fl b0 true b2), n1, n2, p, q, ad), I, J)
  show vp_in x0 320 ∧ _
  refine ⟨h.2.2.2.2.1, ?_⟩
  show mm_b _ _ _ _ _ [some (.ref 81), some (.int x0), some (.int (nI 3)), some (.ref 91)] [.int (I 94 x0.toNatClampNeg), .ref 91, .int (I 81 12), .int (((I 81 10) * (I 91 ((I 92 x0.toNatClampNeg)).toNatClampNeg)) + ((I 81 11) * (I 91 ((I 93 x0.toNatClampNeg)).toNatClampNeg)))] (((mm_fl b0 true b2), n1, n2, p, q, ad), I, J)
  show vp_in (I 94 x0.toNatClampNeg) 320 ∧ _
  refine ⟨h.2.2.2.2.2.1, ?_⟩
  exact h.2.2.2.2.2.2
/- 46 ThreeBreaths$Odds likelinessOf -/
theorem fx_46_n0 {d : Nat} {x0 : Int32} {b0 b2 : Bool} {n1 n2 : Nat} {p q : Bool} {ad : Nat → Nat} {I : mmI} {J : mmJ} {Q : mmQ} (h : ((¬ x0 = (nI 0) → Q (some (.int (nI 0))) (((mm_fl b0 true b2), n1, n2, p, q, ad), I, J)) ∧ (x0 = (nI 0) → mm_wc d 281 [.ref 81, .int (nI 0)] (((mm_fl b0 true b2), 0, 0, p, q, ad), I, J) (fun v τ => ∃ r1 I1 J1, v = some (.int r1) ∧ τ = (((mm_fl b0 true b2), 0, 0, p, q, ad), I1, J1) ∧ Q (some (.int r1)) (((mm_fl b0 true b2), n1, n2, p, q, ad), I1, J1))))) : mm_wc (d + 1) 46 [.ref 81, .int x0, .int (nI 0)] (((mm_fl b0 true b2), n1, n2, p, q, ad), I, J) Q := by
  refine mm_call (c := 46) rfl rfl ?_
  refine mm_go [62] 80 ?_
  show (¬ x0 = (nI 0) → _) ∧ (x0 = (nI 0) → _)
  refine ⟨fun c0 => ?_, fun c0 => ?_⟩
  · show mm_u _ _ _ _ _ _ [some (.ref 81), some (.int x0), some (.int (nI 0)), none, none] [] (((mm_fl b0 true b2), n1, n2, p, q, ad), I, J)
    show (((nI 0) : Int32) ≤ (nI 0) → _) ∧ (¬ ((nI 0) : Int32) ≤ (nI 0) → _)
    refine ⟨fun _ => ?_, fun q => absurd q (by decide)⟩
    exact (h.1 c0)
  · show mm_b _ _ _ _ _ [some (.ref 81), some (.int x0), some (.int (nI 0)), none, none] [] (((mm_fl b0 true b2), n1, n2, p, q, ad), I, J)
    show mm_wc d 281 [.ref 81, .int (nI 0)] (((mm_fl b0 true b2), 0, 0, p, q, ad), I, J) _
    refine mm_wcm (h.2 c0) ?_
    rintro v τ ⟨r1, I1, J1, rfl, rfl, h1⟩
    refine mm_r1' ⟨rfl, ?_⟩
    exact h1
/- 46 ThreeBreaths$Odds likelinessOf -/
theorem fx_46_n1 {d : Nat} {x0 : Int32} {b0 b2 : Bool} {n1 n2 : Nat} {p q : Bool} {ad : Nat → Nat} {I : mmI} {J : mmJ} {Q : mmQ} (h : ((¬ x0 = (nI 0) → (vp_in x0 8192 ∧ (((I 83 x0.toNatClampNeg) = (-1) → mm_wc d 47 [.ref 81, .int x0, .int (nI 1)] (((mm_fl b0 true b2), 0, 0, p, q, ad), I, J) (fun v τ => ∃ I1 J1, v = none ∧ τ = (((mm_fl b0 true b2), 0, 0, p, q, ad), I1, J1) ∧ mm_w Q (mm_wc d) bk_46 62 [some (.ref 81), some (.int x0), some (.int (nI 1)), some (.int (nI 0)), some (.int (nI 0))] [] (((mm_fl b0 true b2), n1, n2, p, q, ad), I1, J1))) ∧ (¬ (I 83 x0.toNatClampNeg) = (-1) → (vp_in x0 8192 ∧ Q (some (.int (I 83 x0.toNatClampNeg))) (((mm_fl b0 true b2), n1, n2, p, q, ad), I, J)))))) ∧ (x0 = (nI 0) → mm_wc d 281 [.ref 81, .int (nI 1)] (((mm_fl b0 true b2), 0, 0, p, q, ad), I, J) (fun v τ => ∃ r2 I2 J2, v = some (.int r2) ∧ τ = (((mm_fl b0 true b2), 0, 0, p, q, ad), I2, J2) ∧ Q (some (.int r2)) (((mm_fl b0 true b2), n1, n2, p, q, ad), I2, J2))))) : mm_wc (d + 1) 46 [.ref 81, .int x0, .int (nI 1)] (((mm_fl b0 true b2), n1, n2, p, q, ad), I, J) Q := by
  refine mm_call (c := 46) rfl rfl ?_
  refine mm_go [62] 80 ?_
  show (¬ x0 = (nI 0) → _) ∧ (x0 = (nI 0) → _)
  refine ⟨fun c0 => ?_, fun c0 => ?_⟩
  · show mm_u _ _ _ _ _ _ [some (.ref 81), some (.int x0), some (.int (nI 1)), none, none] [] (((mm_fl b0 true b2), n1, n2, p, q, ad), I, J)
    show (((nI 1) : Int32) ≤ (nI 0) → _) ∧ (¬ ((nI 1) : Int32) ≤ (nI 0) → _)
    refine ⟨fun q => absurd q (by decide), fun _ => ?_⟩
    show mm_b _ _ _ _ _ [some (.ref 81), some (.int x0), some (.int (nI 1)), none, none] [] (((mm_fl b0 true b2), n1, n2, p, q, ad), I, J)
    show (((nI 1) : Int32) ≤ (nI 3) → _) ∧ (¬ ((nI 1) : Int32) ≤ (nI 3) → _)
    refine ⟨fun _ => ?_, fun q => absurd q (by decide)⟩
    show mm_u _ _ _ _ _ _ [some (.ref 81), some (.int x0), some (.int (nI 1)), none, none] [] (((mm_fl b0 true b2), n1, n2, p, q, ad), I, J)
    show (((nI 2) : Int32) < (nI 1) → _) ∧ (¬ ((nI 2) : Int32) < (nI 1) → _)
    refine ⟨fun q => absurd q (by decide), fun _ => ?_⟩
    show mm_b _ _ _ _ _ [some (.ref 81), some (.int x0), some (.int (nI 1)), none, none] [] (((mm_fl b0 true b2), n1, n2, p, q, ad), I, J)
    show (vp_in (nI 0) 2) ∧ _
    refine ⟨(mm_inl (by decide)), ?_⟩
    show mm_b _ _ _ _ _ [some (.ref 81), some (.int x0), some (.int (nI 1)), none, none] [.ref 83] (((mm_fl b0 true b2), n1, n2, p, q, ad), I, J)
    show vp_in x0 8192 ∧ _
    refine ⟨(h.1 c0).1, ?_⟩
    show mm_b _ _ _ _ _ [some (.ref 81), some (.int x0), some (.int (nI 1)), none, none] [.int (I 83 x0.toNatClampNeg)] (((mm_fl b0 true b2), n1, n2, p, q, ad), I, J)
    show ((I 83 x0.toNatClampNeg) = (-1) → _) ∧ (¬ (I 83 x0.toNatClampNeg) = (-1) → _)
    refine ⟨fun c1 => ?_, fun c1 => ?_⟩
    · show mm_u _ _ _ _ _ _ [some (.ref 81), some (.int x0), some (.int (nI 1)), none, none] [] (((mm_fl b0 true b2), n1, n2, p, q, ad), I, J)
      show mm_wc d 47 [.ref 81, .int x0, .int (nI 1)] (((mm_fl b0 true b2), 0, 0, p, q, ad), I, J) _
      refine mm_wcm ((h.1 c0).2.1 c1) ?_
      rintro v τ ⟨I1, J1, rfl, rfl, h1⟩
      refine mm_r0' ⟨rfl, ?_⟩
      exact h1
    · show mm_b _ _ _ _ _ [some (.ref 81), some (.int x0), some (.int (nI 1)), none, none] [] (((mm_fl b0 true b2), n1, n2, p, q, ad), I, J)
      show (vp_in (nI 0) 2) ∧ _
      refine ⟨(mm_inl (by decide)), ?_⟩
      show mm_b _ _ _ _ _ [some (.ref 81), some (.int x0), some (.int (nI 1)), none, none] [.ref 83] (((mm_fl b0 true b2), n1, n2, p, q, ad), I, J)
      show vp_in x0 8192 ∧ _
      refine ⟨((h.1 c0).2.2 c1).1, ?_⟩
      exact ((h.1 c0).2.2 c1).2
  · show mm_b _ _ _ _ _ [some (.ref 81), some (.int x0), some (.int (nI 1)), none, none] [] (((mm_fl b0 true b2), n1, n2, p, q, ad), I, J)
    show mm_wc d 281 [.ref 81, .int (nI 1)] (((mm_fl b0 true b2), 0, 0, p, q, ad), I, J) _
    refine mm_wcm (h.2 c0) ?_
    rintro v τ ⟨r2, I2, J2, rfl, rfl, h2⟩
    refine mm_r1' ⟨rfl, ?_⟩
    exact h2
theorem fx_46_n1_62 {d : Nat} {a1 : Int32} {a3 : Int32} {a4 : Int32} {b0 b2 : Bool} {n1 n2 : Nat} {p q : Bool} {ad : Nat → Nat} {I : mmI} {J : mmJ} {Q : mmQ} (h : (((I 81 9) ≤ a4 → (vp_in a1 8192 ∧ Q (some (.int a3)) (((mm_fl b0 true b2), n1, n2, p, q, ad), (mm_up I 83 a1.toNatClampNeg a3), J))) ∧ (¬ (I 81 9) ≤ a4 → mm_wc d 45 [.ref 81, .int a4, .int (nI 1)] (((mm_fl b0 true b2), 0, 0, p, q, ad), I, J) (fun v τ => ∃ r1 I1 J1, v = some (.int r1) ∧ τ = (((mm_fl b0 true b2), 0, 0, p, q, ad), I1, J1) ∧ mm_wc d 1001 [.int a3, .int r1] (((mm_fl b0 true b2), 0, 0, p, q, ad), I1, J1) (fun v τ => ∃ r2 I2 J2, v = some (.int r2) ∧ τ = (((mm_fl b0 true b2), 0, 0, p, q, ad), I2, J2) ∧ mm_w Q (mm_wc d) bk_46 62 [some (.ref 81), some (.int a1), some (.int (nI 1)), some (.int r2), some (.int (a4 + (nI 1)))] [] (((mm_fl b0 true b2), n1, n2, p, q, ad), I2, J2)))))) : mm_w Q (mm_wc (d)) bk_46 62 [some (.ref 81), some (.int a1), some (.int (nI 1)), some (.int a3), some (.int a4)] [] (((mm_fl b0 true b2), n1, n2, p, q, ad), I, J) := by
  refine mm_go [62] 80 ?_
  show ((I 81 9) ≤ a4 → _) ∧ (¬ (I 81 9) ≤ a4 → _)
  refine ⟨fun c0 => ?_, fun c0 => ?_⟩
  · show mm_u _ _ _ _ _ _ [some (.ref 81), some (.int a1), some (.int (nI 1)), some (.int a3), some (.int a4)] [] (((mm_fl b0 true b2), n1, n2, p, q, ad), I, J)
    show (((nI 2) : Int32) < (nI 1) → _) ∧ (¬ ((nI 2) : Int32) < (nI 1) → _)
    refine ⟨fun q => absurd q (by decide), fun _ => ?_⟩
    show mm_b _ _ _ _ _ [some (.ref 81), some (.int a1), some (.int (nI 1)), some (.int a3), none] [] (((mm_fl b0 true b2), n1, n2, p, q, ad), I, J)
    show (vp_in (nI 0) 2) ∧ _
    refine ⟨(mm_inl (by decide)), ?_⟩
    show mm_b _ _ _ _ _ [some (.ref 81), some (.int a1), some (.int (nI 1)), some (.int a3), none] [.ref 83] (((mm_fl b0 true b2), n1, n2, p, q, ad), I, J)
    show vp_in a1 8192 ∧ _
    refine ⟨(h.1 c0).1, ?_⟩
    exact (h.1 c0).2
  · show mm_b _ _ _ _ _ [some (.ref 81), some (.int a1), some (.int (nI 1)), some (.int a3), some (.int a4)] [] (((mm_fl b0 true b2), n1, n2, p, q, ad), I, J)
    show mm_wc d 45 [.ref 81, .int a4, .int (nI 1)] (((mm_fl b0 true b2), 0, 0, p, q, ad), I, J) _
    refine mm_wcm (h.2 c0) ?_
    rintro v τ ⟨r1, I1, J1, rfl, rfl, h1⟩
    refine mm_r1' ⟨rfl, ?_⟩
    show mm_b _ _ _ _ _ [some (.ref 81), some (.int a1), some (.int (nI 1)), some (.int a3), some (.int a4)] [.int r1, .int a3] (((mm_fl b0 true b2), n1, n2, p, q, ad), I1, J1)
    show mm_wc d 1001 [.int a3, .int r1] (((mm_fl b0 true b2), 0, 0, p, q, ad), I1, J1) _
    refine mm_wcm h1 ?_
    rintro v τ ⟨r2, I2, J2, rfl, rfl, h2⟩
    refine mm_r1' ⟨rfl, ?_⟩
    exact h2
/- 46 ThreeBreaths$Odds likelinessOf -/
theorem fx_46_n2 {d : Nat} {x0 : Int32} {b0 b2 : Bool} {n1 n2 : Nat} {p q : Bool} {ad : Nat → Nat} {I : mmI} {J : mmJ} {Q : mmQ} (h : ((¬ x0 = (nI 0) → (vp_in x0 8192 ∧ (((I 84 x0.toNatClampNeg) = (-1) → mm_wc d 47 [.ref 81, .int x0, .int (nI 2)] (((mm_fl b0 true b2), 0, 0, p, q, ad), I, J) (fun v τ => ∃ I1 J1, v = none ∧ τ = (((mm_fl b0 true b2), 0, 0, p, q, ad), I1, J1) ∧ mm_w Q (mm_wc d) bk_46 62 [some (.ref 81), some (.int x0), some (.int (nI 2)), some (.int (nI 0)), some (.int (nI 0))] [] (((mm_fl b0 true b2), n1, n2, p, q, ad), I1, J1))) ∧ (¬ (I 84 x0.toNatClampNeg) = (-1) → (vp_in x0 8192 ∧ Q (some (.int (I 84 x0.toNatClampNeg))) (((mm_fl b0 true b2), n1, n2, p, q, ad), I, J)))))) ∧ (x0 = (nI 0) → mm_wc d 281 [.ref 81, .int (nI 2)] (((mm_fl b0 true b2), 0, 0, p, q, ad), I, J) (fun v τ => ∃ r2 I2 J2, v = some (.int r2) ∧ τ = (((mm_fl b0 true b2), 0, 0, p, q, ad), I2, J2) ∧ Q (some (.int r2)) (((mm_fl b0 true b2), n1, n2, p, q, ad), I2, J2))))) : mm_wc (d + 1) 46 [.ref 81, .int x0, .int (nI 2)] (((mm_fl b0 true b2), n1, n2, p, q, ad), I, J) Q := by
  refine mm_call (c := 46) rfl rfl ?_
  refine mm_go [62] 80 ?_
  show (¬ x0 = (nI 0) → _) ∧ (x0 = (nI 0) → _)
  refine ⟨fun c0 => ?_, fun c0 => ?_⟩
  · show mm_u _ _ _ _ _ _ [some (.ref 81), some (.int x0), some (.int (nI 2)), none, none] [] (((mm_fl b0 true b2), n1, n2, p, q, ad), I, J)
    show (((nI 2) : Int32) ≤ (nI 0) → _) ∧ (¬ ((nI 2) : Int32) ≤ (nI 0) → _)
    refine ⟨fun q => absurd q (by decide), fun _ => ?_⟩
    show mm_b _ _ _ _ _ [some (.ref 81), some (.int x0), some (.int (nI 2)), none, none] [] (((mm_fl b0 true b2), n1, n2, p, q, ad), I, J)
    show (((nI 2) : Int32) ≤ (nI 3) → _) ∧ (¬ ((nI 2) : Int32) ≤ (nI 3) → _)
    refine ⟨fun _ => ?_, fun q => absurd q (by decide)⟩
    show mm_u _ _ _ _ _ _ [some (.ref 81), some (.int x0), some (.int (nI 2)), none, none] [] (((mm_fl b0 true b2), n1, n2, p, q, ad), I, J)
    show (((nI 2) : Int32) < (nI 2) → _) ∧ (¬ ((nI 2) : Int32) < (nI 2) → _)
    refine ⟨fun q => absurd q (by decide), fun _ => ?_⟩
    show mm_b _ _ _ _ _ [some (.ref 81), some (.int x0), some (.int (nI 2)), none, none] [] (((mm_fl b0 true b2), n1, n2, p, q, ad), I, J)
    show (vp_in (nI 1) 2) ∧ _
    refine ⟨(mm_inl (by decide)), ?_⟩
    show mm_b _ _ _ _ _ [some (.ref 81), some (.int x0), some (.int (nI 2)), none, none] [.ref 84] (((mm_fl b0 true b2), n1, n2, p, q, ad), I, J)
    show vp_in x0 8192 ∧ _
    refine ⟨(h.1 c0).1, ?_⟩
    show mm_b _ _ _ _ _ [some (.ref 81), some (.int x0), some (.int (nI 2)), none, none] [.int (I 84 x0.toNatClampNeg)] (((mm_fl b0 true b2), n1, n2, p, q, ad), I, J)
    show ((I 84 x0.toNatClampNeg) = (-1) → _) ∧ (¬ (I 84 x0.toNatClampNeg) = (-1) → _)
    refine ⟨fun c1 => ?_, fun c1 => ?_⟩
    · show mm_u _ _ _ _ _ _ [some (.ref 81), some (.int x0), some (.int (nI 2)), none, none] [] (((mm_fl b0 true b2), n1, n2, p, q, ad), I, J)
      show mm_wc d 47 [.ref 81, .int x0, .int (nI 2)] (((mm_fl b0 true b2), 0, 0, p, q, ad), I, J) _
      refine mm_wcm ((h.1 c0).2.1 c1) ?_
      rintro v τ ⟨I1, J1, rfl, rfl, h1⟩
      refine mm_r0' ⟨rfl, ?_⟩
      exact h1
    · show mm_b _ _ _ _ _ [some (.ref 81), some (.int x0), some (.int (nI 2)), none, none] [] (((mm_fl b0 true b2), n1, n2, p, q, ad), I, J)
      show (vp_in (nI 1) 2) ∧ _
      refine ⟨(mm_inl (by decide)), ?_⟩
      show mm_b _ _ _ _ _ [some (.ref 81), some (.int x0), some (.int (nI 2)), none, none] [.ref 84] (((mm_fl b0 true b2), n1, n2, p, q, ad), I, J)
      show vp_in x0 8192 ∧ _
      refine ⟨((h.1 c0).2.2 c1).1, ?_⟩
      exact ((h.1 c0).2.2 c1).2
  · show mm_b _ _ _ _ _ [some (.ref 81), some (.int x0), some (.int (nI 2)), none, none] [] (((mm_fl b0 true b2), n1, n2, p, q, ad), I, J)
    show mm_wc d 281 [.ref 81, .int (nI 2)] (((mm_fl b0 true b2), 0, 0, p, q, ad), I, J) _
    refine mm_wcm (h.2 c0) ?_
    rintro v τ ⟨r2, I2, J2, rfl, rfl, h2⟩
    refine mm_r1' ⟨rfl, ?_⟩
    exact h2
theorem fx_46_n2_62 {d : Nat} {a1 : Int32} {a3 : Int32} {a4 : Int32} {b0 b2 : Bool} {n1 n2 : Nat} {p q : Bool} {ad : Nat → Nat} {I : mmI} {J : mmJ} {Q : mmQ} (h : (((I 81 9) ≤ a4 → (vp_in a1 8192 ∧ Q (some (.int a3)) (((mm_fl b0 true b2), n1, n2, p, q, ad), (mm_up I 84 a1.toNatClampNeg a3), J))) ∧ (¬ (I 81 9) ≤ a4 → mm_wc d 45 [.ref 81, .int a4, .int (nI 2)] (((mm_fl b0 true b2), 0, 0, p, q, ad), I, J) (fun v τ => ∃ r1 I1 J1, v = some (.int r1) ∧ τ = (((mm_fl b0 true b2), 0, 0, p, q, ad), I1, J1) ∧ mm_wc d 1001 [.int a3, .int r1] (((mm_fl b0 true b2), 0, 0, p, q, ad), I1, J1) (fun v τ => ∃ r2 I2 J2, v = some (.int r2) ∧ τ = (((mm_fl b0 true b2), 0, 0, p, q, ad), I2, J2) ∧ mm_w Q (mm_wc d) bk_46 62 [some (.ref 81), some (.int a1), some (.int (nI 2)), some (.int r2), some (.int (a4 + (nI 1)))] [] (((mm_fl b0 true b2), n1, n2, p, q, ad), I2, J2)))))) : mm_w Q (mm_wc (d)) bk_46 62 [some (.ref 81), some (.int a1), some (.int (nI 2)), some (.int a3), some (.int a4)] [] (((mm_fl b0 true b2), n1, n2, p, q, ad), I, J) := by
  refine mm_go [62] 80 ?_
  show ((I 81 9) ≤ a4 → _) ∧ (¬ (I 81 9) ≤ a4 → _)
  refine ⟨fun c0 => ?_, fun c0 => ?_⟩
  · show mm_u _ _ _ _ _ _ [some (.ref 81), some (.int a1), some (.int (nI 2)), some (.int a3), some (.int a4)] [] (((mm_fl b0 true b2), n1, n2, p, q, ad), I, J)
    show (((nI 2) : Int32) < (nI 2) → _) ∧ (¬ ((nI 2) : Int32) < (nI 2) → _)
    refine ⟨fun q => absurd q (by decide), fun _ => ?_⟩
    show mm_b _ _ _ _ _ [some (.ref 81), some (.int a1), some (.int (nI 2)), some (.int a3), none] [] (((mm_fl b0 true b2), n1, n2, p, q, ad), I, J)
    show (vp_in (nI 1) 2) ∧ _
    refine ⟨(mm_inl (by decide)), ?_⟩
    show mm_b _ _ _ _ _ [some (.ref 81), some (.int a1), some (.int (nI 2)), some (.int a3), none] [.ref 84] (((mm_fl b0 true b2), n1, n2, p, q, ad), I, J)
    show vp_in a1 8192 ∧ _
    refine ⟨(h.1 c0).1, ?_⟩
    exact (h.1 c0).2
  · show mm_b _ _ _ _ _ [some (.ref 81), some (.int a1), some (.int (nI 2)), some (.int a3), some (.int a4)] [] (((mm_fl b0 true b2), n1, n2, p, q, ad), I, J)
    show mm_wc d 45 [.ref 81, .int a4, .int (nI 2)] (((mm_fl b0 true b2), 0, 0, p, q, ad), I, J) _
    refine mm_wcm (h.2 c0) ?_
    rintro v τ ⟨r1, I1, J1, rfl, rfl, h1⟩
    refine mm_r1' ⟨rfl, ?_⟩
    show mm_b _ _ _ _ _ [some (.ref 81), some (.int a1), some (.int (nI 2)), some (.int a3), some (.int a4)] [.int r1, .int a3] (((mm_fl b0 true b2), n1, n2, p, q, ad), I1, J1)
    show mm_wc d 1001 [.int a3, .int r1] (((mm_fl b0 true b2), 0, 0, p, q, ad), I1, J1) _
    refine mm_wcm h1 ?_
    rintro v τ ⟨r2, I2, J2, rfl, rfl, h2⟩
    refine mm_r1' ⟨rfl, ?_⟩
    exact h2
/- 46 ThreeBreaths$Odds likelinessOf -/
theorem fx_46_n3 {d : Nat} {x0 : Int32} {b0 b2 : Bool} {n1 n2 : Nat} {p q : Bool} {ad : Nat → Nat} {I : mmI} {J : mmJ} {Q : mmQ} (h : ((¬ x0 = (nI 0) → mm_wc d 47 [.ref 81, .int x0, .int (nI 3)] (((mm_fl b0 true b2), 0, 0, p, q, ad), I, J) (fun v τ => ∃ I1 J1, v = none ∧ τ = (((mm_fl b0 true b2), 0, 0, p, q, ad), I1, J1) ∧ mm_w Q (mm_wc d) bk_46 62 [some (.ref 81), some (.int x0), some (.int (nI 3)), some (.int (nI 0)), some (.int (nI 0))] [] (((mm_fl b0 true b2), n1, n2, p, q, ad), I1, J1))) ∧ (x0 = (nI 0) → mm_wc d 281 [.ref 81, .int (nI 3)] (((mm_fl b0 true b2), 0, 0, p, q, ad), I, J) (fun v τ => ∃ r2 I2 J2, v = some (.int r2) ∧ τ = (((mm_fl b0 true b2), 0, 0, p, q, ad), I2, J2) ∧ Q (some (.int r2)) (((mm_fl b0 true b2), n1, n2, p, q, ad), I2, J2))))) : mm_wc (d + 1) 46 [.ref 81, .int x0, .int (nI 3)] (((mm_fl b0 true b2), n1, n2, p, q, ad), I, J) Q := by
  refine mm_call (c := 46) rfl rfl ?_
  refine mm_go [62] 80 ?_
  show (¬ x0 = (nI 0) → _) ∧ (x0 = (nI 0) → _)
  refine ⟨fun c0 => ?_, fun c0 => ?_⟩
  · show mm_u _ _ _ _ _ _ [some (.ref 81), some (.int x0), some (.int (nI 3)), none, none] [] (((mm_fl b0 true b2), n1, n2, p, q, ad), I, J)
    show (((nI 3) : Int32) ≤ (nI 0) → _) ∧ (¬ ((nI 3) : Int32) ≤ (nI 0) → _)
    refine ⟨fun q => absurd q (by decide), fun _ => ?_⟩
    show mm_b _ _ _ _ _ [some (.ref 81), some (.int x0), some (.int (nI 3)), none, none] [] (((mm_fl b0 true b2), n1, n2, p, q, ad), I, J)
    show (((nI 3) : Int32) ≤ (nI 3) → _) ∧ (¬ ((nI 3) : Int32) ≤ (nI 3) → _)
    refine ⟨fun _ => ?_, fun q => absurd q (by decide)⟩
    show mm_u _ _ _ _ _ _ [some (.ref 81), some (.int x0), some (.int (nI 3)), none, none] [] (((mm_fl b0 true b2), n1, n2, p, q, ad), I, J)
    show (((nI 2) : Int32) < (nI 3) → _) ∧ (¬ ((nI 2) : Int32) < (nI 3) → _)
    refine ⟨fun _ => ?_, fun q => absurd q (by decide)⟩
    show mm_u _ _ _ _ _ _ [some (.ref 81), some (.int x0), some (.int (nI 3)), none, none] [] (((mm_fl b0 true b2), n1, n2, p, q, ad), I, J)
    show mm_wc d 47 [.ref 81, .int x0, .int (nI 3)] (((mm_fl b0 true b2), 0, 0, p, q, ad), I, J) _
    refine mm_wcm (h.1 c0) ?_
    rintro v τ ⟨I1, J1, rfl, rfl, h1⟩
    refine mm_r0' ⟨rfl, ?_⟩
    exact h1
  · show mm_b _ _ _ _ _ [some (.ref 81), some (.int x0), some (.int (nI 3)), none, none] [] (((mm_fl b0 true b2), n1, n2, p, q, ad), I, J)
    show mm_wc d 281 [.ref 81, .int (nI 3)] (((mm_fl b0 true b2), 0, 0, p, q, ad), I, J) _
    refine mm_wcm (h.2 c0) ?_
    rintro v τ ⟨r2, I2, J2, rfl, rfl, h2⟩
    refine mm_r1' ⟨rfl, ?_⟩
    exact h2
theorem fx_46_n3_62 {d : Nat} {a1 : Int32} {a3 : Int32} {a4 : Int32} {b0 b2 : Bool} {n1 n2 : Nat} {p q : Bool} {ad : Nat → Nat} {I : mmI} {J : mmJ} {Q : mmQ} (h : (((I 81 9) ≤ a4 → Q (some (.int a3)) (((mm_fl b0 true b2), n1, n2, p, q, ad), I, J)) ∧ (¬ (I 81 9) ≤ a4 → mm_wc d 45 [.ref 81, .int a4, .int (nI 3)] (((mm_fl b0 true b2), 0, 0, p, q, ad), I, J) (fun v τ => ∃ r1 I1 J1, v = some (.int r1) ∧ τ = (((mm_fl b0 true b2), 0, 0, p, q, ad), I1, J1) ∧ mm_wc d 1001 [.int a3, .int r1] (((mm_fl b0 true b2), 0, 0, p, q, ad), I1, J1) (fun v τ => ∃ r2 I2 J2, v = some (.int r2) ∧ τ = (((mm_fl b0 true b2), 0, 0, p, q, ad), I2, J2) ∧ mm_w Q (mm_wc d) bk_46 62 [some (.ref 81), some (.int a1), some (.int (nI 3)), some (.int r2), some (.int (a4 + (nI 1)))] [] (((mm_fl b0 true b2), n1, n2, p, q, ad), I2, J2)))))) : mm_w Q (mm_wc (d)) bk_46 62 [some (.ref 81), some (.int a1), some (.int (nI 3)), some (.int a3), some (.int a4)] [] (((mm_fl b0 true b2), n1, n2, p, q, ad), I, J) := by
  refine mm_go [62] 80 ?_
  show ((I 81 9) ≤ a4 → _) ∧ (¬ (I 81 9) ≤ a4 → _)
  refine ⟨fun c0 => ?_, fun c0 => ?_⟩
  · show mm_u _ _ _ _ _ _ [some (.ref 81), some (.int a1), some (.int (nI 3)), some (.int a3), some (.int a4)] [] (((mm_fl b0 true b2), n1, n2, p, q, ad), I, J)
    show (((nI 2) : Int32) < (nI 3) → _) ∧ (¬ ((nI 2) : Int32) < (nI 3) → _)
    refine ⟨fun _ => ?_, fun q => absurd q (by decide)⟩
    exact (h.1 c0)
  · show mm_b _ _ _ _ _ [some (.ref 81), some (.int a1), some (.int (nI 3)), some (.int a3), some (.int a4)] [] (((mm_fl b0 true b2), n1, n2, p, q, ad), I, J)
    show mm_wc d 45 [.ref 81, .int a4, .int (nI 3)] (((mm_fl b0 true b2), 0, 0, p, q, ad), I, J) _
    refine mm_wcm (h.2 c0) ?_
    rintro v τ ⟨r1, I1, J1, rfl, rfl, h1⟩
    refine mm_r1' ⟨rfl, ?_⟩
    show mm_b _ _ _ _ _ [some (.ref 81), some (.int a1), some (.int (nI 3)), some (.int a3), some (.int a4)] [.int r1, .int a3] (((mm_fl b0 true b2), n1, n2, p, q, ad), I1, J1)
    show mm_wc d 1001 [.int a3, .int r1] (((mm_fl b0 true b2), 0, 0, p, q, ad), I1, J1) _
    refine mm_wcm h1 ?_
    rintro v τ ⟨r2, I2, J2, rfl, rfl, h2⟩
    refine mm_r1' ⟨rfl, ?_⟩
    exact h2
/- 47 ThreeBreaths$Odds weighChances -/
theorem fx_47_n1 {d : Nat} {x0 : Int32} {b0 b2 : Bool} {n1 n2 : Nat} {p q : Bool} {ad : Nat → Nat} {I : mmI} {J : mmJ} {Q : mmQ} (h : mm_w Q (mm_wc d) bk_47 2 [some (.ref 81), some (.int x0), some (.int (nI 1)), some (.int (nI 0))] [] (((mm_fl b0 true b2), n1, n2, p, q, ad), I, J)) : mm_wc (d + 1) 47 [.ref 81, .int x0, .int (nI 1)] (((mm_fl b0 true b2), n1, n2, p, q, ad), I, J) Q := by
  refine mm_call (c := 47) rfl rfl ?_
  refine mm_go [2] 80 ?_
  exact h
theorem fx_47_n1_2 {d : Nat} {a1 : Int32} {a3 : Int32} {b0 b2 : Bool} {n1 n2 : Nat} {p q : Bool} {ad : Nat → Nat} {I : mmI} {J : mmJ} {Q : mmQ} (h : (((I 6 7) ≤ a3 → Q none (((mm_fl b0 true b2), n1, n2, p, q, ad), I, J)) ∧ (¬ (I 6 7) ≤ a3 → (vp_in a3 320 ∧ mm_wc d 24 [.ref 6, .int a1, .int (I 9 a3.toNatClampNeg)] (((mm_fl b0 true b2), 0, 0, p, q, ad), I, J) (fun v τ => ∃ r1 I1 J1, v = some (.int r1) ∧ τ = (((mm_fl b0 true b2), 0, 0, p, q, ad), I1, J1) ∧ mm_wc d 46 [.ref 81, .int r1, .int (nI 0)] (((mm_fl b0 true b2), 0, 0, p, q, ad), I1, J1) (fun v τ => ∃ r2 I2 J2, v = some (.int r2) ∧ τ = (((mm_fl b0 true b2), 0, 0, p, q, ad), I2, J2) ∧ (vp_in a3 320 ∧ mm_w Q (mm_wc d) bk_47 2 [some (.ref 81), some (.int a1), some (.int (nI 1)), some (.int (a3 + (nI 1)))] [] (((mm_fl b0 true b2), n1, n2, p, q, ad), (mm_up I2 89 a3.toNatClampNeg r2), J2)))))))) : mm_w Q (mm_wc (d)) bk_47 2 [some (.ref 81), some (.int a1), some (.int (nI 1)), some (.int a3)] [] (((mm_fl b0 true b2), n1, n2, p, q, ad), I, J) := by
  refine mm_go [2] 80 ?_
  show ((I 6 7) ≤ a3 → _) ∧ (¬ (I 6 7) ≤ a3 → _)
  refine ⟨fun c0 => ?_, fun c0 => ?_⟩
  · exact (h.1 c0)
  · show mm_b _ _ _ _ _ [some (.ref 81), some (.int a1), some (.int (nI 1)), some (.int a3)] [] (((mm_fl b0 true b2), n1, n2, p, q, ad), I, J)
    show (vp_in (nI 0) 3) ∧ _
    refine ⟨(mm_inl (by decide)), ?_⟩
    show mm_b _ _ _ _ _ [some (.ref 81), some (.int a1), some (.int (nI 1)), some (.int a3)] [.ref 89] (((mm_fl b0 true b2), n1, n2, p, q, ad), I, J)
    show vp_in a3 320 ∧ _
    refine ⟨(h.2 c0).1, ?_⟩
    show mm_b _ _ _ _ _ [some (.ref 81), some (.int a1), some (.int (nI 1)), some (.int a3)] [.int (I 9 a3.toNatClampNeg), .int a1, .ref 6, .ref 81, .int a3, .ref 89] (((mm_fl b0 true b2), n1, n2, p, q, ad), I, J)
    show mm_wc d 24 [.ref 6, .int a1, .int (I 9 a3.toNatClampNeg)] (((mm_fl b0 true b2), 0, 0, p, q, ad), I, J) _
    refine mm_wcm ((h.2 c0).2) ?_
    rintro v τ ⟨r1, I1, J1, rfl, rfl, h1⟩
    refine mm_r1' ⟨rfl, ?_⟩
    show mm_b _ _ _ _ _ [some (.ref 81), some (.int a1), some (.int (nI 1)), some (.int a3)] [.int r1, .ref 81, .int a3, .ref 89] (((mm_fl b0 true b2), n1, n2, p, q, ad), I1, J1)
    show mm_wc d 46 [.ref 81, .int r1, .int (nI 0)] (((mm_fl b0 true b2), 0, 0, p, q, ad), I1, J1) _
    refine mm_wcm h1 ?_
    rintro v τ ⟨r2, I2, J2, rfl, rfl, h2⟩
    refine mm_r1' ⟨rfl, ?_⟩
    show mm_b _ _ _ _ _ [some (.ref 81), some (.int a1), some (.int (nI 1)), some (.int a3)] [.int r2, .int a3, .ref 89] (((mm_fl b0 true b2), n1, n2, p, q, ad), I2, J2)
    show vp_in a3 320 ∧ _
    refine ⟨h2.1, ?_⟩
    exact h2.2
/- 47 ThreeBreaths$Odds weighChances -/
theorem fx_47_n2 {d : Nat} {x0 : Int32} {b0 b2 : Bool} {n1 n2 : Nat} {p q : Bool} {ad : Nat → Nat} {I : mmI} {J : mmJ} {Q : mmQ} (h : mm_w Q (mm_wc d) bk_47 2 [some (.ref 81), some (.int x0), some (.int (nI 2)), some (.int (nI 0))] [] (((mm_fl b0 true b2), n1, n2, p, q, ad), I, J)) : mm_wc (d + 1) 47 [.ref 81, .int x0, .int (nI 2)] (((mm_fl b0 true b2), n1, n2, p, q, ad), I, J) Q := by
  refine mm_call (c := 47) rfl rfl ?_
  refine mm_go [2] 80 ?_
  exact h
theorem fx_47_n2_2 {d : Nat} {a1 : Int32} {a3 : Int32} {b0 b2 : Bool} {n1 n2 : Nat} {p q : Bool} {ad : Nat → Nat} {I : mmI} {J : mmJ} {Q : mmQ} (h : (((I 6 7) ≤ a3 → Q none (((mm_fl b0 true b2), n1, n2, p, q, ad), I, J)) ∧ (¬ (I 6 7) ≤ a3 → (vp_in a3 320 ∧ mm_wc d 24 [.ref 6, .int a1, .int (I 9 a3.toNatClampNeg)] (((mm_fl b0 true b2), 0, 0, p, q, ad), I, J) (fun v τ => ∃ r1 I1 J1, v = some (.int r1) ∧ τ = (((mm_fl b0 true b2), 0, 0, p, q, ad), I1, J1) ∧ mm_wc d 46 [.ref 81, .int r1, .int (nI 1)] (((mm_fl b0 true b2), 0, 0, p, q, ad), I1, J1) (fun v τ => ∃ r2 I2 J2, v = some (.int r2) ∧ τ = (((mm_fl b0 true b2), 0, 0, p, q, ad), I2, J2) ∧ (vp_in a3 320 ∧ mm_w Q (mm_wc d) bk_47 2 [some (.ref 81), some (.int a1), some (.int (nI 2)), some (.int (a3 + (nI 1)))] [] (((mm_fl b0 true b2), n1, n2, p, q, ad), (mm_up I2 90 a3.toNatClampNeg r2), J2)))))))) : mm_w Q (mm_wc (d)) bk_47 2 [some (.ref 81), some (.int a1), some (.int (nI 2)), some (.int a3)] [] (((mm_fl b0 true b2), n1, n2, p, q, ad), I, J) := by
  refine mm_go [2] 80 ?_
  show ((I 6 7) ≤ a3 → _) ∧ (¬ (I 6 7) ≤ a3 → _)
  refine ⟨fun c0 => ?_, fun c0 => ?_⟩
  · exact (h.1 c0)
  · show mm_b _ _ _ _ _ [some (.ref 81), some (.int a1), some (.int (nI 2)), some (.int a3)] [] (((mm_fl b0 true b2), n1, n2, p, q, ad), I, J)
    show (vp_in (nI 1) 3) ∧ _
    refine ⟨(mm_inl (by decide)), ?_⟩
    show mm_b _ _ _ _ _ [some (.ref 81), some (.int a1), some (.int (nI 2)), some (.int a3)] [.ref 90] (((mm_fl b0 true b2), n1, n2, p, q, ad), I, J)
    show vp_in a3 320 ∧ _
    refine ⟨(h.2 c0).1, ?_⟩
    show mm_b _ _ _ _ _ [some (.ref 81), some (.int a1), some (.int (nI 2)), some (.int a3)] [.int (I 9 a3.toNatClampNeg), .int a1, .ref 6, .ref 81, .int a3, .ref 90] (((mm_fl b0 true b2), n1, n2, p, q, ad), I, J)
    show mm_wc d 24 [.ref 6, .int a1, .int (I 9 a3.toNatClampNeg)] (((mm_fl b0 true b2), 0, 0, p, q, ad), I, J) _
    refine mm_wcm ((h.2 c0).2) ?_
    rintro v τ ⟨r1, I1, J1, rfl, rfl, h1⟩
    refine mm_r1' ⟨rfl, ?_⟩
    show mm_b _ _ _ _ _ [some (.ref 81), some (.int a1), some (.int (nI 2)), some (.int a3)] [.int r1, .ref 81, .int a3, .ref 90] (((mm_fl b0 true b2), n1, n2, p, q, ad), I1, J1)
    show mm_wc d 46 [.ref 81, .int r1, .int (nI 1)] (((mm_fl b0 true b2), 0, 0, p, q, ad), I1, J1) _
    refine mm_wcm h1 ?_
    rintro v τ ⟨r2, I2, J2, rfl, rfl, h2⟩
    refine mm_r1' ⟨rfl, ?_⟩
    show mm_b _ _ _ _ _ [some (.ref 81), some (.int a1), some (.int (nI 2)), some (.int a3)] [.int r2, .int a3, .ref 90] (((mm_fl b0 true b2), n1, n2, p, q, ad), I2, J2)
    show vp_in a3 320 ∧ _
    refine ⟨h2.1, ?_⟩
    exact h2.2
/- 47 ThreeBreaths$Odds weighChances -/
theorem fx_47_n3 {d : Nat} {x0 : Int32} {b0 b2 : Bool} {n1 n2 : Nat} {p q : Bool} {ad : Nat → Nat} {I : mmI} {J : mmJ} {Q : mmQ} (h : mm_w Q (mm_wc d) bk_47 2 [some (.ref 81), some (.int x0), some (.int (nI 3)), some (.int (nI 0))] [] (((mm_fl b0 true b2), n1, n2, p, q, ad), I, J)) : mm_wc (d + 1) 47 [.ref 81, .int x0, .int (nI 3)] (((mm_fl b0 true b2), n1, n2, p, q, ad), I, J) Q := by
  refine mm_call (c := 47) rfl rfl ?_
  refine mm_go [2] 80 ?_
  exact h
theorem fx_47_n3_2 {d : Nat} {a1 : Int32} {a3 : Int32} {b0 b2 : Bool} {n1 n2 : Nat} {p q : Bool} {ad : Nat → Nat} {I : mmI} {J : mmJ} {Q : mmQ} (h : (((I 6 7) ≤ a3 → Q none (((mm_fl b0 true b2), n1, n2, p, q, ad), I, J)) ∧ (¬ (I 6 7) ≤ a3 → (vp_in a3 320 ∧ mm_wc d 24 [.ref 6, .int a1, .int (I 9 a3.toNatClampNeg)] (((mm_fl b0 true b2), 0, 0, p, q, ad), I, J) (fun v τ => ∃ r1 I1 J1, v = some (.int r1) ∧ τ = (((mm_fl b0 true b2), 0, 0, p, q, ad), I1, J1) ∧ mm_wc d 46 [.ref 81, .int r1, .int (nI 2)] (((mm_fl b0 true b2), 0, 0, p, q, ad), I1, J1) (fun v τ => ∃ r2 I2 J2, v = some (.int r2) ∧ τ = (((mm_fl b0 true b2), 0, 0, p, q, ad), I2, J2) ∧ (vp_in a3 320 ∧ mm_w Q (mm_wc d) bk_47 2 [some (.ref 81), some (.int a1), some (.int (nI 3)), some (.int (a3 + (nI 1)))] [] (((mm_fl b0 true b2), n1, n2, p, q, ad), (mm_up I2 91 a3.toNatClampNeg r2), J2)))))))) : mm_w Q (mm_wc (d)) bk_47 2 [some (.ref 81), some (.int a1), some (.int (nI 3)), some (.int a3)] [] (((mm_fl b0 true b2), n1, n2, p, q, ad), I, J) := by
  refine mm_go [2] 80 ?_
  show ((I 6 7) ≤ a3 → _) ∧ (¬ (I 6 7) ≤ a3 → _)
  refine ⟨fun c0 => ?_, fun c0 => ?_⟩
  · exact (h.1 c0)
  · show mm_b _ _ _ _ _ [some (.ref 81), some (.int a1), some (.int (nI 3)), some (.int a3)] [] (((mm_fl b0 true b2), n1, n2, p, q, ad), I, J)
    show (vp_in (nI 2) 3) ∧ _
    refine ⟨(mm_inl (by decide)), ?_⟩
    show mm_b _ _ _ _ _ [some (.ref 81), some (.int a1), some (.int (nI 3)), some (.int a3)] [.ref 91] (((mm_fl b0 true b2), n1, n2, p, q, ad), I, J)
    show vp_in a3 320 ∧ _
    refine ⟨(h.2 c0).1, ?_⟩
    show mm_b _ _ _ _ _ [some (.ref 81), some (.int a1), some (.int (nI 3)), some (.int a3)] [.int (I 9 a3.toNatClampNeg), .int a1, .ref 6, .ref 81, .int a3, .ref 91] (((mm_fl b0 true b2), n1, n2, p, q, ad), I, J)
    show mm_wc d 24 [.ref 6, .int a1, .int (I 9 a3.toNatClampNeg)] (((mm_fl b0 true b2), 0, 0, p, q, ad), I, J) _
    refine mm_wcm ((h.2 c0).2) ?_
    rintro v τ ⟨r1, I1, J1, rfl, rfl, h1⟩
    refine mm_r1' ⟨rfl, ?_⟩
    show mm_b _ _ _ _ _ [some (.ref 81), some (.int a1), some (.int (nI 3)), some (.int a3)] [.int r1, .ref 81, .int a3, .ref 91] (((mm_fl b0 true b2), n1, n2, p, q, ad), I1, J1)
    show mm_wc d 46 [.ref 81, .int r1, .int (nI 2)] (((mm_fl b0 true b2), 0, 0, p, q, ad), I1, J1) _
    refine mm_wcm h1 ?_
    rintro v τ ⟨r2, I2, J2, rfl, rfl, h2⟩
    refine mm_r1' ⟨rfl, ?_⟩
    show mm_b _ _ _ _ _ [some (.ref 81), some (.int a1), some (.int (nI 3)), some (.int a3)] [.int r2, .int a3, .ref 91] (((mm_fl b0 true b2), n1, n2, p, q, ad), I2, J2)
    show vp_in a3 320 ∧ _
    refine ⟨h2.1, ?_⟩
    exact h2.2
/- 48 ThreeBreaths$Odds meanOf -/
theorem fx_48_n0 {d : Nat} {x0 : Int32} {b0 b2 : Bool} {n1 n2 : Nat} {p q : Bool} {ad : Nat → Nat} {I : mmI} {J : mmJ} {Q : mmQ} (h : mm_wc d 18 [.ref 6, .int x0] (((mm_fl b0 true b2), 0, 0, p, q, ad), I, J) (fun v τ => ∃ r1 I1 J1, v = some (.int r1) ∧ τ = (((mm_fl b0 true b2), 0, 0, p, q, ad), I1, J1) ∧ Q (some (.int r1)) (((mm_fl b0 true b2), n1, n2, p, q, ad), I1, J1))) : mm_wc (d + 1) 48 [.ref 81, .int x0, .int (nI 0)] (((mm_fl b0 true b2), n1, n2, p, q, ad), I, J) Q := by
  refine mm_call (c := 48) rfl rfl ?_
  refine mm_go [72] 80 ?_
  show mm_wc d 18 [.ref 6, .int x0] (((mm_fl b0 true b2), 0, 0, p, q, ad), I, J) _
  refine mm_wcm h ?_
  rintro v τ ⟨r1, I1, J1, rfl, rfl, h1⟩
  refine mm_r1' ⟨rfl, ?_⟩
  show mm_b _ _ _ _ _ [some (.ref 81), some (.int x0), some (.int (nI 0)), none, none, none] [.int r1] (((mm_fl b0 true b2), n1, n2, p, q, ad), I1, J1)
  show (((nI 0) : Int32) ≤ (nI 0) → _) ∧ (¬ ((nI 0) : Int32) ≤ (nI 0) → _)
  refine ⟨fun _ => ?_, fun q => absurd q (by decide)⟩
  exact h1
/- 48 ThreeBreaths$Odds meanOf -/
theorem fx_48_n1 {d : Nat} {x0 : Int32} {b0 b2 : Bool} {n1 n2 : Nat} {p q : Bool} {ad : Nat → Nat} {I : mmI} {J : mmJ} {Q : mmQ} (h : mm_wc d 18 [.ref 6, .int x0] (((mm_fl b0 true b2), 0, 0, p, q, ad), I, J) (fun v τ => ∃ r1 I1 J1, v = some (.int r1) ∧ τ = (((mm_fl b0 true b2), 0, 0, p, q, ad), I1, J1) ∧ ((¬ r1 = (nI 0) → (vp_in x0 8192 ∧ (((I1 86 x0.toNatClampNeg) = (-1) → mm_wc d 280 [.ref 81, .int x0, .int (nI 1)] (((mm_fl b0 true b2), 0, 0, p, q, ad), I1, J1) (fun v τ => ∃ I2 J2, v = none ∧ τ = (((mm_fl b0 true b2), 0, 0, p, q, ad), I2, J2) ∧ mm_wc d 281 [.ref 81, .int (nI 1)] (((mm_fl b0 true b2), 0, 0, p, q, ad), I2, J2) (fun v τ => ∃ r3 I3 J3, v = some (.int r3) ∧ τ = (((mm_fl b0 true b2), 0, 0, p, q, ad), I3, J3) ∧ mm_w Q (mm_wc d) bk_48 72 [some (.ref 81), some (.int x0), some (.int (nI 1)), none, some (.int (r1 * r3)), some (.int (nI 0))] [] (((mm_fl b0 true b2), n1, n2, p, q, ad), I3, J3)))) ∧ (¬ (I1 86 x0.toNatClampNeg) = (-1) → (vp_in x0 8192 ∧ Q (some (.int (I1 86 x0.toNatClampNeg))) (((mm_fl b0 true b2), n1, n2, p, q, ad), I1, J1)))))) ∧ (r1 = (nI 0) → Q (some (.int r1)) (((mm_fl b0 true b2), n1, n2, p, q, ad), I1, J1))))) : mm_wc (d + 1) 48 [.ref 81, .int x0, .int (nI 1)] (((mm_fl b0 true b2), n1, n2, p, q, ad), I, J) Q := by
  refine mm_call (c := 48) rfl rfl ?_
  refine mm_go [72] 80 ?_
  show mm_wc d 18 [.ref 6, .int x0] (((mm_fl b0 true b2), 0, 0, p, q, ad), I, J) _
  refine mm_wcm h ?_
  rintro v τ ⟨r1, I1, J1, rfl, rfl, h1⟩
  refine mm_r1' ⟨rfl, ?_⟩
  show mm_b _ _ _ _ _ [some (.ref 81), some (.int x0), some (.int (nI 1)), none, none, none] [.int r1] (((mm_fl b0 true b2), n1, n2, p, q, ad), I1, J1)
  show (((nI 1) : Int32) ≤ (nI 0) → _) ∧ (¬ ((nI 1) : Int32) ≤ (nI 0) → _)
  refine ⟨fun q => absurd q (by decide), fun _ => ?_⟩
  show mm_b _ _ _ _ _ [some (.ref 81), some (.int x0), some (.int (nI 1)), some (.int r1), none, none] [] (((mm_fl b0 true b2), n1, n2, p, q, ad), I1, J1)
  show (((nI 3) : Int32) < (nI 1) → _) ∧ (¬ ((nI 3) : Int32) < (nI 1) → _)
  refine ⟨fun q => absurd q (by decide), fun _ => ?_⟩
  show mm_b _ _ _ _ _ [some (.ref 81), some (.int x0), some (.int (nI 1)), some (.int r1), none, none] [] (((mm_fl b0 true b2), n1, n2, p, q, ad), I1, J1)
  show (¬ r1 = (nI 0) → _) ∧ (r1 = (nI 0) → _)
  refine ⟨fun c0 => ?_, fun c0 => ?_⟩
  · show mm_u _ _ _ _ _ _ [some (.ref 81), some (.int x0), some (.int (nI 1)), some (.int r1), none, none] [] (((mm_fl b0 true b2), n1, n2, p, q, ad), I1, J1)
    show (((nI 2) : Int32) < (nI 1) → _) ∧ (¬ ((nI 2) : Int32) < (nI 1) → _)
    refine ⟨fun q => absurd q (by decide), fun _ => ?_⟩
    show mm_b _ _ _ _ _ [some (.ref 81), some (.int x0), some (.int (nI 1)), some (.int r1), none, none] [] (((mm_fl b0 true b2), n1, n2, p, q, ad), I1, J1)
    show (vp_in (nI 0) 2) ∧ _
    refine ⟨(mm_inl (by decide)), ?_⟩
    show mm_b _ _ _ _ _ [some (.ref 81), some (.int x0), some (.int (nI 1)), some (.int r1), none, none] [.ref 86] (((mm_fl b0 true b2), n1, n2, p, q, ad), I1, J1)
    show vp_in x0 8192 ∧ _
    refine ⟨(h1.1 c0).1, ?_⟩
    show mm_b _ _ _ _ _ [some (.ref 81), some (.int x0), some (.int (nI 1)), some (.int r1), none, none] [.int (I1 86 x0.toNatClampNeg)] (((mm_fl b0 true b2), n1, n2, p, q, ad), I1, J1)
    show ((I1 86 x0.toNatClampNeg) = (-1) → _) ∧ (¬ (I1 86 x0.toNatClampNeg) = (-1) → _)
    refine ⟨fun c1 => ?_, fun c1 => ?_⟩
    · show mm_u _ _ _ _ _ _ [some (.ref 81), some (.int x0), some (.int (nI 1)), some (.int r1), none, none] [] (((mm_fl b0 true b2), n1, n2, p, q, ad), I1, J1)
      show mm_wc d 280 [.ref 81, .int x0, .int (nI 1)] (((mm_fl b0 true b2), 0, 0, p, q, ad), I1, J1) _
      refine mm_wcm ((h1.1 c0).2.1 c1) ?_
      rintro v τ ⟨I2, J2, rfl, rfl, h2⟩
      refine mm_r0' ⟨rfl, ?_⟩
      show mm_b _ _ _ _ _ [some (.ref 81), some (.int x0), some (.int (nI 1)), some (.int r1), none, none] [] (((mm_fl b0 true b2), n1, n2, p, q, ad), I2, J2)
      show mm_wc d 281 [.ref 81, .int (nI 1)] (((mm_fl b0 true b2), 0, 0, p, q, ad), I2, J2) _
      refine mm_wcm h2 ?_
      rintro v τ ⟨r3, I3, J3, rfl, rfl, h3⟩
      refine mm_r1' ⟨rfl, ?_⟩
      exact h3
    · show mm_b _ _ _ _ _ [some (.ref 81), some (.int x0), some (.int (nI 1)), some (.int r1), none, none] [] (((mm_fl b0 true b2), n1, n2, p, q, ad), I1, J1)
      show (vp_in (nI 0) 2) ∧ _
      refine ⟨(mm_inl (by decide)), ?_⟩
      show mm_b _ _ _ _ _ [some (.ref 81), some (.int x0), some (.int (nI 1)), some (.int r1), none, none] [.ref 86] (((mm_fl b0 true b2), n1, n2, p, q, ad), I1, J1)
      show vp_in x0 8192 ∧ _
      refine ⟨((h1.1 c0).2.2 c1).1, ?_⟩
      exact ((h1.1 c0).2.2 c1).2
  · exact (h1.2 c0)
theorem fx_48_n1_72 {d : Nat} {a1 : Int32} {a4 : Int32} {a5 : Int32} {b0 b2 : Bool} {n1 n2 : Nat} {p q : Bool} {ad : Nat → Nat} {I : mmI} {J : mmJ} {Q : mmQ} (h : (((I 81 9) ≤ a5 → (vp_in a1 8192 ∧ Q (some (.int a4)) (((mm_fl b0 true b2), n1, n2, p, q, ad), (mm_up I 86 a1.toNatClampNeg a4), J))) ∧ (¬ (I 81 9) ≤ a5 → mm_wc d 45 [.ref 81, .int a5, .int (nI 1)] (((mm_fl b0 true b2), 0, 0, p, q, ad), I, J) (fun v τ => ∃ r1 I1 J1, v = some (.int r1) ∧ τ = (((mm_fl b0 true b2), 0, 0, p, q, ad), I1, J1) ∧ mm_wc d 1002 [.int a4, .int r1] (((mm_fl b0 true b2), 0, 0, p, q, ad), I1, J1) (fun v τ => ∃ r2 I2 J2, v = some (.int r2) ∧ τ = (((mm_fl b0 true b2), 0, 0, p, q, ad), I2, J2) ∧ mm_w Q (mm_wc d) bk_48 72 [some (.ref 81), some (.int a1), some (.int (nI 1)), none, some (.int r2), some (.int (a5 + (nI 1)))] [] (((mm_fl b0 true b2), n1, n2, p, q, ad), I2, J2)))))) : mm_w Q (mm_wc (d)) bk_48 72 [some (.ref 81), some (.int a1), some (.int (nI 1)), none, some (.int a4), some (.int a5)] [] (((mm_fl b0 true b2), n1, n2, p, q, ad), I, J) := by
  refine mm_go [72] 80 ?_
  show ((I 81 9) ≤ a5 → _) ∧ (¬ (I 81 9) ≤ a5 → _)
  refine ⟨fun c0 => ?_, fun c0 => ?_⟩
  · show mm_u _ _ _ _ _ _ [some (.ref 81), some (.int a1), some (.int (nI 1)), none, some (.int a4), some (.int a5)] [] (((mm_fl b0 true b2), n1, n2, p, q, ad), I, J)
    show (((nI 2) : Int32) < (nI 1) → _) ∧ (¬ ((nI 2) : Int32) < (nI 1) → _)
    refine ⟨fun q => absurd q (by decide), fun _ => ?_⟩
    show mm_b _ _ _ _ _ [some (.ref 81), some (.int a1), some (.int (nI 1)), none, some (.int a4), none] [] (((mm_fl b0 true b2), n1, n2, p, q, ad), I, J)
    show (vp_in (nI 0) 2) ∧ _
    refine ⟨(mm_inl (by decide)), ?_⟩
    show mm_b _ _ _ _ _ [some (.ref 81), some (.int a1), some (.int (nI 1)), none, some (.int a4), none] [.ref 86] (((mm_fl b0 true b2), n1, n2, p, q, ad), I, J)
    show vp_in a1 8192 ∧ _
    refine ⟨(h.1 c0).1, ?_⟩
    exact (h.1 c0).2
  · show mm_b _ _ _ _ _ [some (.ref 81), some (.int a1), some (.int (nI 1)), none, some (.int a4), some (.int a5)] [] (((mm_fl b0 true b2), n1, n2, p, q, ad), I, J)
    show mm_wc d 45 [.ref 81, .int a5, .int (nI 1)] (((mm_fl b0 true b2), 0, 0, p, q, ad), I, J) _
    refine mm_wcm (h.2 c0) ?_
    rintro v τ ⟨r1, I1, J1, rfl, rfl, h1⟩
    refine mm_r1' ⟨rfl, ?_⟩
    show mm_b _ _ _ _ _ [some (.ref 81), some (.int a1), some (.int (nI 1)), none, some (.int a4), some (.int a5)] [.int r1, .int a4] (((mm_fl b0 true b2), n1, n2, p, q, ad), I1, J1)
    show mm_wc d 1002 [.int a4, .int r1] (((mm_fl b0 true b2), 0, 0, p, q, ad), I1, J1) _
    refine mm_wcm h1 ?_
    rintro v τ ⟨r2, I2, J2, rfl, rfl, h2⟩
    refine mm_r1' ⟨rfl, ?_⟩
    exact h2
/- 48 ThreeBreaths$Odds meanOf -/
theorem fx_48_n2 {d : Nat} {x0 : Int32} {b0 b2 : Bool} {n1 n2 : Nat} {p q : Bool} {ad : Nat → Nat} {I : mmI} {J : mmJ} {Q : mmQ} (h : mm_wc d 18 [.ref 6, .int x0] (((mm_fl b0 true b2), 0, 0, p, q, ad), I, J) (fun v τ => ∃ r1 I1 J1, v = some (.int r1) ∧ τ = (((mm_fl b0 true b2), 0, 0, p, q, ad), I1, J1) ∧ ((¬ r1 = (nI 0) → (vp_in x0 8192 ∧ (((I1 87 x0.toNatClampNeg) = (-1) → mm_wc d 280 [.ref 81, .int x0, .int (nI 2)] (((mm_fl b0 true b2), 0, 0, p, q, ad), I1, J1) (fun v τ => ∃ I2 J2, v = none ∧ τ = (((mm_fl b0 true b2), 0, 0, p, q, ad), I2, J2) ∧ mm_wc d 281 [.ref 81, .int (nI 2)] (((mm_fl b0 true b2), 0, 0, p, q, ad), I2, J2) (fun v τ => ∃ r3 I3 J3, v = some (.int r3) ∧ τ = (((mm_fl b0 true b2), 0, 0, p, q, ad), I3, J3) ∧ mm_w Q (mm_wc d) bk_48 72 [some (.ref 81), some (.int x0), some (.int (nI 2)), none, some (.int (r1 * r3)), some (.int (nI 0))] [] (((mm_fl b0 true b2), n1, n2, p, q, ad), I3, J3)))) ∧ (¬ (I1 87 x0.toNatClampNeg) = (-1) → (vp_in x0 8192 ∧ Q (some (.int (I1 87 x0.toNatClampNeg))) (((mm_fl b0 true b2), n1, n2, p, q, ad), I1, J1)))))) ∧ (r1 = (nI 0) → Q (some (.int r1)) (((mm_fl b0 true b2), n1, n2, p, q, ad), I1, J1))))) : mm_wc (d + 1) 48 [.ref 81, .int x0, .int (nI 2)] (((mm_fl b0 true b2), n1, n2, p, q, ad), I, J) Q := by
  refine mm_call (c := 48) rfl rfl ?_
  refine mm_go [72] 80 ?_
  show mm_wc d 18 [.ref 6, .int x0] (((mm_fl b0 true b2), 0, 0, p, q, ad), I, J) _
  refine mm_wcm h ?_
  rintro v τ ⟨r1, I1, J1, rfl, rfl, h1⟩
  refine mm_r1' ⟨rfl, ?_⟩
  show mm_b _ _ _ _ _ [some (.ref 81), some (.int x0), some (.int (nI 2)), none, none, none] [.int r1] (((mm_fl b0 true b2), n1, n2, p, q, ad), I1, J1)
  show (((nI 2) : Int32) ≤ (nI 0) → _) ∧ (¬ ((nI 2) : Int32) ≤ (nI 0) → _)
  refine ⟨fun q => absurd q (by decide), fun _ => ?_⟩
  show mm_b _ _ _ _ _ [some (.ref 81), some (.int x0), some (.int (nI 2)), some (.int r1), none, none] [] (((mm_fl b0 true b2), n1, n2, p, q, ad), I1, J1)
  show (((nI 3) : Int32) < (nI 2) → _) ∧ (¬ ((nI 3) : Int32) < (nI 2) → _)
  refine ⟨fun q => absurd q (by decide), fun _ => ?_⟩
  show mm_b _ _ _ _ _ [some (.ref 81), some (.int x0), some (.int (nI 2)), some (.int r1), none, none] [] (((mm_fl b0 true b2), n1, n2, p, q, ad), I1, J1)
  show (¬ r1 = (nI 0) → _) ∧ (r1 = (nI 0) → _)
  refine ⟨fun c0 => ?_, fun c0 => ?_⟩
  · show mm_u _ _ _ _ _ _ [some (.ref 81), some (.int x0), some (.int (nI 2)), some (.int r1), none, none] [] (((mm_fl b0 true b2), n1, n2, p, q, ad), I1, J1)
    show (((nI 2) : Int32) < (nI 2) → _) ∧ (¬ ((nI 2) : Int32) < (nI 2) → _)
    refine ⟨fun q => absurd q (by decide), fun _ => ?_⟩
    show mm_b _ _ _ _ _ [some (.ref 81), some (.int x0), some (.int (nI 2)), some (.int r1), none, none] [] (((mm_fl b0 true b2), n1, n2, p, q, ad), I1, J1)
    show (vp_in (nI 1) 2) ∧ _
    refine ⟨(mm_inl (by decide)), ?_⟩
    show mm_b _ _ _ _ _ [some (.ref 81), some (.int x0), some (.int (nI 2)), some (.int r1), none, none] [.ref 87] (((mm_fl b0 true b2), n1, n2, p, q, ad), I1, J1)
    show vp_in x0 8192 ∧ _
    refine ⟨(h1.1 c0).1, ?_⟩
    show mm_b _ _ _ _ _ [some (.ref 81), some (.int x0), some (.int (nI 2)), some (.int r1), none, none] [.int (I1 87 x0.toNatClampNeg)] (((mm_fl b0 true b2), n1, n2, p, q, ad), I1, J1)
    show ((I1 87 x0.toNatClampNeg) = (-1) → _) ∧ (¬ (I1 87 x0.toNatClampNeg) = (-1) → _)
    refine ⟨fun c1 => ?_, fun c1 => ?_⟩
    · show mm_u _ _ _ _ _ _ [some (.ref 81), some (.int x0), some (.int (nI 2)), some (.int r1), none, none] [] (((mm_fl b0 true b2), n1, n2, p, q, ad), I1, J1)
      show mm_wc d 280 [.ref 81, .int x0, .int (nI 2)] (((mm_fl b0 true b2), 0, 0, p, q, ad), I1, J1) _
      refine mm_wcm ((h1.1 c0).2.1 c1) ?_
      rintro v τ ⟨I2, J2, rfl, rfl, h2⟩
      refine mm_r0' ⟨rfl, ?_⟩
      show mm_b _ _ _ _ _ [some (.ref 81), some (.int x0), some (.int (nI 2)), some (.int r1), none, none] [] (((mm_fl b0 true b2), n1, n2, p, q, ad), I2, J2)
      show mm_wc d 281 [.ref 81, .int (nI 2)] (((mm_fl b0 true b2), 0, 0, p, q, ad), I2, J2) _
      refine mm_wcm h2 ?_
      rintro v τ ⟨r3, I3, J3, rfl, rfl, h3⟩
      refine mm_r1' ⟨rfl, ?_⟩
      exact h3
    · show mm_b _ _ _ _ _ [some (.ref 81), some (.int x0), some (.int (nI 2)), some (.int r1), none, none] [] (((mm_fl b0 true b2), n1, n2, p, q, ad), I1, J1)
      show (vp_in (nI 1) 2) ∧ _
      refine ⟨(mm_inl (by decide)), ?_⟩
      show mm_b _ _ _ _ _ [some (.ref 81), some (.int x0), some (.int (nI 2)), some (.int r1), none, none] [.ref 87] (((mm_fl b0 true b2), n1, n2, p, q, ad), I1, J1)
      show vp_in x0 8192 ∧ _
      refine ⟨((h1.1 c0).2.2 c1).1, ?_⟩
      exact ((h1.1 c0).2.2 c1).2
  · exact (h1.2 c0)
theorem fx_48_n2_72 {d : Nat} {a1 : Int32} {a4 : Int32} {a5 : Int32} {b0 b2 : Bool} {n1 n2 : Nat} {p q : Bool} {ad : Nat → Nat} {I : mmI} {J : mmJ} {Q : mmQ} (h : (((I 81 9) ≤ a5 → (vp_in a1 8192 ∧ Q (some (.int a4)) (((mm_fl b0 true b2), n1, n2, p, q, ad), (mm_up I 87 a1.toNatClampNeg a4), J))) ∧ (¬ (I 81 9) ≤ a5 → mm_wc d 45 [.ref 81, .int a5, .int (nI 2)] (((mm_fl b0 true b2), 0, 0, p, q, ad), I, J) (fun v τ => ∃ r1 I1 J1, v = some (.int r1) ∧ τ = (((mm_fl b0 true b2), 0, 0, p, q, ad), I1, J1) ∧ mm_wc d 1002 [.int a4, .int r1] (((mm_fl b0 true b2), 0, 0, p, q, ad), I1, J1) (fun v τ => ∃ r2 I2 J2, v = some (.int r2) ∧ τ = (((mm_fl b0 true b2), 0, 0, p, q, ad), I2, J2) ∧ mm_w Q (mm_wc d) bk_48 72 [some (.ref 81), some (.int a1), some (.int (nI 2)), none, some (.int r2), some (.int (a5 + (nI 1)))] [] (((mm_fl b0 true b2), n1, n2, p, q, ad), I2, J2)))))) : mm_w Q (mm_wc (d)) bk_48 72 [some (.ref 81), some (.int a1), some (.int (nI 2)), none, some (.int a4), some (.int a5)] [] (((mm_fl b0 true b2), n1, n2, p, q, ad), I, J) := by
  refine mm_go [72] 80 ?_
  show ((I 81 9) ≤ a5 → _) ∧ (¬ (I 81 9) ≤ a5 → _)
  refine ⟨fun c0 => ?_, fun c0 => ?_⟩
  · show mm_u _ _ _ _ _ _ [some (.ref 81), some (.int a1), some (.int (nI 2)), none, some (.int a4), some (.int a5)] [] (((mm_fl b0 true b2), n1, n2, p, q, ad), I, J)
    show (((nI 2) : Int32) < (nI 2) → _) ∧ (¬ ((nI 2) : Int32) < (nI 2) → _)
    refine ⟨fun q => absurd q (by decide), fun _ => ?_⟩
    show mm_b _ _ _ _ _ [some (.ref 81), some (.int a1), some (.int (nI 2)), none, some (.int a4), none] [] (((mm_fl b0 true b2), n1, n2, p, q, ad), I, J)
    show (vp_in (nI 1) 2) ∧ _
    refine ⟨(mm_inl (by decide)), ?_⟩
    show mm_b _ _ _ _ _ [some (.ref 81), some (.int a1), some (.int (nI 2)), none, some (.int a4), none] [.ref 87] (((mm_fl b0 true b2), n1, n2, p, q, ad), I, J)
    show vp_in a1 8192 ∧ _
    refine ⟨(h.1 c0).1, ?_⟩
    exact (h.1 c0).2
  · show mm_b _ _ _ _ _ [some (.ref 81), some (.int a1), some (.int (nI 2)), none, some (.int a4), some (.int a5)] [] (((mm_fl b0 true b2), n1, n2, p, q, ad), I, J)
    show mm_wc d 45 [.ref 81, .int a5, .int (nI 2)] (((mm_fl b0 true b2), 0, 0, p, q, ad), I, J) _
    refine mm_wcm (h.2 c0) ?_
    rintro v τ ⟨r1, I1, J1, rfl, rfl, h1⟩
    refine mm_r1' ⟨rfl, ?_⟩
    show mm_b _ _ _ _ _ [some (.ref 81), some (.int a1), some (.int (nI 2)), none, some (.int a4), some (.int a5)] [.int r1, .int a4] (((mm_fl b0 true b2), n1, n2, p, q, ad), I1, J1)
    show mm_wc d 1002 [.int a4, .int r1] (((mm_fl b0 true b2), 0, 0, p, q, ad), I1, J1) _
    refine mm_wcm h1 ?_
    rintro v τ ⟨r2, I2, J2, rfl, rfl, h2⟩
    refine mm_r1' ⟨rfl, ?_⟩
    exact h2
/- 48 ThreeBreaths$Odds meanOf -/
theorem fx_48_n3 {d : Nat} {x0 : Int32} {b0 b2 : Bool} {n1 n2 : Nat} {p q : Bool} {ad : Nat → Nat} {I : mmI} {J : mmJ} {Q : mmQ} (h : mm_wc d 18 [.ref 6, .int x0] (((mm_fl b0 true b2), 0, 0, p, q, ad), I, J) (fun v τ => ∃ r1 I1 J1, v = some (.int r1) ∧ τ = (((mm_fl b0 true b2), 0, 0, p, q, ad), I1, J1) ∧ ((¬ r1 = (nI 0) → mm_wc d 280 [.ref 81, .int x0, .int (nI 3)] (((mm_fl b0 true b2), 0, 0, p, q, ad), I1, J1) (fun v τ => ∃ I2 J2, v = none ∧ τ = (((mm_fl b0 true b2), 0, 0, p, q, ad), I2, J2) ∧ mm_wc d 281 [.ref 81, .int (nI 3)] (((mm_fl b0 true b2), 0, 0, p, q, ad), I2, J2) (fun v τ => ∃ r3 I3 J3, v = some (.int r3) ∧ τ = (((mm_fl b0 true b2), 0, 0, p, q, ad), I3, J3) ∧ mm_w Q (mm_wc d) bk_48 72 [some (.ref 81), some (.int x0), some (.int (nI 3)), none, some (.int (r1 * r3)), some (.int (nI 0))] [] (((mm_fl b0 true b2), n1, n2, p, q, ad), I3, J3)))) ∧ (r1 = (nI 0) → Q (some (.int r1)) (((mm_fl b0 true b2), n1, n2, p, q, ad), I1, J1))))) : mm_wc (d + 1) 48 [.ref 81, .int x0, .int (nI 3)] (((mm_fl b0 true b2), n1, n2, p, q, ad), I, J) Q := by
  refine mm_call (c := 48) rfl rfl ?_
  refine mm_go [72] 80 ?_
  show mm_wc d 18 [.ref 6, .int x0] (((mm_fl b0 true b2), 0, 0, p, q, ad), I, J) _
  refine mm_wcm h ?_
  rintro v τ ⟨r1, I1, J1, rfl, rfl, h1⟩
  refine mm_r1' ⟨rfl, ?_⟩
  show mm_b _ _ _ _ _ [some (.ref 81), some (.int x0), some (.int (nI 3)), none, none, none] [.int r1] (((mm_fl b0 true b2), n1, n2, p, q, ad), I1, J1)
  show (((nI 3) : Int32) ≤ (nI 0) → _) ∧ (¬ ((nI 3) : Int32) ≤ (nI 0) → _)
  refine ⟨fun q => absurd q (by decide), fun _ => ?_⟩
  show mm_b _ _ _ _ _ [some (.ref 81), some (.int x0), some (.int (nI 3)), some (.int r1), none, none] [] (((mm_fl b0 true b2), n1, n2, p, q, ad), I1, J1)
  show (((nI 3) : Int32) < (nI 3) → _) ∧ (¬ ((nI 3) : Int32) < (nI 3) → _)
  refine ⟨fun q => absurd q (by decide), fun _ => ?_⟩
  show mm_b _ _ _ _ _ [some (.ref 81), some (.int x0), some (.int (nI 3)), some (.int r1), none, none] [] (((mm_fl b0 true b2), n1, n2, p, q, ad), I1, J1)
  show (¬ r1 = (nI 0) → _) ∧ (r1 = (nI 0) → _)
  refine ⟨fun c0 => ?_, fun c0 => ?_⟩
  · show mm_u _ _ _ _ _ _ [some (.ref 81), some (.int x0), some (.int (nI 3)), some (.int r1), none, none] [] (((mm_fl b0 true b2), n1, n2, p, q, ad), I1, J1)
    show (((nI 2) : Int32) < (nI 3) → _) ∧ (¬ ((nI 2) : Int32) < (nI 3) → _)
    refine ⟨fun _ => ?_, fun q => absurd q (by decide)⟩
    show mm_u _ _ _ _ _ _ [some (.ref 81), some (.int x0), some (.int (nI 3)), some (.int r1), none, none] [] (((mm_fl b0 true b2), n1, n2, p, q, ad), I1, J1)
    show mm_wc d 280 [.ref 81, .int x0, .int (nI 3)] (((mm_fl b0 true b2), 0, 0, p, q, ad), I1, J1) _
    refine mm_wcm (h1.1 c0) ?_
    rintro v τ ⟨I2, J2, rfl, rfl, h2⟩
    refine mm_r0' ⟨rfl, ?_⟩
    show mm_b _ _ _ _ _ [some (.ref 81), some (.int x0), some (.int (nI 3)), some (.int r1), none, none] [] (((mm_fl b0 true b2), n1, n2, p, q, ad), I2, J2)
    show mm_wc d 281 [.ref 81, .int (nI 3)] (((mm_fl b0 true b2), 0, 0, p, q, ad), I2, J2) _
    refine mm_wcm h2 ?_
    rintro v τ ⟨r3, I3, J3, rfl, rfl, h3⟩
    refine mm_r1' ⟨rfl, ?_⟩
    exact h3
  · exact (h1.2 c0)
theorem fx_48_n3_72 {d : Nat} {a1 : Int32} {a4 : Int32} {a5 : Int32} {b0 b2 : Bool} {n1 n2 : Nat} {p q : Bool} {ad : Nat → Nat} {I : mmI} {J : mmJ} {Q : mmQ} (h : (((I 81 9) ≤ a5 → Q (some (.int a4)) (((mm_fl b0 true b2), n1, n2, p, q, ad), I, J)) ∧ (¬ (I 81 9) ≤ a5 → mm_wc d 45 [.ref 81, .int a5, .int (nI 3)] (((mm_fl b0 true b2), 0, 0, p, q, ad), I, J) (fun v τ => ∃ r1 I1 J1, v = some (.int r1) ∧ τ = (((mm_fl b0 true b2), 0, 0, p, q, ad), I1, J1) ∧ mm_wc d 1002 [.int a4, .int r1] (((mm_fl b0 true b2), 0, 0, p, q, ad), I1, J1) (fun v τ => ∃ r2 I2 J2, v = some (.int r2) ∧ τ = (((mm_fl b0 true b2), 0, 0, p, q, ad), I2, J2) ∧ mm_w Q (mm_wc d) bk_48 72 [some (.ref 81), some (.int a1), some (.int (nI 3)), none, some (.int r2), some (.int (a5 + (nI 1)))] [] (((mm_fl b0 true b2), n1, n2, p, q, ad), I2, J2)))))) : mm_w Q (mm_wc (d)) bk_48 72 [some (.ref 81), some (.int a1), some (.int (nI 3)), none, some (.int a4), some (.int a5)] [] (((mm_fl b0 true b2), n1, n2, p, q, ad), I, J) := by
  refine mm_go [72] 80 ?_
  show ((I 81 9) ≤ a5 → _) ∧ (¬ (I 81 9) ≤ a5 → _)
  refine ⟨fun c0 => ?_, fun c0 => ?_⟩
  · show mm_u _ _ _ _ _ _ [some (.ref 81), some (.int a1), some (.int (nI 3)), none, some (.int a4), some (.int a5)] [] (((mm_fl b0 true b2), n1, n2, p, q, ad), I, J)
    show (((nI 2) : Int32) < (nI 3) → _) ∧ (¬ ((nI 2) : Int32) < (nI 3) → _)
    refine ⟨fun _ => ?_, fun q => absurd q (by decide)⟩
    exact (h.1 c0)
  · show mm_b _ _ _ _ _ [some (.ref 81), some (.int a1), some (.int (nI 3)), none, some (.int a4), some (.int a5)] [] (((mm_fl b0 true b2), n1, n2, p, q, ad), I, J)
    show mm_wc d 45 [.ref 81, .int a5, .int (nI 3)] (((mm_fl b0 true b2), 0, 0, p, q, ad), I, J) _
    refine mm_wcm (h.2 c0) ?_
    rintro v τ ⟨r1, I1, J1, rfl, rfl, h1⟩
    refine mm_r1' ⟨rfl, ?_⟩
    show mm_b _ _ _ _ _ [some (.ref 81), some (.int a1), some (.int (nI 3)), none, some (.int a4), some (.int a5)] [.int r1, .int a4] (((mm_fl b0 true b2), n1, n2, p, q, ad), I1, J1)
    show mm_wc d 1002 [.int a4, .int r1] (((mm_fl b0 true b2), 0, 0, p, q, ad), I1, J1) _
    refine mm_wcm h1 ?_
    rintro v τ ⟨r2, I2, J2, rfl, rfl, h2⟩
    refine mm_r1' ⟨rfl, ?_⟩
    exact h2
/- 49 ThreeBreaths$Past begin -/
theorem fx_49 {d : Nat} {x0 : Int32} {fl : Nat → Bool} {n1 n2 : Nat} {p q : Bool} {ad : Nat → Nat} {I : mmI} {J : mmJ} {Q : mmQ} (h : Q none ((fl, n1, n2, p, q, ad), (mm_up (mm_up (mm_up I 15 0 x0) 15 2 (nI 0)) 15 4 (nI 0)), J)) : mm_wc (d + 1) 49 [.ref 15, .int x0] ((fl, n1, n2, p, q, ad), I, J) Q := by
  refine mm_call (c := 49) rfl rfl ?_
  refine mm_go [] 80 ?_
  exact h
/- 50 ThreeBreaths$Past act -/
theorem fx_50 {d : Nat} {x0 : Int32} {fl : Nat → Bool} {n1 n2 : Nat} {p q : Bool} {ad : Nat → Nat} {I : mmI} {J : mmJ} {Q : mmQ} (h : (((I 15 2) < (nI 20) → (vp_in (I 15 2) 20 ∧ Q none ((fl, n1, n2, p, q, ad), (mm_up (mm_up (mm_up I 16 ((I 15 2)).toNatClampNeg (I 15 0)) 15 2 ((I 15 2) + (nI 1))) 15 0 x0), J))) ∧ (¬ (I 15 2) < (nI 20) → mm_wc d 1003 [.ref 16, .int (nI 1), .ref 16, .int (nI 0), .int (nI 19)] ((fl, 0, 0, p, q, ad), I, J) (fun v τ => ∃ I1 J1, v = none ∧ τ = ((fl, 0, 0, p, q, ad), I1, J1) ∧ Q none ((fl, n1, n2, p, q, ad), (mm_up (mm_up (mm_up (mm_up I1 15 2 (nI 19)) 16 19 (I1 15 0)) 15 2 (nI 20)) 15 0 x0), J1))))) : mm_wc (d + 1) 50 [.ref 15, .int x0] ((fl, n1, n2, p, q, ad), I, J) Q := by
  refine mm_call (c := 50) rfl rfl ?_
  refine mm_go [] 80 ?_
  show ((I 15 2) < (nI 20) → _) ∧ (¬ (I 15 2) < (nI 20) → _)
  refine ⟨fun c0 => ?_, fun c0 => ?_⟩
  · show mm_u _ _ _ _ _ _ [some (.ref 15), some (.int x0)] [] ((fl, n1, n2, p, q, ad), I, J)
    show vp_in (I 15 2) 20 ∧ _
    refine ⟨(h.1 c0).1, ?_⟩
    exact (h.1 c0).2
  · show mm_b _ _ _ _ _ [some (.ref 15), some (.int x0)] [] ((fl, n1, n2, p, q, ad), I, J)
    show mm_wc d 1003 [.ref 16, .int (nI 1), .ref 16, .int (nI 0), .int (nI 19)] ((fl, 0, 0, p, q, ad), I, J) _
    refine mm_wcm (h.2 c0) ?_
    rintro v τ ⟨I1, J1, rfl, rfl, h1⟩
    refine mm_r0' ⟨rfl, ?_⟩
    show mm_b _ _ _ _ _ [some (.ref 15), some (.int x0)] [] ((fl, n1, n2, p, q, ad), I1, J1)
    show (vp_in (nI 19) 20) ∧ _
    refine ⟨(mm_inl (by decide)), ?_⟩
    exact h1
/- 51 ThreeBreaths$Past takeBack -/
theorem fx_51 {d : Nat} {fl : Nat → Bool} {n1 n2 : Nat} {p q : Bool} {ad : Nat → Nat} {I : mmI} {J : mmJ} {Q : mmQ} (h : (((nI 0) < (I 15 2) → (vp_in ((I 15 2) - (nI 1)) 20 ∧ Q (some (.int (nI 1))) ((fl, n1, n2, p, q, ad), (mm_up (mm_up I 15 2 ((I 15 2) - (nI 1))) 15 0 (I 16 (((I 15 2) - (nI 1))).toNatClampNeg)), J))) ∧ (¬ (nI 0) < (I 15 2) → Q (some (.int (nI 0))) ((fl, n1, n2, p, q, ad), I, J)))) : mm_wc (d + 1) 51 [.ref 15] ((fl, n1, n2, p, q, ad), I, J) Q := by
  refine mm_call (c := 51) rfl rfl ?_
  refine mm_go [] 80 ?_
  show ((nI 0) < (I 15 2) → _) ∧ (¬ (nI 0) < (I 15 2) → _)
  refine ⟨fun c0 => ?_, fun c0 => ?_⟩
  · show mm_u _ _ _ _ _ _ [some (.ref 15)] [] ((fl, n1, n2, p, q, ad), I, J)
    show vp_in ((I 15 2) - (nI 1)) 20 ∧ _
    refine ⟨(h.1 c0).1, ?_⟩
    show mm_b _ _ _ _ _ [some (.ref 15)] [.int (I 16 (((I 15 2) - (nI 1))).toNatClampNeg), .ref 15] ((fl, n1, n2, p, q, ad), (mm_up I 15 2 ((I 15 2) - (nI 1))), J)
    show (((nI 1) : Int32) = 0 ∨ ((nI 1) : Int32) = 1) ∧ _
    refine ⟨(by decide), ?_⟩
    exact (h.1 c0).2
  · show mm_b _ _ _ _ _ [some (.ref 15)] [] ((fl, n1, n2, p, q, ad), I, J)
    show (((nI 0) : Int32) = 0 ∨ ((nI 0) : Int32) = 1) ∧ _
    refine ⟨(by decide), ?_⟩
    exact (h.2 c0)
/- 52 ThreeBreaths$Past keepImage -/
theorem fx_52 {d : Nat} {fl : Nat → Bool} {n1 n2 : Nat} {p q : Bool} {ad : Nat → Nat} {I : mmI} {J : mmJ} {Q : mmQ} (h : (((I 15 4) < (nI 3) → (vp_in (I 15 4) 3 ∧ Q (some (.int (((I 15 4) + (nI 1)) - (nI 1)))) ((fl, n1, n2, p, q, ad), (mm_up (mm_up I 17 ((I 15 4)).toNatClampNeg (I 15 0)) 15 4 ((I 15 4) + (nI 1))), J))) ∧ (¬ (I 15 4) < (nI 3) → Q (some (.int (-1))) ((fl, n1, n2, p, q, ad), I, J)))) : mm_wc (d + 1) 52 [.ref 15] ((fl, n1, n2, p, q, ad), I, J) Q := by
  refine mm_call (c := 52) rfl rfl ?_
  refine mm_go [] 80 ?_
  show ((I 15 4) < (nI 3) → _) ∧ (¬ (I 15 4) < (nI 3) → _)
  refine ⟨fun c0 => ?_, fun c0 => ?_⟩
  · show mm_u _ _ _ _ _ _ [some (.ref 15)] [] ((fl, n1, n2, p, q, ad), I, J)
    show vp_in (I 15 4) 3 ∧ _
    refine ⟨(h.1 c0).1, ?_⟩
    exact (h.1 c0).2
  · exact (h.2 c0)
/- 53 ThreeBreaths$Past returnTo -/
theorem fx_53 {d : Nat} {x0 : Int32} {fl : Nat → Bool} {n1 n2 : Nat} {p q : Bool} {ad : Nat → Nat} {I : mmI} {J : mmJ} {Q : mmQ} (h : ((x0 < (nI 0) → Q (some (.int (nI 0))) ((fl, n1, n2, p, q, ad), I, J)) ∧ (¬ x0 < (nI 0) → ((x0 < (I 15 4) → (vp_in x0 3 ∧ Q (some (.int (nI 1))) ((fl, n1, n2, p, q, ad), (mm_up (mm_up I 15 0 (I 17 x0.toNatClampNeg)) 15 2 (nI 0)), J))) ∧ (¬ x0 < (I 15 4) → Q (some (.int (nI 0))) ((fl, n1, n2, p, q, ad), I, J)))))) : mm_wc (d + 1) 53 [.ref 15, .int x0] ((fl, n1, n2, p, q, ad), I, J) Q := by
  refine mm_call (c := 53) rfl rfl ?_
  refine mm_go [] 80 ?_
  show (x0 < (nI 0) → _) ∧ (¬ x0 < (nI 0) → _)
  refine ⟨fun c0 => ?_, fun c0 => ?_⟩
  · show mm_u _ _ _ _ _ _ [some (.ref 15), some (.int x0)] [] ((fl, n1, n2, p, q, ad), I, J)
    show (((nI 0) : Int32) = 0 ∨ ((nI 0) : Int32) = 1) ∧ _
    refine ⟨(by decide), ?_⟩
    exact (h.1 c0)
  · show mm_b _ _ _ _ _ [some (.ref 15), some (.int x0)] [] ((fl, n1, n2, p, q, ad), I, J)
    show (x0 < (I 15 4) → _) ∧ (¬ x0 < (I 15 4) → _)
    refine ⟨fun c1 => ?_, fun c1 => ?_⟩
    · show mm_u _ _ _ _ _ _ [some (.ref 15), some (.int x0)] [] ((fl, n1, n2, p, q, ad), I, J)
      show vp_in x0 3 ∧ _
      refine ⟨((h.2 c0).1 c1).1, ?_⟩
      show mm_b _ _ _ _ _ [some (.ref 15), some (.int x0)] [.int (I 17 x0.toNatClampNeg), .ref 15] ((fl, n1, n2, p, q, ad), I, J)
      show (((nI 1) : Int32) = 0 ∨ ((nI 1) : Int32) = 1) ∧ _
      refine ⟨(by decide), ?_⟩
      exact ((h.2 c0).1 c1).2
    · show mm_b _ _ _ _ _ [some (.ref 15), some (.int x0)] [] ((fl, n1, n2, p, q, ad), I, J)
      show (((nI 0) : Int32) = 0 ∨ ((nI 0) : Int32) = 1) ∧ _
      refine ⟨(by decide), ?_⟩
      exact ((h.2 c0).2 c1)
/- 54 ThreeBreaths$Points isFull -/
theorem fx_54c {d : Nat} {fl : Nat → Bool} {n1 n2 : Nat} {p q : Bool} {ad : Nat → Nat} {I : mmI} {J : mmJ} {Q : mmQ} (h : (((I (mm_ck q 1) 0) ≤ (I (mm_ck q 1) 3) → Q (some (.int (nI 1))) ((fl, n1, n2, p, q, ad), I, J)) ∧ (¬ (I (mm_ck q 1) 0) ≤ (I (mm_ck q 1) 3) → (((I (mm_ck q 1) 3) < (nI 10) → Q (some (.int (nI 0))) ((fl, n1, n2, p, q, ad), I, J)) ∧ (¬ (I (mm_ck q 1) 3) < (nI 10) → Q (some (.int (nI 1))) ((fl, n1, n2, p, q, ad), I, J)))))) : mm_wc (d + 1) 54 [.ref (mm_ck q 1)] ((fl, n1, n2, p, q, ad), I, J) Q := by
  cases q
  · refine mm_call (c := 54) rfl rfl ?_
    refine mm_go [] 80 ?_
    show ((I 33 0) ≤ (I 33 3) → _) ∧ (¬ (I 33 0) ≤ (I 33 3) → _)
    refine ⟨fun c0 => ?_, fun c0 => ?_⟩
    · show mm_u _ _ _ _ _ _ [some (.ref 33)] [] ((fl, n1, n2, p, false, ad), I, J)
      show (((nI 1) : Int32) = 0 ∨ ((nI 1) : Int32) = 1) ∧ _
      refine ⟨(by decide), ?_⟩
      exact (h.1 c0)
    · show mm_b _ _ _ _ _ [some (.ref 33)] [] ((fl, n1, n2, p, false, ad), I, J)
      show ((I 33 3) < (nI 10) → _) ∧ (¬ (I 33 3) < (nI 10) → _)
      refine ⟨fun c1 => ?_, fun c1 => ?_⟩
      · show mm_u _ _ _ _ _ _ [some (.ref 33)] [] ((fl, n1, n2, p, false, ad), I, J)
        show (((nI 0) : Int32) = 0 ∨ ((nI 0) : Int32) = 1) ∧ _
        refine ⟨(by decide), ?_⟩
        exact ((h.2 c0).1 c1)
      · show mm_b _ _ _ _ _ [some (.ref 33)] [] ((fl, n1, n2, p, false, ad), I, J)
        show (((nI 1) : Int32) = 0 ∨ ((nI 1) : Int32) = 1) ∧ _
        refine ⟨(by decide), ?_⟩
        exact ((h.2 c0).2 c1)
  · refine mm_call (c := 54) rfl rfl ?_
    refine mm_go [] 80 ?_
    show ((I 19 0) ≤ (I 19 3) → _) ∧ (¬ (I 19 0) ≤ (I 19 3) → _)
    refine ⟨fun c0 => ?_, fun c0 => ?_⟩
    · show mm_u _ _ _ _ _ _ [some (.ref 19)] [] ((fl, n1, n2, p, true, ad), I, J)
      show (((nI 1) : Int32) = 0 ∨ ((nI 1) : Int32) = 1) ∧ _
      refine ⟨(by decide), ?_⟩
      exact (h.1 c0)
    · show mm_b _ _ _ _ _ [some (.ref 19)] [] ((fl, n1, n2, p, true, ad), I, J)
      show ((I 19 3) < (nI 10) → _) ∧ (¬ (I 19 3) < (nI 10) → _)
      refine ⟨fun c1 => ?_, fun c1 => ?_⟩
      · show mm_u _ _ _ _ _ _ [some (.ref 19)] [] ((fl, n1, n2, p, true, ad), I, J)
        show (((nI 0) : Int32) = 0 ∨ ((nI 0) : Int32) = 1) ∧ _
        refine ⟨(by decide), ?_⟩
        exact ((h.2 c0).1 c1)
      · show mm_b _ _ _ _ _ [some (.ref 19)] [] ((fl, n1, n2, p, true, ad), I, J)
        show (((nI 1) : Int32) = 0 ∨ ((nI 1) : Int32) = 1) ∧ _
        refine ⟨(by decide), ?_⟩
        exact ((h.2 c0).2 c1)
/- 54 ThreeBreaths$Points isFull -/
theorem fx_54p {d : Nat} {fl : Nat → Bool} {n1 n2 : Nat} {p q : Bool} {ad : Nat → Nat} {I : mmI} {J : mmJ} {Q : mmQ} (h : (((I (mm_ck q 5) 0) ≤ (I (mm_ck q 5) 3) → Q (some (.int (nI 1))) ((fl, n1, n2, p, q, ad), I, J)) ∧ (¬ (I (mm_ck q 5) 0) ≤ (I (mm_ck q 5) 3) → (((I (mm_ck q 5) 3) < (nI 10) → Q (some (.int (nI 0))) ((fl, n1, n2, p, q, ad), I, J)) ∧ (¬ (I (mm_ck q 5) 3) < (nI 10) → Q (some (.int (nI 1))) ((fl, n1, n2, p, q, ad), I, J)))))) : mm_wc (d + 1) 54 [.ref (mm_ck q 5)] ((fl, n1, n2, p, q, ad), I, J) Q := by
  cases q
  · refine mm_call (c := 54) rfl rfl ?_
    refine mm_go [] 80 ?_
    show ((I 37 0) ≤ (I 37 3) → _) ∧ (¬ (I 37 0) ≤ (I 37 3) → _)
    refine ⟨fun c0 => ?_, fun c0 => ?_⟩
    · show mm_u _ _ _ _ _ _ [some (.ref 37)] [] ((fl, n1, n2, p, false, ad), I, J)
      show (((nI 1) : Int32) = 0 ∨ ((nI 1) : Int32) = 1) ∧ _
      refine ⟨(by decide), ?_⟩
      exact (h.1 c0)
    · show mm_b _ _ _ _ _ [some (.ref 37)] [] ((fl, n1, n2, p, false, ad), I, J)
      show ((I 37 3) < (nI 10) → _) ∧ (¬ (I 37 3) < (nI 10) → _)
      refine ⟨fun c1 => ?_, fun c1 => ?_⟩
      · show mm_u _ _ _ _ _ _ [some (.ref 37)] [] ((fl, n1, n2, p, false, ad), I, J)
        show (((nI 0) : Int32) = 0 ∨ ((nI 0) : Int32) = 1) ∧ _
        refine ⟨(by decide), ?_⟩
        exact ((h.2 c0).1 c1)
      · show mm_b _ _ _ _ _ [some (.ref 37)] [] ((fl, n1, n2, p, false, ad), I, J)
        show (((nI 1) : Int32) = 0 ∨ ((nI 1) : Int32) = 1) ∧ _
        refine ⟨(by decide), ?_⟩
        exact ((h.2 c0).2 c1)
  · refine mm_call (c := 54) rfl rfl ?_
    refine mm_go [] 80 ?_
    show ((I 23 0) ≤ (I 23 3) → _) ∧ (¬ (I 23 0) ≤ (I 23 3) → _)
    refine ⟨fun c0 => ?_, fun c0 => ?_⟩
    · show mm_u _ _ _ _ _ _ [some (.ref 23)] [] ((fl, n1, n2, p, true, ad), I, J)
      show (((nI 1) : Int32) = 0 ∨ ((nI 1) : Int32) = 1) ∧ _
      refine ⟨(by decide), ?_⟩
      exact (h.1 c0)
    · show mm_b _ _ _ _ _ [some (.ref 23)] [] ((fl, n1, n2, p, true, ad), I, J)
      show ((I 23 3) < (nI 10) → _) ∧ (¬ (I 23 3) < (nI 10) → _)
      refine ⟨fun c1 => ?_, fun c1 => ?_⟩
      · show mm_u _ _ _ _ _ _ [some (.ref 23)] [] ((fl, n1, n2, p, true, ad), I, J)
        show (((nI 0) : Int32) = 0 ∨ ((nI 0) : Int32) = 1) ∧ _
        refine ⟨(by decide), ?_⟩
        exact ((h.2 c0).1 c1)
      · show mm_b _ _ _ _ _ [some (.ref 23)] [] ((fl, n1, n2, p, true, ad), I, J)
        show (((nI 1) : Int32) = 0 ∨ ((nI 1) : Int32) = 1) ∧ _
        refine ⟨(by decide), ?_⟩
        exact ((h.2 c0).2 c1)
/- 54 ThreeBreaths$Points isFull -/
theorem fx_54s {d : Nat} {fl : Nat → Bool} {n1 n2 : Nat} {p q : Bool} {ad : Nat → Nat} {I : mmI} {J : mmJ} {Q : mmQ} (h : (((I (mm_ck q 8) 0) ≤ (I (mm_ck q 8) 3) → Q (some (.int (nI 1))) ((fl, n1, n2, p, q, ad), I, J)) ∧ (¬ (I (mm_ck q 8) 0) ≤ (I (mm_ck q 8) 3) → (((I (mm_ck q 8) 3) < (nI 10) → Q (some (.int (nI 0))) ((fl, n1, n2, p, q, ad), I, J)) ∧ (¬ (I (mm_ck q 8) 3) < (nI 10) → Q (some (.int (nI 1))) ((fl, n1, n2, p, q, ad), I, J)))))) : mm_wc (d + 1) 54 [.ref (mm_ck q 8)] ((fl, n1, n2, p, q, ad), I, J) Q := by
  cases q
  · refine mm_call (c := 54) rfl rfl ?_
    refine mm_go [] 80 ?_
    show ((I 40 0) ≤ (I 40 3) → _) ∧ (¬ (I 40 0) ≤ (I 40 3) → _)
    refine ⟨fun c0 => ?_, fun c0 => ?_⟩
    · show mm_u _ _ _ _ _ _ [some (.ref 40)] [] ((fl, n1, n2, p, false, ad), I, J)
      show (((nI 1) : Int32) = 0 ∨ ((nI 1) : Int32) = 1) ∧ _
      refine ⟨(by decide), ?_⟩
      exact (h.1 c0)
    · show mm_b _ _ _ _ _ [some (.ref 40)] [] ((fl, n1, n2, p, false, ad), I, J)
      show ((I 40 3) < (nI 10) → _) ∧ (¬ (I 40 3) < (nI 10) → _)
      refine ⟨fun c1 => ?_, fun c1 => ?_⟩
      · show mm_u _ _ _ _ _ _ [some (.ref 40)] [] ((fl, n1, n2, p, false, ad), I, J)
        show (((nI 0) : Int32) = 0 ∨ ((nI 0) : Int32) = 1) ∧ _
        refine ⟨(by decide), ?_⟩
        exact ((h.2 c0).1 c1)
      · show mm_b _ _ _ _ _ [some (.ref 40)] [] ((fl, n1, n2, p, false, ad), I, J)
        show (((nI 1) : Int32) = 0 ∨ ((nI 1) : Int32) = 1) ∧ _
        refine ⟨(by decide), ?_⟩
        exact ((h.2 c0).2 c1)
  · refine mm_call (c := 54) rfl rfl ?_
    refine mm_go [] 80 ?_
    show ((I 26 0) ≤ (I 26 3) → _) ∧ (¬ (I 26 0) ≤ (I 26 3) → _)
    refine ⟨fun c0 => ?_, fun c0 => ?_⟩
    · show mm_u _ _ _ _ _ _ [some (.ref 26)] [] ((fl, n1, n2, p, true, ad), I, J)
      show (((nI 1) : Int32) = 0 ∨ ((nI 1) : Int32) = 1) ∧ _
      refine ⟨(by decide), ?_⟩
      exact (h.1 c0)
    · show mm_b _ _ _ _ _ [some (.ref 26)] [] ((fl, n1, n2, p, true, ad), I, J)
      show ((I 26 3) < (nI 10) → _) ∧ (¬ (I 26 3) < (nI 10) → _)
      refine ⟨fun c1 => ?_, fun c1 => ?_⟩
      · show mm_u _ _ _ _ _ _ [some (.ref 26)] [] ((fl, n1, n2, p, true, ad), I, J)
        show (((nI 0) : Int32) = 0 ∨ ((nI 0) : Int32) = 1) ∧ _
        refine ⟨(by decide), ?_⟩
        exact ((h.2 c0).1 c1)
      · show mm_b _ _ _ _ _ [some (.ref 26)] [] ((fl, n1, n2, p, true, ad), I, J)
        show (((nI 1) : Int32) = 0 ∨ ((nI 1) : Int32) = 1) ∧ _
        refine ⟨(by decide), ?_⟩
        exact ((h.2 c0).2 c1)
/- 55 ThreeBreaths$Points add -/
theorem fx_55c {d : Nat} {x0 : Int32} {x1 : Int32} {fl : Nat → Bool} {n1 n2 : Nat} {p q : Bool} {ad : Nat → Nat} {I : mmI} {J : mmJ} {Q : mmQ} (h : mm_wc d 54 [.ref (mm_ck q 1)] ((fl, 0, 0, p, q, ad), I, J) (fun v τ => ∃ r1 I1 J1, v = some (.int r1) ∧ τ = ((fl, 0, 0, p, q, ad), I1, J1) ∧ ((¬ r1 = (nI 0) → Q none ((fl, n1, n2, p, q, ad), I1, J1)) ∧ (r1 = (nI 0) → (vp_in (I1 (mm_ck q 1) 3) 10 ∧ (vp_in (I1 (mm_ck q 1) 3) 10 ∧ Q none ((fl, n1, n2, p, q, ad), (mm_up (mm_up (mm_up I1 (mm_ck q 2) ((I1 (mm_ck q 1) 3)).toNatClampNeg x0) (mm_ck q 3) ((I1 (mm_ck q 1) 3)).toNatClampNeg x1) (mm_ck q 1) 3 ((I1 (mm_ck q 1) 3) + (nI 1))), J1))))))) : mm_wc (d + 1) 55 [.ref (mm_ck q 1), .int x0, .int x1] ((fl, n1, n2, p, q, ad), I, J) Q := by
  cases q
  · refine mm_call (c := 55) rfl rfl ?_
    refine mm_go [] 80 ?_
    show mm_wc d 54 [.ref 33] ((fl, 0, 0, p, false, ad), I, J) _
    refine mm_wcm h ?_
    rintro v τ ⟨r1, I1, J1, rfl, rfl, h1⟩
    refine mm_r1' ⟨rfl, ?_⟩
    show mm_b _ _ _ _ _ [some (.ref 33), some (.int x0), some (.int x1)] [.int r1] ((fl, n1, n2, p, false, ad), I1, J1)
    show (¬ r1 = (nI 0) → _) ∧ (r1 = (nI 0) → _)
    refine ⟨fun c0 => ?_, fun c0 => ?_⟩
    · exact (h1.1 c0)
    · show mm_b _ _ _ _ _ [some (.ref 33), some (.int x0), some (.int x1)] [] ((fl, n1, n2, p, false, ad), I1, J1)
      show vp_in (I1 33 3) 10 ∧ _
      refine ⟨(h1.2 c0).1, ?_⟩
      show mm_b _ _ _ _ _ [some (.ref 33), some (.int x0), some (.int x1)] [] ((fl, n1, n2, p, false, ad), (mm_up I1 34 ((I1 33 3)).toNatClampNeg x0), J1)
      show vp_in (I1 33 3) 10 ∧ _
      refine ⟨(h1.2 c0).2.1, ?_⟩
      exact (h1.2 c0).2.2
  · refine mm_call (c := 55) rfl rfl ?_
    refine mm_go [] 80 ?_
    show mm_wc d 54 [.ref 19] ((fl, 0, 0, p, true, ad), I, J) _
    refine mm_wcm h ?_
    rintro v τ ⟨r1, I1, J1, rfl, rfl, h1⟩
    refine mm_r1' ⟨rfl, ?_⟩
    show mm_b _ _ _ _ _ [some (.ref 19), some (.int x0), some (.int x1)] [.int r1] ((fl, n1, n2, p, true, ad), I1, J1)
    show (¬ r1 = (nI 0) → _) ∧ (r1 = (nI 0) → _)
    refine ⟨fun c0 => ?_, fun c0 => ?_⟩
    · exact (h1.1 c0)
    · show mm_b _ _ _ _ _ [some (.ref 19), some (.int x0), some (.int x1)] [] ((fl, n1, n2, p, true, ad), I1, J1)
      show vp_in (I1 19 3) 10 ∧ _
      refine ⟨(h1.2 c0).1, ?_⟩
      show mm_b _ _ _ _ _ [some (.ref 19), some (.int x0), some (.int x1)] [] ((fl, n1, n2, p, true, ad), (mm_up I1 20 ((I1 19 3)).toNatClampNeg x0), J1)
      show vp_in (I1 19 3) 10 ∧ _
      refine ⟨(h1.2 c0).2.1, ?_⟩
      exact (h1.2 c0).2.2
/- 55 ThreeBreaths$Points add -/
theorem fx_55p {d : Nat} {x0 : Int32} {x1 : Int32} {fl : Nat → Bool} {n1 n2 : Nat} {p q : Bool} {ad : Nat → Nat} {I : mmI} {J : mmJ} {Q : mmQ} (h : mm_wc d 54 [.ref (mm_ck q 5)] ((fl, 0, 0, p, q, ad), I, J) (fun v τ => ∃ r1 I1 J1, v = some (.int r1) ∧ τ = ((fl, 0, 0, p, q, ad), I1, J1) ∧ ((¬ r1 = (nI 0) → Q none ((fl, n1, n2, p, q, ad), I1, J1)) ∧ (r1 = (nI 0) → (vp_in (I1 (mm_ck q 5) 3) 10 ∧ (vp_in (I1 (mm_ck q 5) 3) 10 ∧ Q none ((fl, n1, n2, p, q, ad), (mm_up (mm_up (mm_up I1 (mm_ck q 6) ((I1 (mm_ck q 5) 3)).toNatClampNeg x0) (mm_ck q 7) ((I1 (mm_ck q 5) 3)).toNatClampNeg x1) (mm_ck q 5) 3 ((I1 (mm_ck q 5) 3) + (nI 1))), J1))))))) : mm_wc (d + 1) 55 [.ref (mm_ck q 5), .int x0, .int x1] ((fl, n1, n2, p, q, ad), I, J) Q := by
  cases q
  · refine mm_call (c := 55) rfl rfl ?_
    refine mm_go [] 80 ?_
    show mm_wc d 54 [.ref 37] ((fl, 0, 0, p, false, ad), I, J) _
    refine mm_wcm h ?_
    rintro v τ ⟨r1, I1, J1, rfl, rfl, h1⟩
    refine mm_r1' ⟨rfl, ?_⟩
    show mm_b _ _ _ _ _ [some (.ref 37), some (.int x0), some (.int x1)] [.int r1] ((fl, n1, n2, p, false, ad), I1, J1)
    show (¬ r1 = (nI 0) → _) ∧ (r1 = (nI 0) → _)
    refine ⟨fun c0 => ?_, fun c0 => ?_⟩
    · exact (h1.1 c0)
    · show mm_b _ _ _ _ _ [some (.ref 37), some (.int x0), some (.int x1)] [] ((fl, n1, n2, p, false, ad), I1, J1)
      show vp_in (I1 37 3) 10 ∧ _
      refine ⟨(h1.2 c0).1, ?_⟩
      show mm_b _ _ _ _ _ [some (.ref 37), some (.int x0), some (.int x1)] [] ((fl, n1, n2, p, false, ad), (mm_up I1 38 ((I1 37 3)).toNatClampNeg x0), J1)
      show vp_in (I1 37 3) 10 ∧ _
      refine ⟨(h1.2 c0).2.1, ?_⟩
      exact (h1.2 c0).2.2
  · refine mm_call (c := 55) rfl rfl ?_
    refine mm_go [] 80 ?_
    show mm_wc d 54 [.ref 23] ((fl, 0, 0, p, true, ad), I, J) _
    refine mm_wcm h ?_
    rintro v τ ⟨r1, I1, J1, rfl, rfl, h1⟩
    refine mm_r1' ⟨rfl, ?_⟩
    show mm_b _ _ _ _ _ [some (.ref 23), some (.int x0), some (.int x1)] [.int r1] ((fl, n1, n2, p, true, ad), I1, J1)
    show (¬ r1 = (nI 0) → _) ∧ (r1 = (nI 0) → _)
    refine ⟨fun c0 => ?_, fun c0 => ?_⟩
    · exact (h1.1 c0)
    · show mm_b _ _ _ _ _ [some (.ref 23), some (.int x0), some (.int x1)] [] ((fl, n1, n2, p, true, ad), I1, J1)
      show vp_in (I1 23 3) 10 ∧ _
      refine ⟨(h1.2 c0).1, ?_⟩
      show mm_b _ _ _ _ _ [some (.ref 23), some (.int x0), some (.int x1)] [] ((fl, n1, n2, p, true, ad), (mm_up I1 24 ((I1 23 3)).toNatClampNeg x0), J1)
      show vp_in (I1 23 3) 10 ∧ _
      refine ⟨(h1.2 c0).2.1, ?_⟩
      exact (h1.2 c0).2.2
/- 55 ThreeBreaths$Points add -/
theorem fx_55s {d : Nat} {x0 : Int32} {x1 : Int32} {fl : Nat → Bool} {n1 n2 : Nat} {p q : Bool} {ad : Nat → Nat} {I : mmI} {J : mmJ} {Q : mmQ} (h : mm_wc d 54 [.ref (mm_ck q 8)] ((fl, 0, 0, p, q, ad), I, J) (fun v τ => ∃ r1 I1 J1, v = some (.int r1) ∧ τ = ((fl, 0, 0, p, q, ad), I1, J1) ∧ ((¬ r1 = (nI 0) → Q none ((fl, n1, n2, p, q, ad), I1, J1)) ∧ (r1 = (nI 0) → (vp_in (I1 (mm_ck q 8) 3) 10 ∧ (vp_in (I1 (mm_ck q 8) 3) 10 ∧ Q none ((fl, n1, n2, p, q, ad), (mm_up (mm_up (mm_up I1 (mm_ck q 9) ((I1 (mm_ck q 8) 3)).toNatClampNeg x0) (mm_ck q 10) ((I1 (mm_ck q 8) 3)).toNatClampNeg x1) (mm_ck q 8) 3 ((I1 (mm_ck q 8) 3) + (nI 1))), J1))))))) : mm_wc (d + 1) 55 [.ref (mm_ck q 8), .int x0, .int x1] ((fl, n1, n2, p, q, ad), I, J) Q := by
  cases q
  · refine mm_call (c := 55) rfl rfl ?_
    refine mm_go [] 80 ?_
    show mm_wc d 54 [.ref 40] ((fl, 0, 0, p, false, ad), I, J) _
    refine mm_wcm h ?_
    rintro v τ ⟨r1, I1, J1, rfl, rfl, h1⟩
    refine mm_r1' ⟨rfl, ?_⟩
    show mm_b _ _ _ _ _ [some (.ref 40), some (.int x0), some (.int x1)] [.int r1] ((fl, n1, n2, p, false, ad), I1, J1)
    show (¬ r1 = (nI 0) → _) ∧ (r1 = (nI 0) → _)
    refine ⟨fun c0 => ?_, fun c0 => ?_⟩
    · exact (h1.1 c0)
    · show mm_b _ _ _ _ _ [some (.ref 40), some (.int x0), some (.int x1)] [] ((fl, n1, n2, p, false, ad), I1, J1)
      show vp_in (I1 40 3) 10 ∧ _
      refine ⟨(h1.2 c0).1, ?_⟩
      show mm_b _ _ _ _ _ [some (.ref 40), some (.int x0), some (.int x1)] [] ((fl, n1, n2, p, false, ad), (mm_up I1 41 ((I1 40 3)).toNatClampNeg x0), J1)
      show vp_in (I1 40 3) 10 ∧ _
      refine ⟨(h1.2 c0).2.1, ?_⟩
      exact (h1.2 c0).2.2
  · refine mm_call (c := 55) rfl rfl ?_
    refine mm_go [] 80 ?_
    show mm_wc d 54 [.ref 26] ((fl, 0, 0, p, true, ad), I, J) _
    refine mm_wcm h ?_
    rintro v τ ⟨r1, I1, J1, rfl, rfl, h1⟩
    refine mm_r1' ⟨rfl, ?_⟩
    show mm_b _ _ _ _ _ [some (.ref 26), some (.int x0), some (.int x1)] [.int r1] ((fl, n1, n2, p, true, ad), I1, J1)
    show (¬ r1 = (nI 0) → _) ∧ (r1 = (nI 0) → _)
    refine ⟨fun c0 => ?_, fun c0 => ?_⟩
    · exact (h1.1 c0)
    · show mm_b _ _ _ _ _ [some (.ref 26), some (.int x0), some (.int x1)] [] ((fl, n1, n2, p, true, ad), I1, J1)
      show vp_in (I1 26 3) 10 ∧ _
      refine ⟨(h1.2 c0).1, ?_⟩
      show mm_b _ _ _ _ _ [some (.ref 26), some (.int x0), some (.int x1)] [] ((fl, n1, n2, p, true, ad), (mm_up I1 27 ((I1 26 3)).toNatClampNeg x0), J1)
      show vp_in (I1 26 3) 10 ∧ _
      refine ⟨(h1.2 c0).2.1, ?_⟩
      exact (h1.2 c0).2.2
/- 106 ThreeBreaths$Traces count -/
theorem fx_106 {d : Nat} {x0 : Int32} {b0 b1 : Bool} {n1 n2 : Nat} {p q : Bool} {ad : Nat → Nat} {I : mmI} {J : mmJ} {Q : mmQ} (h : mm_wc d 108 [.ref 96, .int x0] (((mm_fl b0 b1 true), 0, 0, p, q, ad), I, J) (fun v τ => ∃ I1 J1, v = none ∧ τ = (((mm_fl b0 b1 true), 0, 0, p, q, ad), I1, J1) ∧ mm_w Q (mm_wc d) bk_106 9 [some (.ref 96), none, some (.int (nI 0)), some (.int (nI 0))] [] (((mm_fl b0 b1 true), n1, n2, p, q, ad), I1, J1))) : mm_wc (d + 1) 106 [.ref 96, .int x0] (((mm_fl b0 b1 true), n1, n2, p, q, ad), I, J) Q := by
  refine mm_call (c := 106) rfl rfl ?_
  refine mm_go [9] 80 ?_
  show mm_wc d 108 [.ref 96, .int x0] (((mm_fl b0 b1 true), 0, 0, p, q, ad), I, J) _
  refine mm_wcm h ?_
  rintro v τ ⟨I1, J1, rfl, rfl, h1⟩
  refine mm_r0' ⟨rfl, ?_⟩
  exact h1
theorem fx_106_9 {d : Nat} {a2 : Int32} {a3 : Int32} {b0 b1 : Bool} {n1 n2 : Nat} {p q : Bool} {ad : Nat → Nat} {I : mmI} {J : mmJ} {Q : mmQ} (h : (((I 6 7) ≤ a3 → Q (some (.int a2)) (((mm_fl b0 b1 true), n1, n2, p, q, ad), I, J)) ∧ (¬ (I 6 7) ≤ a3 → (vp_in a3 320 ∧ (vp_in a3 320 ∧ mm_w Q (mm_wc d) bk_106 9 [some (.ref 96), none, some (.int (a2 + ((I 10 a3.toNatClampNeg) * (I 97 a3.toNatClampNeg)))), some (.int (a3 + (nI 1)))] [] (((mm_fl b0 b1 true), n1, n2, p, q, ad), I, J)))))) : mm_w Q (mm_wc (d)) bk_106 9 [some (.ref 96), none, some (.int a2), some (.int a3)] [] (((mm_fl b0 b1 true), n1, n2, p, q, ad), I, J) := by
  refine mm_go [9] 80 ?_
  show ((I 6 7) ≤ a3 → _) ∧ (¬ (I 6 7) ≤ a3 → _)
  refine ⟨fun c0 => ?_, fun c0 => ?_⟩
  · exact (h.1 c0)
  · show mm_b _ _ _ _ _ [some (.ref 96), none, some (.int a2), some (.int a3)] [] (((mm_fl b0 b1 true), n1, n2, p, q, ad), I, J)
    show vp_in a3 320 ∧ _
    refine ⟨(h.2 c0).1, ?_⟩
    show mm_b _ _ _ _ _ [some (.ref 96), none, some (.int a2), some (.int a3)] [.int (I 10 a3.toNatClampNeg), .int a2] (((mm_fl b0 b1 true), n1, n2, p, q, ad), I, J)
    show vp_in a3 320 ∧ _
    refine ⟨(h.2 c0).2.1, ?_⟩
    exact (h.2 c0).2.2
/- 107 ThreeBreaths$Traces firstBreath -/
theorem fx_107 {d : Nat} {x0 : Int32} {x1 : Int32} {b0 b1 : Bool} {n1 n2 : Nat} {p q : Bool} {ad : Nat → Nat} {I : mmI} {J : mmJ} {Q : mmQ} (h : (((nI 0) ≤ x1 → mm_wc d 108 [.ref 96, .int x0] (((mm_fl b0 b1 true), 0, 0, p, q, ad), I, J) (fun v τ => ∃ I1 J1, v = none ∧ τ = (((mm_fl b0 b1 true), 0, 0, p, q, ad), I1, J1) ∧ mm_w Q (mm_wc d) bk_107 16 [some (.ref 96), none, none, some (.int x1), some (.int (nI 0))] [] (((mm_fl b0 b1 true), n1, n2, p, q, ad), I1, J1))) ∧ (¬ (nI 0) ≤ x1 → Q (some (.int (-1))) (((mm_fl b0 b1 true), n1, n2, p, q, ad), I, J)))) : mm_wc (d + 1) 107 [.ref 96, .int x0, .int x1] (((mm_fl b0 b1 true), n1, n2, p, q, ad), I, J) Q := by
  refine mm_call (c := 107) rfl rfl ?_
  refine mm_go [16] 80 ?_
  show ((nI 0) ≤ x1 → _) ∧ (¬ (nI 0) ≤ x1 → _)
  refine ⟨fun c0 => ?_, fun c0 => ?_⟩
  · show mm_u _ _ _ _ _ _ [some (.ref 96), some (.int x0), some (.int x1), none, none] [] (((mm_fl b0 b1 true), n1, n2, p, q, ad), I, J)
    show mm_wc d 108 [.ref 96, .int x0] (((mm_fl b0 b1 true), 0, 0, p, q, ad), I, J) _
    refine mm_wcm (h.1 c0) ?_
    rintro v τ ⟨I1, J1, rfl, rfl, h1⟩
    refine mm_r0' ⟨rfl, ?_⟩
    exact h1
  · exact (h.2 c0)
theorem fx_107_16 {d : Nat} {a3 : Int32} {a4 : Int32} {b0 b1 : Bool} {n1 n2 : Nat} {p q : Bool} {ad : Nat → Nat} {I : mmI} {J : mmJ} {Q : mmQ} (h : (((I 6 2) ≤ a4 → Q (some (.int (-1))) (((mm_fl b0 b1 true), n1, n2, p, q, ad), I, J)) ∧ (¬ (I 6 2) ≤ a4 → (vp_in a4 320 ∧ (vp_in (I 8 a4.toNatClampNeg) 320 ∧ (((nI 0) ≤ (a3 - (I 97 ((I 8 a4.toNatClampNeg)).toNatClampNeg)) → mm_w Q (mm_wc d) bk_107 16 [some (.ref 96), none, none, some (.int (a3 - (I 97 ((I 8 a4.toNatClampNeg)).toNatClampNeg))), some (.int (a4 + (nI 1)))] [] (((mm_fl b0 b1 true), n1, n2, p, q, ad), I, J)) ∧ (¬ (nI 0) ≤ (a3 - (I 97 ((I 8 a4.toNatClampNeg)).toNatClampNeg)) → Q (some (.int a4)) (((mm_fl b0 b1 true), n1, n2, p, q, ad), I, J)))))))) : mm_w Q (mm_wc (d)) bk_107 16 [some (.ref 96), none, none, some (.int a3), some (.int a4)] [] (((mm_fl b0 b1 true), n1, n2, p, q, ad), I, J) := by
  refine mm_go [16] 80 ?_
  show ((I 6 2) ≤ a4 → _) ∧ (¬ (I 6 2) ≤ a4 → _)
  refine ⟨fun c0 => ?_, fun c0 => ?_⟩
  · exact (h.1 c0)
  · show mm_b _ _ _ _ _ [some (.ref 96), none, none, some (.int a3), some (.int a4)] [] (((mm_fl b0 b1 true), n1, n2, p, q, ad), I, J)
    show vp_in a4 320 ∧ _
    refine ⟨(h.2 c0).1, ?_⟩
    show mm_b _ _ _ _ _ [some (.ref 96), none, none, some (.int a3), some (.int a4)] [.int (I 8 a4.toNatClampNeg), .ref 97, .int a3] (((mm_fl b0 b1 true), n1, n2, p, q, ad), I, J)
    show vp_in (I 8 a4.toNatClampNeg) 320 ∧ _
    refine ⟨(h.2 c0).2.1, ?_⟩
    show mm_b _ _ _ _ _ [some (.ref 96), none, none, some (.int a3), some (.int a4)] [.int (I 97 ((I 8 a4.toNatClampNeg)).toNatClampNeg), .int a3] (((mm_fl b0 b1 true), n1, n2, p, q, ad), I, J)
    show ((nI 0) ≤ (a3 - (I 97 ((I 8 a4.toNatClampNeg)).toNatClampNeg)) → _) ∧ (¬ (nI 0) ≤ (a3 - (I 97 ((I 8 a4.toNatClampNeg)).toNatClampNeg)) → _)
    refine ⟨fun c1 => ?_, fun c1 => ?_⟩
    · exact ((h.2 c0).2.2.1 c1)
    · exact ((h.2 c0).2.2.2 c1)
/- 108 ThreeBreaths$Traces findRows -/
theorem fx_108 {d : Nat} {x0 : Int32} {b0 b1 : Bool} {n1 n2 : Nat} {p q : Bool} {ad : Nat → Nat} {I : mmI} {J : mmJ} {Q : mmQ} (h : mm_wc d 16 [.ref 6] (((mm_fl b0 b1 true), 0, 0, p, q, ad), I, J) (fun v τ => ∃ r1 I1 J1, v = some (.int r1) ∧ τ = (((mm_fl b0 b1 true), 0, 0, p, q, ad), I1, J1) ∧ mm_w Q (mm_wc d) bk_108 10 [some (.ref 96), some (.int x0), some (.int r1), some (.int (nI 0)), none] [] (((mm_fl b0 b1 true), n1, n2, p, q, ad), I1, J1))) : mm_wc (d + 1) 108 [.ref 96, .int x0] (((mm_fl b0 b1 true), n1, n2, p, q, ad), I, J) Q := by
  refine mm_call (c := 108) rfl rfl ?_
  refine mm_go [10] 80 ?_
  show mm_wc d 16 [.ref 6] (((mm_fl b0 b1 true), 0, 0, p, q, ad), I, J) _
  refine mm_wcm h ?_
  rintro v τ ⟨r1, I1, J1, rfl, rfl, h1⟩
  refine mm_r1' ⟨rfl, ?_⟩
  exact h1
theorem fx_108_10 {d : Nat} {a1 : Int32} {a2 : Int32} {a3 : Int32} {b0 b1 : Bool} {n1 n2 : Nat} {p q : Bool} {ad : Nat → Nat} {I : mmI} {J : mmJ} {Q : mmQ} (h : (((I 6 7) ≤ a3 → Q none (((mm_fl b0 b1 true), n1, n2, p, q, ad), I, J)) ∧ (¬ (I 6 7) ≤ a3 → (vp_in a3 320 ∧ mm_wc d 24 [.ref 6, .int a2, .int (I 9 a3.toNatClampNeg)] (((mm_fl b0 b1 true), 0, 0, p, q, ad), I, J) (fun v τ => ∃ r1 I1 J1, v = some (.int r1) ∧ τ = (((mm_fl b0 b1 true), 0, 0, p, q, ad), I1, J1) ∧ ((¬ a1 = (nI 1) → mm_wc d 109 [.ref 96, .int r1] (((mm_fl b0 b1 true), 0, 0, p, q, ad), I1, J1) (fun v τ => ∃ r2 I2 J2, v = some (.int r2) ∧ τ = (((mm_fl b0 b1 true), 0, 0, p, q, ad), I2, J2) ∧ (vp_in a3 320 ∧ mm_w Q (mm_wc d) bk_108 10 [some (.ref 96), some (.int a1), some (.int a2), some (.int (a3 + (nI 1))), none] [] (((mm_fl b0 b1 true), n1, n2, p, q, ad), (mm_up I2 97 a3.toNatClampNeg r2), J2)))) ∧ (a1 = (nI 1) → mm_wc d 110 [.ref 96, .int r1] (((mm_fl b0 b1 true), 0, 0, p, q, ad), I1, J1) (fun v τ => ∃ r3 I3 J3, v = some (.int r3) ∧ τ = (((mm_fl b0 b1 true), 0, 0, p, q, ad), I3, J3) ∧ (vp_in a3 320 ∧ mm_w Q (mm_wc d) bk_108 10 [some (.ref 96), some (.int a1), some (.int a2), some (.int (a3 + (nI 1))), none] [] (((mm_fl b0 b1 true), n1, n2, p, q, ad), (mm_up I3 97 a3.toNatClampNeg r3), J3)))))))))) : mm_w Q (mm_wc (d)) bk_108 10 [some (.ref 96), some (.int a1), some (.int a2), some (.int a3), none] [] (((mm_fl b0 b1 true), n1, n2, p, q, ad), I, J) := by
  refine mm_go [10] 80 ?_
  show ((I 6 7) ≤ a3 → _) ∧ (¬ (I 6 7) ≤ a3 → _)
  refine ⟨fun c0 => ?_, fun c0 => ?_⟩
  · exact (h.1 c0)
  · show mm_b _ _ _ _ _ [some (.ref 96), some (.int a1), some (.int a2), some (.int a3), none] [] (((mm_fl b0 b1 true), n1, n2, p, q, ad), I, J)
    show vp_in a3 320 ∧ _
    refine ⟨(h.2 c0).1, ?_⟩
    show mm_b _ _ _ _ _ [some (.ref 96), some (.int a1), some (.int a2), some (.int a3), none] [.int (I 9 a3.toNatClampNeg), .int a2, .ref 6] (((mm_fl b0 b1 true), n1, n2, p, q, ad), I, J)
    show mm_wc d 24 [.ref 6, .int a2, .int (I 9 a3.toNatClampNeg)] (((mm_fl b0 b1 true), 0, 0, p, q, ad), I, J) _
    refine mm_wcm ((h.2 c0).2) ?_
    rintro v τ ⟨r1, I1, J1, rfl, rfl, h1⟩
    refine mm_r1' ⟨rfl, ?_⟩
    show mm_b _ _ _ _ _ [some (.ref 96), some (.int a1), some (.int a2), some (.int a3), none] [.int r1] (((mm_fl b0 b1 true), n1, n2, p, q, ad), I1, J1)
    show (¬ a1 = (nI 1) → _) ∧ (a1 = (nI 1) → _)
    refine ⟨fun c1 => ?_, fun c1 => ?_⟩
    · show mm_u _ _ _ _ _ _ [some (.ref 96), some (.int a1), some (.int a2), some (.int a3), some (.int r1)] [.int a3, .ref 97] (((mm_fl b0 b1 true), n1, n2, p, q, ad), I1, J1)
      show mm_wc d 109 [.ref 96, .int r1] (((mm_fl b0 b1 true), 0, 0, p, q, ad), I1, J1) _
      refine mm_wcm (h1.1 c1) ?_
      rintro v τ ⟨r2, I2, J2, rfl, rfl, h2⟩
      refine mm_r1' ⟨rfl, ?_⟩
      show mm_b _ _ _ _ _ [some (.ref 96), some (.int a1), some (.int a2), some (.int a3), some (.int r1)] [.int r2, .int a3, .ref 97] (((mm_fl b0 b1 true), n1, n2, p, q, ad), I2, J2)
      show vp_in a3 320 ∧ _
      refine ⟨h2.1, ?_⟩
      exact h2.2
    · show mm_b _ _ _ _ _ [some (.ref 96), some (.int a1), some (.int a2), some (.int a3), some (.int r1)] [.int a3, .ref 97] (((mm_fl b0 b1 true), n1, n2, p, q, ad), I1, J1)
      show mm_wc d 110 [.ref 96, .int r1] (((mm_fl b0 b1 true), 0, 0, p, q, ad), I1, J1) _
      refine mm_wcm (h1.2 c1) ?_
      rintro v τ ⟨r3, I3, J3, rfl, rfl, h3⟩
      refine mm_r1' ⟨rfl, ?_⟩
      show mm_b _ _ _ _ _ [some (.ref 96), some (.int a1), some (.int a2), some (.int a3), some (.int r1)] [.int r3, .int a3, .ref 97] (((mm_fl b0 b1 true), n1, n2, p, q, ad), I3, J3)
      show vp_in a3 320 ∧ _
      refine ⟨h3.1, ?_⟩
      exact h3.2
/- 109 ThreeBreaths$Traces countLast -/
theorem fx_109 {d : Nat} {x0 : Int32} {b0 b1 : Bool} {n1 n2 : Nat} {p q : Bool} {ad : Nat → Nat} {I : mmI} {J : mmJ} {Q : mmQ} (h : mm_w Q (mm_wc d) bk_109 4 [some (.ref 96), some (.int x0), some (.int (nI 0)), some (.int (nI 0))] [] (((mm_fl b0 b1 true), n1, n2, p, q, ad), I, J)) : mm_wc (d + 1) 109 [.ref 96, .int x0] (((mm_fl b0 b1 true), n1, n2, p, q, ad), I, J) Q := by
  refine mm_call (c := 109) rfl rfl ?_
  refine mm_go [4] 80 ?_
  exact h
theorem fx_109_4 {d : Nat} {a1 : Int32} {a2 : Int32} {a3 : Int32} {b0 b1 : Bool} {n1 n2 : Nat} {p q : Bool} {ad : Nat → Nat} {I : mmI} {J : mmJ} {Q : mmQ} (h : (((I 6 7) ≤ a3 → Q (some (.int a2)) (((mm_fl b0 b1 true), n1, n2, p, q, ad), I, J)) ∧ (¬ (I 6 7) ≤ a3 → (vp_in a3 320 ∧ (vp_in a3 320 ∧ mm_wc d 24 [.ref 6, .int a1, .int (I 9 a3.toNatClampNeg)] (((mm_fl b0 b1 true), 0, 0, p, q, ad), I, J) (fun v τ => ∃ r1 I1 J1, v = some (.int r1) ∧ τ = (((mm_fl b0 b1 true), 0, 0, p, q, ad), I1, J1) ∧ mm_wc d 110 [.ref 96, .int r1] (((mm_fl b0 b1 true), 0, 0, p, q, ad), I1, J1) (fun v τ => ∃ r2 I2 J2, v = some (.int r2) ∧ τ = (((mm_fl b0 b1 true), 0, 0, p, q, ad), I2, J2) ∧ mm_w Q (mm_wc d) bk_109 4 [some (.ref 96), some (.int a1), some (.int (a2 + ((I 10 a3.toNatClampNeg) * r2))), some (.int (a3 + (nI 1)))] [] (((mm_fl b0 b1 true), n1, n2, p, q, ad), I2, J2)))))))) : mm_w Q (mm_wc (d)) bk_109 4 [some (.ref 96), some (.int a1), some (.int a2), some (.int a3)] [] (((mm_fl b0 b1 true), n1, n2, p, q, ad), I, J) := by
  refine mm_go [4] 80 ?_
  show ((I 6 7) ≤ a3 → _) ∧ (¬ (I 6 7) ≤ a3 → _)
  refine ⟨fun c0 => ?_, fun c0 => ?_⟩
  · exact (h.1 c0)
  · show mm_b _ _ _ _ _ [some (.ref 96), some (.int a1), some (.int a2), some (.int a3)] [] (((mm_fl b0 b1 true), n1, n2, p, q, ad), I, J)
    show vp_in a3 320 ∧ _
    refine ⟨(h.2 c0).1, ?_⟩
    show mm_b _ _ _ _ _ [some (.ref 96), some (.int a1), some (.int a2), some (.int a3)] [.int (I 10 a3.toNatClampNeg), .int a2] (((mm_fl b0 b1 true), n1, n2, p, q, ad), I, J)
    show vp_in a3 320 ∧ _
    refine ⟨(h.2 c0).2.1, ?_⟩
    show mm_b _ _ _ _ _ [some (.ref 96), some (.int a1), some (.int a2), some (.int a3)] [.int (I 9 a3.toNatClampNeg), .int a1, .ref 6, .ref 96, .int (I 10 a3.toNatClampNeg), .int a2] (((mm_fl b0 b1 true), n1, n2, p, q, ad), I, J)
    show mm_wc d 24 [.ref 6, .int a1, .int (I 9 a3.toNatClampNeg)] (((mm_fl b0 b1 true), 0, 0, p, q, ad), I, J) _
    refine mm_wcm ((h.2 c0).2.2) ?_
    rintro v τ ⟨r1, I1, J1, rfl, rfl, h1⟩
    refine mm_r1' ⟨rfl, ?_⟩
    show mm_b _ _ _ _ _ [some (.ref 96), some (.int a1), some (.int a2), some (.int a3)] [.int r1, .ref 96, .int (I 10 a3.toNatClampNeg), .int a2] (((mm_fl b0 b1 true), n1, n2, p, q, ad), I1, J1)
    show mm_wc d 110 [.ref 96, .int r1] (((mm_fl b0 b1 true), 0, 0, p, q, ad), I1, J1) _
    refine mm_wcm h1 ?_
    rintro v τ ⟨r2, I2, J2, rfl, rfl, h2⟩
    refine mm_r1' ⟨rfl, ?_⟩
    exact h2
/- 110 ThreeBreaths$Traces isLeft -/
theorem fx_110 {d : Nat} {x0 : Int32} {b0 b1 : Bool} {n1 n2 : Nat} {p q : Bool} {ad : Nat → Nat} {I : mmI} {J : mmJ} {Q : mmQ} (h : mm_wc d 17 [.ref 6, .int x0] (((mm_fl b0 b1 true), 0, 0, p, q, ad), I, J) (fun v τ => ∃ r1 I1 J1, v = some (.int r1) ∧ τ = (((mm_fl b0 b1 true), 0, 0, p, q, ad), I1, J1) ∧ ((¬ r1 = (I1 (mm_ck p 0) 11) → Q (some (.int (nI 0))) (((mm_fl b0 b1 true), n1, n2, p, q, ad), I1, J1)) ∧ (r1 = (I1 (mm_ck p 0) 11) → Q (some (.int (nI 1))) (((mm_fl b0 b1 true), n1, n2, p, q, ad), I1, J1))))) : mm_wc (d + 1) 110 [.ref 96, .int x0] (((mm_fl b0 b1 true), n1, n2, p, q, ad), I, J) Q := by
  cases p
  · refine mm_call (c := 110) rfl rfl ?_
    refine mm_go [] 80 ?_
    show mm_wc d 17 [.ref 6, .int x0] (((mm_fl b0 b1 true), 0, 0, false, q, ad), I, J) _
    refine mm_wcm h ?_
    rintro v τ ⟨r1, I1, J1, rfl, rfl, h1⟩
    refine mm_r1' ⟨rfl, ?_⟩
    show mm_b _ _ _ _ _ [some (.ref 96), some (.int x0)] [.int r1] (((mm_fl b0 b1 true), n1, n2, false, q, ad), I1, J1)
    show (¬ r1 = (I1 32 11) → _) ∧ (r1 = (I1 32 11) → _)
    refine ⟨fun c0 => ?_, fun c0 => ?_⟩
    · exact (h1.1 c0)
    · exact (h1.2 c0)
  · refine mm_call (c := 110) rfl rfl ?_
    refine mm_go [] 80 ?_
    show mm_wc d 17 [.ref 6, .int x0] (((mm_fl b0 b1 true), 0, 0, true, q, ad), I, J) _
    refine mm_wcm h ?_
    rintro v τ ⟨r1, I1, J1, rfl, rfl, h1⟩
    refine mm_r1' ⟨rfl, ?_⟩
    show mm_b _ _ _ _ _ [some (.ref 96), some (.int x0)] [.int r1] (((mm_fl b0 b1 true), n1, n2, true, q, ad), I1, J1)
    show (¬ r1 = (I1 18 11) → _) ∧ (r1 = (I1 18 11) → _)
    refine ⟨fun c0 => ?_, fun c0 => ?_⟩
    · exact (h1.1 c0)
    · exact (h1.2 c0)
/- 278 java/lang/Integer bitCount -/
theorem fx_278 {d : Nat} {x0 : Int32} {fl : Nat → Bool} {n1 n2 : Nat} {p q : Bool} {ad : Nat → Nat} {I : mmI} {J : mmJ} {Q : mmQ} (h : Q (some (.int ((((((((x0 - ((((x0 : Int32).toUInt32 >>> (((nI 1) : Int32).toUInt32 &&& Int32.toUInt32 31)).toInt32) &&& (nI 1431655765))) &&& (nI 858993459)) + (((((x0 - ((((x0 : Int32).toUInt32 >>> (((nI 1) : Int32).toUInt32 &&& Int32.toUInt32 31)).toInt32) &&& (nI 1431655765))) : Int32).toUInt32 >>> (((nI 2) : Int32).toUInt32 &&& Int32.toUInt32 31)).toInt32) &&& (nI 858993459))) + ((((((x0 - ((((x0 : Int32).toUInt32 >>> (((nI 1) : Int32).toUInt32 &&& Int32.toUInt32 31)).toInt32) &&& (nI 1431655765))) &&& (nI 858993459)) + (((((x0 - ((((x0 : Int32).toUInt32 >>> (((nI 1) : Int32).toUInt32 &&& Int32.toUInt32 31)).toInt32) &&& (nI 1431655765))) : Int32).toUInt32 >>> (((nI 2) : Int32).toUInt32 &&& Int32.toUInt32 31)).toInt32) &&& (nI 858993459))) : Int32).toUInt32 >>> (((nI 4) : Int32).toUInt32 &&& Int32.toUInt32 31)).toInt32)) &&& (nI 252645135)) + ((((((((x0 - ((((x0 : Int32).toUInt32 >>> (((nI 1) : Int32).toUInt32 &&& Int32.toUInt32 31)).toInt32) &&& (nI 1431655765))) &&& (nI 858993459)) + (((((x0 - ((((x0 : Int32).toUInt32 >>> (((nI 1) : Int32).toUInt32 &&& Int32.toUInt32 31)).toInt32) &&& (nI 1431655765))) : Int32).toUInt32 >>> (((nI 2) : Int32).toUInt32 &&& Int32.toUInt32 31)).toInt32) &&& (nI 858993459))) + ((((((x0 - ((((x0 : Int32).toUInt32 >>> (((nI 1) : Int32).toUInt32 &&& Int32.toUInt32 31)).toInt32) &&& (nI 1431655765))) &&& (nI 858993459)) + (((((x0 - ((((x0 : Int32).toUInt32 >>> (((nI 1) : Int32).toUInt32 &&& Int32.toUInt32 31)).toInt32) &&& (nI 1431655765))) : Int32).toUInt32 >>> (((nI 2) : Int32).toUInt32 &&& Int32.toUInt32 31)).toInt32) &&& (nI 858993459))) : Int32).toUInt32 >>> (((nI 4) : Int32).toUInt32 &&& Int32.toUInt32 31)).toInt32)) &&& (nI 252645135)) : Int32).toUInt32 >>> (((nI 8) : Int32).toUInt32 &&& Int32.toUInt32 31)).toInt32)) + (((((((((x0 - ((((x0 : Int32).toUInt32 >>> (((nI 1) : Int32).toUInt32 &&& Int32.toUInt32 31)).toInt32) &&& (nI 1431655765))) &&& (nI 858993459)) + (((((x0 - ((((x0 : Int32).toUInt32 >>> (((nI 1) : Int32).toUInt32 &&& Int32.toUInt32 31)).toInt32) &&& (nI 1431655765))) : Int32).toUInt32 >>> (((nI 2) : Int32).toUInt32 &&& Int32.toUInt32 31)).toInt32) &&& (nI 858993459))) + ((((((x0 - ((((x0 : Int32).toUInt32 >>> (((nI 1) : Int32).toUInt32 &&& Int32.toUInt32 31)).toInt32) &&& (nI 1431655765))) &&& (nI 858993459)) + (((((x0 - ((((x0 : Int32).toUInt32 >>> (((nI 1) : Int32).toUInt32 &&& Int32.toUInt32 31)).toInt32) &&& (nI 1431655765))) : Int32).toUInt32 >>> (((nI 2) : Int32).toUInt32 &&& Int32.toUInt32 31)).toInt32) &&& (nI 858993459))) : Int32).toUInt32 >>> (((nI 4) : Int32).toUInt32 &&& Int32.toUInt32 31)).toInt32)) &&& (nI 252645135)) + ((((((((x0 - ((((x0 : Int32).toUInt32 >>> (((nI 1) : Int32).toUInt32 &&& Int32.toUInt32 31)).toInt32) &&& (nI 1431655765))) &&& (nI 858993459)) + (((((x0 - ((((x0 : Int32).toUInt32 >>> (((nI 1) : Int32).toUInt32 &&& Int32.toUInt32 31)).toInt32) &&& (nI 1431655765))) : Int32).toUInt32 >>> (((nI 2) : Int32).toUInt32 &&& Int32.toUInt32 31)).toInt32) &&& (nI 858993459))) + ((((((x0 - ((((x0 : Int32).toUInt32 >>> (((nI 1) : Int32).toUInt32 &&& Int32.toUInt32 31)).toInt32) &&& (nI 1431655765))) &&& (nI 858993459)) + (((((x0 - ((((x0 : Int32).toUInt32 >>> (((nI 1) : Int32).toUInt32 &&& Int32.toUInt32 31)).toInt32) &&& (nI 1431655765))) : Int32).toUInt32 >>> (((nI 2) : Int32).toUInt32 &&& Int32.toUInt32 31)).toInt32) &&& (nI 858993459))) : Int32).toUInt32 >>> (((nI 4) : Int32).toUInt32 &&& Int32.toUInt32 31)).toInt32)) &&& (nI 252645135)) : Int32).toUInt32 >>> (((nI 8) : Int32).toUInt32 &&& Int32.toUInt32 31)).toInt32)) : Int32).toUInt32 >>> (((nI 16) : Int32).toUInt32 &&& Int32.toUInt32 31)).toInt32)) &&& (nI 63)))) ((fl, n1, n2, p, q, ad), I, J)) : mm_wc (d + 1) 278 [.int x0] ((fl, n1, n2, p, q, ad), I, J) Q := by
  refine mm_call (c := 278) rfl rfl ?_
  refine mm_go [] 80 ?_
  exact h
/- 279 java/util/Arrays fill -/
theorem fx_279_11 {d : Nat} {x1 : Int32} {fl : Nat → Bool} {n1 n2 : Nat} {p q : Bool} {ad : Nat → Nat} {I : mmI} {J : mmJ} {Q : mmQ} (h : mm_w Q (mm_wc d) bk_279 5 [some (.ref 11), some (.int x1), some (.int (nI 0)), some (.int (nI 1024))] [] ((fl, n1, n2, p, q, ad), I, J)) : mm_wc (d + 1) 279 [.ref 11, .int x1] ((fl, n1, n2, p, q, ad), I, J) Q := by
  refine mm_call (c := 279) rfl rfl ?_
  refine mm_go [5] 80 ?_
  exact h
theorem fx_279_11_5 {d : Nat} {a1 : Int32} {a2 : Int32} {a3 : Int32} {fl : Nat → Bool} {n1 n2 : Nat} {p q : Bool} {ad : Nat → Nat} {I : mmI} {J : mmJ} {Q : mmQ} (h : ((a3 ≤ a2 → Q none ((fl, n1, n2, p, q, ad), I, J)) ∧ (¬ a3 ≤ a2 → (vp_in a2 1024 ∧ mm_w Q (mm_wc d) bk_279 5 [some (.ref 11), some (.int a1), some (.int (a2 + (nI 1))), some (.int a3)] [] ((fl, n1, n2, p, q, ad), (mm_up I 11 a2.toNatClampNeg a1), J))))) : mm_w Q (mm_wc (d)) bk_279 5 [some (.ref 11), some (.int a1), some (.int a2), some (.int a3)] [] ((fl, n1, n2, p, q, ad), I, J) := by
  refine mm_go [5] 80 ?_
  show (a3 ≤ a2 → _) ∧ (¬ a3 ≤ a2 → _)
  refine ⟨fun c0 => ?_, fun c0 => ?_⟩
  · exact (h.1 c0)
  · show mm_b _ _ _ _ _ [some (.ref 11), some (.int a1), some (.int a2), some (.int a3)] [] ((fl, n1, n2, p, q, ad), I, J)
    show vp_in a2 1024 ∧ _
    refine ⟨(h.2 c0).1, ?_⟩
    exact (h.2 c0).2
/- 279 java/util/Arrays fill -/
theorem fx_279_13 {d : Nat} {x1 : Int32} {fl : Nat → Bool} {n1 n2 : Nat} {p q : Bool} {ad : Nat → Nat} {I : mmI} {J : mmJ} {Q : mmQ} (h : mm_w Q (mm_wc d) bk_279 5 [some (.ref 13), some (.int x1), some (.int (nI 0)), some (.int (nI 3))] [] ((fl, n1, n2, p, q, ad), I, J)) : mm_wc (d + 1) 279 [.ref 13, .int x1] ((fl, n1, n2, p, q, ad), I, J) Q := by
  refine mm_call (c := 279) rfl rfl ?_
  refine mm_go [5] 80 ?_
  exact h
theorem fx_279_13_5 {d : Nat} {a1 : Int32} {a2 : Int32} {a3 : Int32} {fl : Nat → Bool} {n1 n2 : Nat} {p q : Bool} {ad : Nat → Nat} {I : mmI} {J : mmJ} {Q : mmQ} (h : ((a3 ≤ a2 → Q none ((fl, n1, n2, p, q, ad), I, J)) ∧ (¬ a3 ≤ a2 → (vp_in a2 3 ∧ mm_w Q (mm_wc d) bk_279 5 [some (.ref 13), some (.int a1), some (.int (a2 + (nI 1))), some (.int a3)] [] ((fl, n1, n2, p, q, ad), (mm_up I 13 a2.toNatClampNeg a1), J))))) : mm_w Q (mm_wc (d)) bk_279 5 [some (.ref 13), some (.int a1), some (.int a2), some (.int a3)] [] ((fl, n1, n2, p, q, ad), I, J) := by
  refine mm_go [5] 80 ?_
  show (a3 ≤ a2 → _) ∧ (¬ a3 ≤ a2 → _)
  refine ⟨fun c0 => ?_, fun c0 => ?_⟩
  · exact (h.1 c0)
  · show mm_b _ _ _ _ _ [some (.ref 13), some (.int a1), some (.int a2), some (.int a3)] [] ((fl, n1, n2, p, q, ad), I, J)
    show vp_in a2 3 ∧ _
    refine ⟨(h.2 c0).1, ?_⟩
    exact (h.2 c0).2
/- 279 java/util/Arrays fill -/
theorem fx_279_71 {d : Nat} {x1 : Int32} {b1 b2 : Bool} {n1 n2 : Nat} {p q : Bool} {ad : Nat → Nat} {I : mmI} {J : mmJ} {Q : mmQ} (h : mm_w Q (mm_wc d) bk_279 5 [some (.ref 71), some (.int x1), some (.int (nI 0)), some (.int (nI 16384))] [] (((mm_fl true b1 b2), n1, n2, p, q, ad), I, J)) : mm_wc (d + 1) 279 [.ref 71, .int x1] (((mm_fl true b1 b2), n1, n2, p, q, ad), I, J) Q := by
  refine mm_call (c := 279) rfl rfl ?_
  refine mm_go [5] 80 ?_
  exact h
theorem fx_279_71_5 {d : Nat} {a1 : Int32} {a2 : Int32} {a3 : Int32} {b1 b2 : Bool} {n1 n2 : Nat} {p q : Bool} {ad : Nat → Nat} {I : mmI} {J : mmJ} {Q : mmQ} (h : ((a3 ≤ a2 → Q none (((mm_fl true b1 b2), n1, n2, p, q, ad), I, J)) ∧ (¬ a3 ≤ a2 → (vp_in a2 16384 ∧ mm_w Q (mm_wc d) bk_279 5 [some (.ref 71), some (.int a1), some (.int (a2 + (nI 1))), some (.int a3)] [] (((mm_fl true b1 b2), n1, n2, p, q, ad), (mm_up I 71 a2.toNatClampNeg a1), J))))) : mm_w Q (mm_wc (d)) bk_279 5 [some (.ref 71), some (.int a1), some (.int a2), some (.int a3)] [] (((mm_fl true b1 b2), n1, n2, p, q, ad), I, J) := by
  refine mm_go [5] 80 ?_
  show (a3 ≤ a2 → _) ∧ (¬ a3 ≤ a2 → _)
  refine ⟨fun c0 => ?_, fun c0 => ?_⟩
  · exact (h.1 c0)
  · show mm_b _ _ _ _ _ [some (.ref 71), some (.int a1), some (.int a2), some (.int a3)] [] (((mm_fl true b1 b2), n1, n2, p, q, ad), I, J)
    show vp_in a2 16384 ∧ _
    refine ⟨(h.2 c0).1, ?_⟩
    exact (h.2 c0).2
/- 279 java/util/Arrays fill -/
theorem fx_279_83 {d : Nat} {x1 : Int32} {b0 b2 : Bool} {n1 n2 : Nat} {p q : Bool} {ad : Nat → Nat} {I : mmI} {J : mmJ} {Q : mmQ} (h : mm_w Q (mm_wc d) bk_279 5 [some (.ref 83), some (.int x1), some (.int (nI 0)), some (.int (nI 8192))] [] (((mm_fl b0 true b2), n1, n2, p, q, ad), I, J)) : mm_wc (d + 1) 279 [.ref 83, .int x1] (((mm_fl b0 true b2), n1, n2, p, q, ad), I, J) Q := by
  refine mm_call (c := 279) rfl rfl ?_
  refine mm_go [5] 80 ?_
  exact h
theorem fx_279_83_5 {d : Nat} {a1 : Int32} {a2 : Int32} {a3 : Int32} {b0 b2 : Bool} {n1 n2 : Nat} {p q : Bool} {ad : Nat → Nat} {I : mmI} {J : mmJ} {Q : mmQ} (h : ((a3 ≤ a2 → Q none (((mm_fl b0 true b2), n1, n2, p, q, ad), I, J)) ∧ (¬ a3 ≤ a2 → (vp_in a2 8192 ∧ mm_w Q (mm_wc d) bk_279 5 [some (.ref 83), some (.int a1), some (.int (a2 + (nI 1))), some (.int a3)] [] (((mm_fl b0 true b2), n1, n2, p, q, ad), (mm_up I 83 a2.toNatClampNeg a1), J))))) : mm_w Q (mm_wc (d)) bk_279 5 [some (.ref 83), some (.int a1), some (.int a2), some (.int a3)] [] (((mm_fl b0 true b2), n1, n2, p, q, ad), I, J) := by
  refine mm_go [5] 80 ?_
  show (a3 ≤ a2 → _) ∧ (¬ a3 ≤ a2 → _)
  refine ⟨fun c0 => ?_, fun c0 => ?_⟩
  · exact (h.1 c0)
  · show mm_b _ _ _ _ _ [some (.ref 83), some (.int a1), some (.int a2), some (.int a3)] [] (((mm_fl b0 true b2), n1, n2, p, q, ad), I, J)
    show vp_in a2 8192 ∧ _
    refine ⟨(h.2 c0).1, ?_⟩
    exact (h.2 c0).2
/- 279 java/util/Arrays fill -/
theorem fx_279_84 {d : Nat} {x1 : Int32} {b0 b2 : Bool} {n1 n2 : Nat} {p q : Bool} {ad : Nat → Nat} {I : mmI} {J : mmJ} {Q : mmQ} (h : mm_w Q (mm_wc d) bk_279 5 [some (.ref 84), some (.int x1), some (.int (nI 0)), some (.int (nI 8192))] [] (((mm_fl b0 true b2), n1, n2, p, q, ad), I, J)) : mm_wc (d + 1) 279 [.ref 84, .int x1] (((mm_fl b0 true b2), n1, n2, p, q, ad), I, J) Q := by
  refine mm_call (c := 279) rfl rfl ?_
  refine mm_go [5] 80 ?_
  exact h
theorem fx_279_84_5 {d : Nat} {a1 : Int32} {a2 : Int32} {a3 : Int32} {b0 b2 : Bool} {n1 n2 : Nat} {p q : Bool} {ad : Nat → Nat} {I : mmI} {J : mmJ} {Q : mmQ} (h : ((a3 ≤ a2 → Q none (((mm_fl b0 true b2), n1, n2, p, q, ad), I, J)) ∧ (¬ a3 ≤ a2 → (vp_in a2 8192 ∧ mm_w Q (mm_wc d) bk_279 5 [some (.ref 84), some (.int a1), some (.int (a2 + (nI 1))), some (.int a3)] [] (((mm_fl b0 true b2), n1, n2, p, q, ad), (mm_up I 84 a2.toNatClampNeg a1), J))))) : mm_w Q (mm_wc (d)) bk_279 5 [some (.ref 84), some (.int a1), some (.int a2), some (.int a3)] [] (((mm_fl b0 true b2), n1, n2, p, q, ad), I, J) := by
  refine mm_go [5] 80 ?_
  show (a3 ≤ a2 → _) ∧ (¬ a3 ≤ a2 → _)
  refine ⟨fun c0 => ?_, fun c0 => ?_⟩
  · exact (h.1 c0)
  · show mm_b _ _ _ _ _ [some (.ref 84), some (.int a1), some (.int a2), some (.int a3)] [] (((mm_fl b0 true b2), n1, n2, p, q, ad), I, J)
    show vp_in a2 8192 ∧ _
    refine ⟨(h.2 c0).1, ?_⟩
    exact (h.2 c0).2
/- 279 java/util/Arrays fill -/
theorem fx_279_86 {d : Nat} {x1 : Int32} {b0 b2 : Bool} {n1 n2 : Nat} {p q : Bool} {ad : Nat → Nat} {I : mmI} {J : mmJ} {Q : mmQ} (h : mm_w Q (mm_wc d) bk_279 5 [some (.ref 86), some (.int x1), some (.int (nI 0)), some (.int (nI 8192))] [] (((mm_fl b0 true b2), n1, n2, p, q, ad), I, J)) : mm_wc (d + 1) 279 [.ref 86, .int x1] (((mm_fl b0 true b2), n1, n2, p, q, ad), I, J) Q := by
  refine mm_call (c := 279) rfl rfl ?_
  refine mm_go [5] 80 ?_
  exact h
theorem fx_279_86_5 {d : Nat} {a1 : Int32} {a2 : Int32} {a3 : Int32} {b0 b2 : Bool} {n1 n2 : Nat} {p q : Bool} {ad : Nat → Nat} {I : mmI} {J : mmJ} {Q : mmQ} (h : ((a3 ≤ a2 → Q none (((mm_fl b0 true b2), n1, n2, p, q, ad), I, J)) ∧ (¬ a3 ≤ a2 → (vp_in a2 8192 ∧ mm_w Q (mm_wc d) bk_279 5 [some (.ref 86), some (.int a1), some (.int (a2 + (nI 1))), some (.int a3)] [] (((mm_fl b0 true b2), n1, n2, p, q, ad), (mm_up I 86 a2.toNatClampNeg a1), J))))) : mm_w Q (mm_wc (d)) bk_279 5 [some (.ref 86), some (.int a1), some (.int a2), some (.int a3)] [] (((mm_fl b0 true b2), n1, n2, p, q, ad), I, J) := by
  refine mm_go [5] 80 ?_
  show (a3 ≤ a2 → _) ∧ (¬ a3 ≤ a2 → _)
  refine ⟨fun c0 => ?_, fun c0 => ?_⟩
  · exact (h.1 c0)
  · show mm_b _ _ _ _ _ [some (.ref 86), some (.int a1), some (.int a2), some (.int a3)] [] (((mm_fl b0 true b2), n1, n2, p, q, ad), I, J)
    show vp_in a2 8192 ∧ _
    refine ⟨(h.2 c0).1, ?_⟩
    exact (h.2 c0).2
/- 279 java/util/Arrays fill -/
theorem fx_279_87 {d : Nat} {x1 : Int32} {b0 b2 : Bool} {n1 n2 : Nat} {p q : Bool} {ad : Nat → Nat} {I : mmI} {J : mmJ} {Q : mmQ} (h : mm_w Q (mm_wc d) bk_279 5 [some (.ref 87), some (.int x1), some (.int (nI 0)), some (.int (nI 8192))] [] (((mm_fl b0 true b2), n1, n2, p, q, ad), I, J)) : mm_wc (d + 1) 279 [.ref 87, .int x1] (((mm_fl b0 true b2), n1, n2, p, q, ad), I, J) Q := by
  refine mm_call (c := 279) rfl rfl ?_
  refine mm_go [5] 80 ?_
  exact h
theorem fx_279_87_5 {d : Nat} {a1 : Int32} {a2 : Int32} {a3 : Int32} {b0 b2 : Bool} {n1 n2 : Nat} {p q : Bool} {ad : Nat → Nat} {I : mmI} {J : mmJ} {Q : mmQ} (h : ((a3 ≤ a2 → Q none (((mm_fl b0 true b2), n1, n2, p, q, ad), I, J)) ∧ (¬ a3 ≤ a2 → (vp_in a2 8192 ∧ mm_w Q (mm_wc d) bk_279 5 [some (.ref 87), some (.int a1), some (.int (a2 + (nI 1))), some (.int a3)] [] (((mm_fl b0 true b2), n1, n2, p, q, ad), (mm_up I 87 a2.toNatClampNeg a1), J))))) : mm_w Q (mm_wc (d)) bk_279 5 [some (.ref 87), some (.int a1), some (.int a2), some (.int a3)] [] (((mm_fl b0 true b2), n1, n2, p, q, ad), I, J) := by
  refine mm_go [5] 80 ?_
  show (a3 ≤ a2 → _) ∧ (¬ a3 ≤ a2 → _)
  refine ⟨fun c0 => ?_, fun c0 => ?_⟩
  · exact (h.1 c0)
  · show mm_b _ _ _ _ _ [some (.ref 87), some (.int a1), some (.int a2), some (.int a3)] [] (((mm_fl b0 true b2), n1, n2, p, q, ad), I, J)
    show vp_in a2 8192 ∧ _
    refine ⟨(h.2 c0).1, ?_⟩
    exact (h.2 c0).2
/- 280 ThreeBreaths$Odds weighMeans -/
theorem fx_280_n1 {d : Nat} {x0 : Int32} {b0 b2 : Bool} {n1 n2 : Nat} {p q : Bool} {ad : Nat → Nat} {I : mmI} {J : mmJ} {Q : mmQ} (h : mm_w Q (mm_wc d) bk_280 2 [some (.ref 81), some (.int x0), some (.int (nI 1)), some (.int (nI 0))] [] (((mm_fl b0 true b2), n1, n2, p, q, ad), I, J)) : mm_wc (d + 1) 280 [.ref 81, .int x0, .int (nI 1)] (((mm_fl b0 true b2), n1, n2, p, q, ad), I, J) Q := by
  refine mm_call (c := 280) rfl rfl ?_
  refine mm_go [2] 80 ?_
  exact h
theorem fx_280_n1_2 {d : Nat} {a1 : Int32} {a3 : Int32} {b0 b2 : Bool} {n1 n2 : Nat} {p q : Bool} {ad : Nat → Nat} {I : mmI} {J : mmJ} {Q : mmQ} (h : (((I 6 7) ≤ a3 → Q none (((mm_fl b0 true b2), n1, n2, p, q, ad), I, J)) ∧ (¬ (I 6 7) ≤ a3 → (vp_in a3 320 ∧ mm_wc d 24 [.ref 6, .int a1, .int (I 9 a3.toNatClampNeg)] (((mm_fl b0 true b2), 0, 0, p, q, ad), I, J) (fun v τ => ∃ r1 I1 J1, v = some (.int r1) ∧ τ = (((mm_fl b0 true b2), 0, 0, p, q, ad), I1, J1) ∧ mm_wc d 48 [.ref 81, .int r1, .int (nI 0)] (((mm_fl b0 true b2), 0, 0, p, q, ad), I1, J1) (fun v τ => ∃ r2 I2 J2, v = some (.int r2) ∧ τ = (((mm_fl b0 true b2), 0, 0, p, q, ad), I2, J2) ∧ (vp_in a3 320 ∧ mm_w Q (mm_wc d) bk_280 2 [some (.ref 81), some (.int a1), some (.int (nI 1)), some (.int (a3 + (nI 1)))] [] (((mm_fl b0 true b2), n1, n2, p, q, ad), (mm_up I2 89 a3.toNatClampNeg r2), J2)))))))) : mm_w Q (mm_wc (d)) bk_280 2 [some (.ref 81), some (.int a1), some (.int (nI 1)), some (.int a3)] [] (((mm_fl b0 true b2), n1, n2, p, q, ad), I, J) := by
  refine mm_go [2] 80 ?_
  show ((I 6 7) ≤ a3 → _) ∧ (¬ (I 6 7) ≤ a3 → _)
  refine ⟨fun c0 => ?_, fun c0 => ?_⟩
  · exact (h.1 c0)
  · show mm_b _ _ _ _ _ [some (.ref 81), some (.int a1), some (.int (nI 1)), some (.int a3)] [] (((mm_fl b0 true b2), n1, n2, p, q, ad), I, J)
    show (vp_in (nI 0) 3) ∧ _
    refine ⟨(mm_inl (by decide)), ?_⟩
    show mm_b _ _ _ _ _ [some (.ref 81), some (.int a1), some (.int (nI 1)), some (.int a3)] [.ref 89] (((mm_fl b0 true b2), n1, n2, p, q, ad), I, J)
    show vp_in a3 320 ∧ _
    refine ⟨(h.2 c0).1, ?_⟩
    show mm_b _ _ _ _ _ [some (.ref 81), some (.int a1), some (.int (nI 1)), some (.int a3)] [.int (I 9 a3.toNatClampNeg), .int a1, .ref 6, .ref 81, .int a3, .ref 89] (((mm_fl b0 true b2), n1, n2, p, q, ad), I, J)
    show mm_wc d 24 [.ref 6, .int a1, .int (I 9 a3.toNatClampNeg)] (((mm_fl b0 true b2), 0, 0, p, q, ad), I, J) _
    refine mm_wcm ((h.2 c0).2) ?_
    rintro v τ ⟨r1, I1, J1, rfl, rfl, h1⟩
    refine mm_r1' ⟨rfl, ?_⟩
    show mm_b _ _ _ _ _ [some (.ref 81), some (.int a1), some (.int (nI 1)), some (.int a3)] [.int r1, .ref 81, .int a3, .ref 89] (((mm_fl b0 true b2), n1, n2, p, q, ad), I1, J1)
    show mm_wc d 48 [.ref 81, .int r1, .int (nI 0)] (((mm_fl b0 true b2), 0, 0, p, q, ad), I1, J1) _
    refine mm_wcm h1 ?_
    rintro v τ ⟨r2, I2, J2, rfl, rfl, h2⟩
    refine mm_r1' ⟨rfl, ?_⟩
    show mm_b _ _ _ _ _ [some (.ref 81), some (.int a1), some (.int (nI 1)), some (.int a3)] [.int r2, .int a3, .ref 89] (((mm_fl b0 true b2), n1, n2, p, q, ad), I2, J2)
    show vp_in a3 320 ∧ _
    refine ⟨h2.1, ?_⟩
    exact h2.2
/- 280 ThreeBreaths$Odds weighMeans -/
theorem fx_280_n2 {d : Nat} {x0 : Int32} {b0 b2 : Bool} {n1 n2 : Nat} {p q : Bool} {ad : Nat → Nat} {I : mmI} {J : mmJ} {Q : mmQ} (h : mm_w Q (mm_wc d) bk_280 2 [some (.ref 81), some (.int x0), some (.int (nI 2)), some (.int (nI 0))] [] (((mm_fl b0 true b2), n1, n2, p, q, ad), I, J)) : mm_wc (d + 1) 280 [.ref 81, .int x0, .int (nI 2)] (((mm_fl b0 true b2), n1, n2, p, q, ad), I, J) Q := by
  refine mm_call (c := 280) rfl rfl ?_
  refine mm_go [2] 80 ?_
  exact h
theorem fx_280_n2_2 {d : Nat} {a1 : Int32} {a3 : Int32} {b0 b2 : Bool} {n1 n2 : Nat} {p q : Bool} {ad : Nat → Nat} {I : mmI} {J : mmJ} {Q : mmQ} (h : (((I 6 7) ≤ a3 → Q none (((mm_fl b0 true b2), n1, n2, p, q, ad), I, J)) ∧ (¬ (I 6 7) ≤ a3 → (vp_in a3 320 ∧ mm_wc d 24 [.ref 6, .int a1, .int (I 9 a3.toNatClampNeg)] (((mm_fl b0 true b2), 0, 0, p, q, ad), I, J) (fun v τ => ∃ r1 I1 J1, v = some (.int r1) ∧ τ = (((mm_fl b0 true b2), 0, 0, p, q, ad), I1, J1) ∧ mm_wc d 48 [.ref 81, .int r1, .int (nI 1)] (((mm_fl b0 true b2), 0, 0, p, q, ad), I1, J1) (fun v τ => ∃ r2 I2 J2, v = some (.int r2) ∧ τ = (((mm_fl b0 true b2), 0, 0, p, q, ad), I2, J2) ∧ (vp_in a3 320 ∧ mm_w Q (mm_wc d) bk_280 2 [some (.ref 81), some (.int a1), some (.int (nI 2)), some (.int (a3 + (nI 1)))] [] (((mm_fl b0 true b2), n1, n2, p, q, ad), (mm_up I2 90 a3.toNatClampNeg r2), J2)))))))) : mm_w Q (mm_wc (d)) bk_280 2 [some (.ref 81), some (.int a1), some (.int (nI 2)), some (.int a3)] [] (((mm_fl b0 true b2), n1, n2, p, q, ad), I, J) := by
  refine mm_go [2] 80 ?_
  show ((I 6 7) ≤ a3 → _) ∧ (¬ (I 6 7) ≤ a3 → _)
  refine ⟨fun c0 => ?_, fun c0 => ?_⟩
  · exact (h.1 c0)
  · show mm_b _ _ _ _ _ [some (.ref 81), some (.int a1), some (.int (nI 2)), some (.int a3)] [] (((mm_fl b0 true b2), n1, n2, p, q, ad), I, J)
    show (vp_in (nI 1) 3) ∧ _
    refine ⟨(mm_inl (by decide)), ?_⟩
    show mm_b _ _ _ _ _ [some (.ref 81), some (.int a1), some (.int (nI 2)), some (.int a3)] [.ref 90] (((mm_fl b0 true b2), n1, n2, p, q, ad), I, J)
    show vp_in a3 320 ∧ _
    refine ⟨(h.2 c0).1, ?_⟩
    show mm_b _ _ _ _ _ [some (.ref 81), some (.int a1), some (.int (nI 2)), some (.int a3)] [.int (I 9 a3.toNatClampNeg), .int a1, .ref 6, .ref 81, .int a3, .ref 90] (((mm_fl b0 true b2), n1, n2, p, q, ad), I, J)
    show mm_wc d 24 [.ref 6, .int a1, .int (I 9 a3.toNatClampNeg)] (((mm_fl b0 true b2), 0, 0, p, q, ad), I, J) _
    refine mm_wcm ((h.2 c0).2) ?_
    rintro v τ ⟨r1, I1, J1, rfl, rfl, h1⟩
    refine mm_r1' ⟨rfl, ?_⟩
    show mm_b _ _ _ _ _ [some (.ref 81), some (.int a1), some (.int (nI 2)), some (.int a3)] [.int r1, .ref 81, .int a3, .ref 90] (((mm_fl b0 true b2), n1, n2, p, q, ad), I1, J1)
    show mm_wc d 48 [.ref 81, .int r1, .int (nI 1)] (((mm_fl b0 true b2), 0, 0, p, q, ad), I1, J1) _
    refine mm_wcm h1 ?_
    rintro v τ ⟨r2, I2, J2, rfl, rfl, h2⟩
    refine mm_r1' ⟨rfl, ?_⟩
    show mm_b _ _ _ _ _ [some (.ref 81), some (.int a1), some (.int (nI 2)), some (.int a3)] [.int r2, .int a3, .ref 90] (((mm_fl b0 true b2), n1, n2, p, q, ad), I2, J2)
    show vp_in a3 320 ∧ _
    refine ⟨h2.1, ?_⟩
    exact h2.2
/- 280 ThreeBreaths$Odds weighMeans -/
theorem fx_280_n3 {d : Nat} {x0 : Int32} {b0 b2 : Bool} {n1 n2 : Nat} {p q : Bool} {ad : Nat → Nat} {I : mmI} {J : mmJ} {Q : mmQ} (h : mm_w Q (mm_wc d) bk_280 2 [some (.ref 81), some (.int x0), some (.int (nI 3)), some (.int (nI 0))] [] (((mm_fl b0 true b2), n1, n2, p, q, ad), I, J)) : mm_wc (d + 1) 280 [.ref 81, .int x0, .int (nI 3)] (((mm_fl b0 true b2), n1, n2, p, q, ad), I, J) Q := by
  refine mm_call (c := 280) rfl rfl ?_
  refine mm_go [2] 80 ?_
  exact h
theorem fx_280_n3_2 {d : Nat} {a1 : Int32} {a3 : Int32} {b0 b2 : Bool} {n1 n2 : Nat} {p q : Bool} {ad : Nat → Nat} {I : mmI} {J : mmJ} {Q : mmQ} (h : (((I 6 7) ≤ a3 → Q none (((mm_fl b0 true b2), n1, n2, p, q, ad), I, J)) ∧ (¬ (I 6 7) ≤ a3 → (vp_in a3 320 ∧ mm_wc d 24 [.ref 6, .int a1, .int (I 9 a3.toNatClampNeg)] (((mm_fl b0 true b2), 0, 0, p, q, ad), I, J) (fun v τ => ∃ r1 I1 J1, v = some (.int r1) ∧ τ = (((mm_fl b0 true b2), 0, 0, p, q, ad), I1, J1) ∧ mm_wc d 48 [.ref 81, .int r1, .int (nI 2)] (((mm_fl b0 true b2), 0, 0, p, q, ad), I1, J1) (fun v τ => ∃ r2 I2 J2, v = some (.int r2) ∧ τ = (((mm_fl b0 true b2), 0, 0, p, q, ad), I2, J2) ∧ (vp_in a3 320 ∧ mm_w Q (mm_wc d) bk_280 2 [some (.ref 81), some (.int a1), some (.int (nI 3)), some (.int (a3 + (nI 1)))] [] (((mm_fl b0 true b2), n1, n2, p, q, ad), (mm_up I2 91 a3.toNatClampNeg r2), J2)))))))) : mm_w Q (mm_wc (d)) bk_280 2 [some (.ref 81), some (.int a1), some (.int (nI 3)), some (.int a3)] [] (((mm_fl b0 true b2), n1, n2, p, q, ad), I, J) := by
  refine mm_go [2] 80 ?_
  show ((I 6 7) ≤ a3 → _) ∧ (¬ (I 6 7) ≤ a3 → _)
  refine ⟨fun c0 => ?_, fun c0 => ?_⟩
  · exact (h.1 c0)
  · show mm_b _ _ _ _ _ [some (.ref 81), some (.int a1), some (.int (nI 3)), some (.int a3)] [] (((mm_fl b0 true b2), n1, n2, p, q, ad), I, J)
    show (vp_in (nI 2) 3) ∧ _
    refine ⟨(mm_inl (by decide)), ?_⟩
    show mm_b _ _ _ _ _ [some (.ref 81), some (.int a1), some (.int (nI 3)), some (.int a3)] [.ref 91] (((mm_fl b0 true b2), n1, n2, p, q, ad), I, J)
    show vp_in a3 320 ∧ _
    refine ⟨(h.2 c0).1, ?_⟩
    show mm_b _ _ _ _ _ [some (.ref 81), some (.int a1), some (.int (nI 3)), some (.int a3)] [.int (I 9 a3.toNatClampNeg), .int a1, .ref 6, .ref 81, .int a3, .ref 91] (((mm_fl b0 true b2), n1, n2, p, q, ad), I, J)
    show mm_wc d 24 [.ref 6, .int a1, .int (I 9 a3.toNatClampNeg)] (((mm_fl b0 true b2), 0, 0, p, q, ad), I, J) _
    refine mm_wcm ((h.2 c0).2) ?_
    rintro v τ ⟨r1, I1, J1, rfl, rfl, h1⟩
    refine mm_r1' ⟨rfl, ?_⟩
    show mm_b _ _ _ _ _ [some (.ref 81), some (.int a1), some (.int (nI 3)), some (.int a3)] [.int r1, .ref 81, .int a3, .ref 91] (((mm_fl b0 true b2), n1, n2, p, q, ad), I1, J1)
    show mm_wc d 48 [.ref 81, .int r1, .int (nI 2)] (((mm_fl b0 true b2), 0, 0, p, q, ad), I1, J1) _
    refine mm_wcm h1 ?_
    rintro v τ ⟨r2, I2, J2, rfl, rfl, h2⟩
    refine mm_r1' ⟨rfl, ?_⟩
    show mm_b _ _ _ _ _ [some (.ref 81), some (.int a1), some (.int (nI 3)), some (.int a3)] [.int r2, .int a3, .ref 91] (((mm_fl b0 true b2), n1, n2, p, q, ad), I2, J2)
    show vp_in a3 320 ∧ _
    refine ⟨h2.1, ?_⟩
    exact h2.2
/- 281 ThreeBreaths$Odds partsIn -/
theorem fx_281 {d : Nat} {x0 : Int32} {b0 b2 : Bool} {n1 n2 : Nat} {p q : Bool} {ad : Nat → Nat} {I : mmI} {J : mmJ} {Q : mmQ} (h : mm_w Q (mm_wc d) bk_281 4 [some (.ref 81), some (.int x0), some (.int (nI 1)), some (.int (nI 0))] [] (((mm_fl b0 true b2), n1, n2, p, q, ad), I, J)) : mm_wc (d + 1) 281 [.ref 81, .int x0] (((mm_fl b0 true b2), n1, n2, p, q, ad), I, J) Q := by
  refine mm_call (c := 281) rfl rfl ?_
  refine mm_go [4] 80 ?_
  exact h
theorem fx_281_4 {d : Nat} {a1 : Int32} {a2 : Int32} {a3 : Int32} {b0 b2 : Bool} {n1 n2 : Nat} {p q : Bool} {ad : Nat → Nat} {I : mmI} {J : mmJ} {Q : mmQ} (h : ((a1 ≤ a3 → Q (some (.int a2)) (((mm_fl b0 true b2), n1, n2, p, q, ad), I, J)) ∧ (¬ a1 ≤ a3 → mm_w Q (mm_wc d) bk_281 4 [some (.ref 81), some (.int a1), some (.int (a2 * (((I 81 10) + (I 81 11)) + (I 81 12)))), some (.int (a3 + (nI 1)))] [] (((mm_fl b0 true b2), n1, n2, p, q, ad), I, J)))) : mm_w Q (mm_wc (d)) bk_281 4 [some (.ref 81), some (.int a1), some (.int a2), some (.int a3)] [] (((mm_fl b0 true b2), n1, n2, p, q, ad), I, J) := by
  refine mm_go [4] 80 ?_
  show (a1 ≤ a3 → _) ∧ (¬ a1 ≤ a3 → _)
  refine ⟨fun c0 => ?_, fun c0 => ?_⟩
  · exact (h.1 c0)
  · exact (h.2 c0)
