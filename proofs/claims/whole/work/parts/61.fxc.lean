/- 56 ThreeBreaths$Reader hasRoom -/
theorem fx_56 {d : Nat} {fl : Nat → Bool} {n1 n2 : Nat} {p q : Bool} {ad : Nat → Nat} {I : mmI} {J : mmJ} {Q : mmQ} (h : (((nI 900) < ((I 1 1) + (nI 20)) → Q (some (.int (nI 0))) ((fl, n1, n2, p, q, ad), I, J)) ∧ (¬ (nI 900) < ((I 1 1) + (nI 20)) → Q (some (.int (nI 1))) ((fl, n1, n2, p, q, ad), I, J)))) : mm_wc (d + 1) 56 [.ref 1] ((fl, n1, n2, p, q, ad), I, J) Q := by
  refine mm_call (c := 56) rfl rfl ?_
  refine mm_go [] 80 ?_
  show ((nI 900) < ((I 1 1) + (nI 20)) → _) ∧ (¬ (nI 900) < ((I 1 1) + (nI 20)) → _)
  refine ⟨fun c0 => ?_, fun c0 => ?_⟩
  · show mm_u _ _ _ _ _ _ [some (.ref 1)] [] ((fl, n1, n2, p, q, ad), I, J)
    show (((nI 0) : Int32) = 0 ∨ ((nI 0) : Int32) = 1) ∧ _
    refine ⟨(by decide), ?_⟩
    exact (h.1 c0)
  · show mm_b _ _ _ _ _ [some (.ref 1)] [] ((fl, n1, n2, p, q, ad), I, J)
    show (((nI 1) : Int32) = 0 ∨ ((nI 1) : Int32) = 1) ∧ _
    refine ⟨(by decide), ?_⟩
    exact (h.2 c0)
/- 57 ThreeBreaths$Reader append -/
theorem fx_57 {d : Nat} {x0 : Int32} {fl : Nat → Bool} {n1 n2 : Nat} {p q : Bool} {ad : Nat → Nat} {I : mmI} {J : mmJ} {Q : mmQ} (h : mm_w Q (mm_wc d) bk_57 3 [some (.ref 1), some (.int x0), some (.int (nI 24))] [] ((fl, n1, n2, p, q, ad), I, J)) : mm_wc (d + 1) 57 [.ref 1, .int x0] ((fl, n1, n2, p, q, ad), I, J) Q := by
  refine mm_call (c := 57) rfl rfl ?_
  refine mm_go [3] 80 ?_
  exact h
theorem fx_57_3 {d : Nat} {a1 : Int32} {a2 : Int32} {fl : Nat → Bool} {n1 n2 : Nat} {p q : Bool} {ad : Nat → Nat} {I : mmI} {J : mmJ} {Q : mmQ} (h : ((a2 < (nI 0) → Q none ((fl, n1, n2, p, q, ad), I, J)) ∧ (¬ a2 < (nI 0) → (((nI 900) ≤ (I 1 1) → Q none ((fl, n1, n2, p, q, ad), I, J)) ∧ (¬ (nI 900) ≤ (I 1 1) → (vp_in (I 1 1) 900 ∧ mm_w Q (mm_wc d) bk_57 3 [some (.ref 1), some (.int a1), some (.int (a2 + (-8)))] [] ((fl, n1, n2, p, q, ad), (mm_up (mm_up I 2 ((I 1 1)).toNatClampNeg ((Int32.toInt8 ((Int32.toInt8 (((a1 : Int32).toUInt32 >>> ((a2 : Int32).toUInt32 &&& Int32.toUInt32 31)).toInt32)).toInt32)).toInt32)) 1 1 ((I 1 1) + (nI 1))), J))))))) : mm_w Q (mm_wc (d)) bk_57 3 [some (.ref 1), some (.int a1), some (.int a2)] [] ((fl, n1, n2, p, q, ad), I, J) := by
  refine mm_go [3] 80 ?_
  show (a2 < (nI 0) → _) ∧ (¬ a2 < (nI 0) → _)
  refine ⟨fun c0 => ?_, fun c0 => ?_⟩
  · exact (h.1 c0)
  · show mm_b _ _ _ _ _ [some (.ref 1), some (.int a1), some (.int a2)] [] ((fl, n1, n2, p, q, ad), I, J)
    show ((nI 900) ≤ (I 1 1) → _) ∧ (¬ (nI 900) ≤ (I 1 1) → _)
    refine ⟨fun c1 => ?_, fun c1 => ?_⟩
    · exact ((h.2 c0).1 c1)
    · show mm_b _ _ _ _ _ [some (.ref 1), some (.int a1), some (.int a2)] [] ((fl, n1, n2, p, q, ad), I, J)
      show vp_in (I 1 1) 900 ∧ _
      refine ⟨((h.2 c0).2 c1).1, ?_⟩
      exact ((h.2 c0).2 c1).2
/- 58 ThreeBreaths$Reader read -/
theorem fx_58 {d : Nat} {x0 : Int32} {fl : Nat → Bool} {n1 n2 : Nat} {p q : Bool} {ad : Nat → Nat} {I : mmI} {J : mmJ} {Q : mmQ} (h : mm_wc d 31 [.ref (mm_ck q 0)] ((fl, 0, 0, p, q, ad), I, J) (fun v τ => ∃ I1 J1, v = none ∧ τ = ((fl, 0, 0, p, q, ad), I1, J1) ∧ mm_wc d 1002 [.int x0, .int (I1 1 1)] ((fl, 0, 0, p, q, ad), I1, J1) (fun v τ => ∃ r2 I2 J2, v = some (.int r2) ∧ τ = ((fl, 0, 0, p, q, ad), I2, J2) ∧ mm_wc d 77 [.ref 1] ((fl, 0, 0, p, q, ad), (mm_up (mm_up (mm_up (mm_up (mm_up I2 1 2 r2) 1 1 (nI 0)) 1 5 (nI 0)) 1 12 (nI 0)) 1 14 (nI 0)), J2) (fun v τ => ∃ I3 J3, v = none ∧ τ = ((fl, 0, 0, p, q, ad), I3, J3) ∧ mm_wc d 61 [.ref 1] ((fl, 0, 0, p, q, ad), I3, J3) (fun v τ => ∃ r4 I4 J4, v = some (.int r4) ∧ τ = ((fl, 0, 0, p, q, ad), I4, J4) ∧ mm_w Q (mm_wc d) bk_58 50 [some (.ref 1), none, some (.int r4), some (.int (nI 0))] [] ((fl, n1, n2, p, q, ad), I4, J4)))))) : mm_wc (d + 1) 58 [.ref 1, .int x0] ((fl, n1, n2, p, q, ad), I, J) Q := by
  cases q
  · refine mm_call (c := 58) rfl rfl ?_
    refine mm_go [50] 80 ?_
    show mm_wc d 31 [.ref 32] ((fl, 0, 0, p, false, ad), I, J) _
    refine mm_wcm h ?_
    rintro v τ ⟨I1, J1, rfl, rfl, h1⟩
    refine mm_r0' ⟨rfl, ?_⟩
    show mm_b _ _ _ _ _ [some (.ref 1), some (.int x0), none, none] [] ((fl, n1, n2, p, false, ad), I1, J1)
    show mm_wc d 1002 [.int x0, .int (I1 1 1)] ((fl, 0, 0, p, false, ad), I1, J1) _
    refine mm_wcm h1 ?_
    rintro v τ ⟨r2, I2, J2, rfl, rfl, h2⟩
    refine mm_r1' ⟨rfl, ?_⟩
    show mm_b _ _ _ _ _ [some (.ref 1), some (.int x0), none, none] [.int r2, .ref 1] ((fl, n1, n2, p, false, ad), I2, J2)
    show mm_wc d 77 [.ref 1] ((fl, 0, 0, p, false, ad), (mm_up (mm_up (mm_up (mm_up (mm_up I2 1 2 r2) 1 1 (nI 0)) 1 5 (nI 0)) 1 12 (nI 0)) 1 14 (nI 0)), J2) _
    refine mm_wcm h2 ?_
    rintro v τ ⟨I3, J3, rfl, rfl, h3⟩
    refine mm_r0' ⟨rfl, ?_⟩
    show mm_b _ _ _ _ _ [some (.ref 1), some (.int x0), none, none] [] ((fl, n1, n2, p, false, ad), I3, J3)
    show mm_wc d 61 [.ref 1] ((fl, 0, 0, p, false, ad), I3, J3) _
    refine mm_wcm h3 ?_
    rintro v τ ⟨r4, I4, J4, rfl, rfl, h4⟩
    refine mm_r1' ⟨rfl, ?_⟩
    exact h4
  · refine mm_call (c := 58) rfl rfl ?_
    refine mm_go [50] 80 ?_
    show mm_wc d 31 [.ref 18] ((fl, 0, 0, p, true, ad), I, J) _
    refine mm_wcm h ?_
    rintro v τ ⟨I1, J1, rfl, rfl, h1⟩
    refine mm_r0' ⟨rfl, ?_⟩
    show mm_b _ _ _ _ _ [some (.ref 1), some (.int x0), none, none] [] ((fl, n1, n2, p, true, ad), I1, J1)
    show mm_wc d 1002 [.int x0, .int (I1 1 1)] ((fl, 0, 0, p, true, ad), I1, J1) _
    refine mm_wcm h1 ?_
    rintro v τ ⟨r2, I2, J2, rfl, rfl, h2⟩
    refine mm_r1' ⟨rfl, ?_⟩
    show mm_b _ _ _ _ _ [some (.ref 1), some (.int x0), none, none] [.int r2, .ref 1] ((fl, n1, n2, p, true, ad), I2, J2)
    show mm_wc d 77 [.ref 1] ((fl, 0, 0, p, true, ad), (mm_up (mm_up (mm_up (mm_up (mm_up I2 1 2 r2) 1 1 (nI 0)) 1 5 (nI 0)) 1 12 (nI 0)) 1 14 (nI 0)), J2) _
    refine mm_wcm h2 ?_
    rintro v τ ⟨I3, J3, rfl, rfl, h3⟩
    refine mm_r0' ⟨rfl, ?_⟩
    show mm_b _ _ _ _ _ [some (.ref 1), some (.int x0), none, none] [] ((fl, n1, n2, p, true, ad), I3, J3)
    show mm_wc d 61 [.ref 1] ((fl, 0, 0, p, true, ad), I3, J3) _
    refine mm_wcm h3 ?_
    rintro v τ ⟨r4, I4, J4, rfl, rfl, h4⟩
    refine mm_r1' ⟨rfl, ?_⟩
    exact h4
theorem fx_58_50 {d : Nat} {a2 : Int32} {a3 : Int32} {fl : Nat → Bool} {n1 n2 : Nat} {p q : Bool} {ad : Nat → Nat} {I : mmI} {J : mmJ} {Q : mmQ} (h : (((I 1 2) ≤ a3 → ((a2 = (nI 0) → Q (some (.int (I 1 14))) ((fl, n1, n2, p, q, ad), I, J)) ∧ (¬ a2 = (nI 0) → mm_wc d 32 [.ref (mm_ck q 0)] ((fl, 0, 0, p, q, ad), I, J) (fun v τ => ∃ r1 I1 J1, v = some (.int r1) ∧ τ = ((fl, 0, 0, p, q, ad), I1, J1) ∧ ((r1 = (nI 0) → Q (some (.int (I1 1 14))) ((fl, n1, n2, p, q, ad), I1, J1)) ∧ (¬ r1 = (nI 0) → Q (some (.int (nI 6))) ((fl, n1, n2, p, q, ad), (mm_up I1 1 14 (nI 6)), J1))))))) ∧ (¬ (I 1 2) ≤ a3 → ((a2 = (nI 0) → ((a2 = (nI 0) → Q (some (.int (I 1 14))) ((fl, n1, n2, p, q, ad), I, J)) ∧ (¬ a2 = (nI 0) → mm_wc d 32 [.ref (mm_ck q 0)] ((fl, 0, 0, p, q, ad), I, J) (fun v τ => ∃ r2 I2 J2, v = some (.int r2) ∧ τ = ((fl, 0, 0, p, q, ad), I2, J2) ∧ ((r2 = (nI 0) → Q (some (.int (I2 1 14))) ((fl, n1, n2, p, q, ad), I2, J2)) ∧ (¬ r2 = (nI 0) → Q (some (.int (nI 6))) ((fl, n1, n2, p, q, ad), (mm_up I2 1 14 (nI 6)), J2))))))) ∧ (¬ a2 = (nI 0) → (((I 1 3) = (nI 0) → ((a2 = (nI 0) → Q (some (.int (I 1 14))) ((fl, n1, n2, p, q, ad), I, J)) ∧ (¬ a2 = (nI 0) → mm_wc d 32 [.ref (mm_ck q 0)] ((fl, 0, 0, p, q, ad), I, J) (fun v τ => ∃ r3 I3 J3, v = some (.int r3) ∧ τ = ((fl, 0, 0, p, q, ad), I3, J3) ∧ ((r3 = (nI 0) → Q (some (.int (I3 1 14))) ((fl, n1, n2, p, q, ad), I3, J3)) ∧ (¬ r3 = (nI 0) → Q (some (.int (nI 6))) ((fl, n1, n2, p, q, ad), (mm_up I3 1 14 (nI 6)), J3))))))) ∧ (¬ (I 1 3) = (nI 0) → mm_wc d 76 [.ref 1, .int (nI 3)] ((fl, 0, 0, p, q, ad), I, J) (fun v τ => ∃ r4 I4 J4, v = some (.int r4) ∧ τ = ((fl, 0, 0, p, q, ad), I4, J4) ∧ ((r4 = (nI 0) → mm_w Q (mm_wc d) bk_58 50 [some (.ref 1), none, some (.int (nI 0)), some (.int (a3 + (nI 1)))] [] ((fl, n1, n2, p, q, ad), I4, J4)) ∧ (¬ r4 = (nI 0) → mm_wc d 61 [.ref 1] ((fl, 0, 0, p, q, ad), I4, J4) (fun v τ => ∃ r5 I5 J5, v = some (.int r5) ∧ τ = ((fl, 0, 0, p, q, ad), I5, J5) ∧ ((r5 = (nI 0) → mm_w Q (mm_wc d) bk_58 50 [some (.ref 1), none, some (.int (nI 0)), some (.int (a3 + (nI 1)))] [] ((fl, n1, n2, p, q, ad), I5, J5)) ∧ (¬ r5 = (nI 0) → mm_w Q (mm_wc d) bk_58 50 [some (.ref 1), none, some (.int (nI 1)), some (.int (a3 + (nI 1)))] [] ((fl, n1, n2, p, q, ad), I5, J5)))))))))))))) : mm_w Q (mm_wc (d)) bk_58 50 [some (.ref 1), none, some (.int a2), some (.int a3)] [] ((fl, n1, n2, p, q, ad), I, J) := by
  cases q
  · refine mm_go [50] 80 ?_
    show ((I 1 2) ≤ a3 → _) ∧ (¬ (I 1 2) ≤ a3 → _)
    refine ⟨fun c0 => ?_, fun c0 => ?_⟩
    · show mm_u _ _ _ _ _ _ [some (.ref 1), none, some (.int a2), some (.int a3)] [] ((fl, n1, n2, p, false, ad), I, J)
      show (a2 = (nI 0) → _) ∧ (¬ a2 = (nI 0) → _)
      refine ⟨fun c1 => ?_, fun c1 => ?_⟩
      · exact ((h.1 c0).1 c1)
      · show mm_b _ _ _ _ _ [some (.ref 1), none, some (.int a2), none] [] ((fl, n1, n2, p, false, ad), I, J)
        show mm_wc d 32 [.ref 32] ((fl, 0, 0, p, false, ad), I, J) _
        refine mm_wcm ((h.1 c0).2 c1) ?_
        rintro v τ ⟨r1, I1, J1, rfl, rfl, h1⟩
        refine mm_r1' ⟨rfl, ?_⟩
        show mm_b _ _ _ _ _ [some (.ref 1), none, some (.int a2), none] [.int r1] ((fl, n1, n2, p, false, ad), I1, J1)
        show (r1 = (nI 0) → _) ∧ (¬ r1 = (nI 0) → _)
        refine ⟨fun c2 => ?_, fun c2 => ?_⟩
        · exact (h1.1 c2)
        · exact (h1.2 c2)
    · show mm_b _ _ _ _ _ [some (.ref 1), none, some (.int a2), some (.int a3)] [] ((fl, n1, n2, p, false, ad), I, J)
      show (a2 = (nI 0) → _) ∧ (¬ a2 = (nI 0) → _)
      refine ⟨fun c1 => ?_, fun c1 => ?_⟩
      · show mm_u _ _ _ _ _ _ [some (.ref 1), none, some (.int a2), some (.int a3)] [] ((fl, n1, n2, p, false, ad), I, J)
        show (a2 = (nI 0) → _) ∧ (¬ a2 = (nI 0) → _)
        refine ⟨fun c2 => ?_, fun c2 => ?_⟩
        · exact (((h.2 c0).1 c1).1 c2)
        · show mm_b _ _ _ _ _ [some (.ref 1), none, some (.int a2), none] [] ((fl, n1, n2, p, false, ad), I, J)
          show mm_wc d 32 [.ref 32] ((fl, 0, 0, p, false, ad), I, J) _
          refine mm_wcm (((h.2 c0).1 c1).2 c2) ?_
          rintro v τ ⟨r2, I2, J2, rfl, rfl, h2⟩
          refine mm_r1' ⟨rfl, ?_⟩
          show mm_b _ _ _ _ _ [some (.ref 1), none, some (.int a2), none] [.int r2] ((fl, n1, n2, p, false, ad), I2, J2)
          show (r2 = (nI 0) → _) ∧ (¬ r2 = (nI 0) → _)
          refine ⟨fun c3 => ?_, fun c3 => ?_⟩
          · exact (h2.1 c3)
          · exact (h2.2 c3)
      · show mm_b _ _ _ _ _ [some (.ref 1), none, some (.int a2), some (.int a3)] [] ((fl, n1, n2, p, false, ad), I, J)
        show ((I 1 3) = (nI 0) → _) ∧ (¬ (I 1 3) = (nI 0) → _)
        refine ⟨fun c2 => ?_, fun c2 => ?_⟩
        · show mm_u _ _ _ _ _ _ [some (.ref 1), none, some (.int a2), some (.int a3)] [] ((fl, n1, n2, p, false, ad), I, J)
          show (a2 = (nI 0) → _) ∧ (¬ a2 = (nI 0) → _)
          refine ⟨fun c3 => ?_, fun c3 => ?_⟩
          · exact ((((h.2 c0).2 c1).1 c2).1 c3)
          · show mm_b _ _ _ _ _ [some (.ref 1), none, some (.int a2), none] [] ((fl, n1, n2, p, false, ad), I, J)
            show mm_wc d 32 [.ref 32] ((fl, 0, 0, p, false, ad), I, J) _
            refine mm_wcm ((((h.2 c0).2 c1).1 c2).2 c3) ?_
            rintro v τ ⟨r3, I3, J3, rfl, rfl, h3⟩
            refine mm_r1' ⟨rfl, ?_⟩
            show mm_b _ _ _ _ _ [some (.ref 1), none, some (.int a2), none] [.int r3] ((fl, n1, n2, p, false, ad), I3, J3)
            show (r3 = (nI 0) → _) ∧ (¬ r3 = (nI 0) → _)
            refine ⟨fun c4 => ?_, fun c4 => ?_⟩
            · exact (h3.1 c4)
            · exact (h3.2 c4)
        · show mm_b _ _ _ _ _ [some (.ref 1), none, some (.int a2), some (.int a3)] [] ((fl, n1, n2, p, false, ad), I, J)
          show mm_wc d 76 [.ref 1, .int (nI 3)] ((fl, 0, 0, p, false, ad), I, J) _
          refine mm_wcm (((h.2 c0).2 c1).2 c2) ?_
          rintro v τ ⟨r4, I4, J4, rfl, rfl, h4⟩
          refine mm_r1' ⟨rfl, ?_⟩
          show mm_b _ _ _ _ _ [some (.ref 1), none, some (.int a2), some (.int a3)] [.int r4] ((fl, n1, n2, p, false, ad), I4, J4)
          show (r4 = (nI 0) → _) ∧ (¬ r4 = (nI 0) → _)
          refine ⟨fun c3 => ?_, fun c3 => ?_⟩
          · exact (h4.1 c3)
          · show mm_b _ _ _ _ _ [some (.ref 1), none, some (.int a2), some (.int a3)] [] ((fl, n1, n2, p, false, ad), I4, J4)
            show mm_wc d 61 [.ref 1] ((fl, 0, 0, p, false, ad), I4, J4) _
            refine mm_wcm (h4.2 c3) ?_
            rintro v τ ⟨r5, I5, J5, rfl, rfl, h5⟩
            refine mm_r1' ⟨rfl, ?_⟩
            show mm_b _ _ _ _ _ [some (.ref 1), none, some (.int a2), some (.int a3)] [.int r5] ((fl, n1, n2, p, false, ad), I5, J5)
            show (r5 = (nI 0) → _) ∧ (¬ r5 = (nI 0) → _)
            refine ⟨fun c4 => ?_, fun c4 => ?_⟩
            · exact (h5.1 c4)
            · exact (h5.2 c4)
  · refine mm_go [50] 80 ?_
    show ((I 1 2) ≤ a3 → _) ∧ (¬ (I 1 2) ≤ a3 → _)
    refine ⟨fun c0 => ?_, fun c0 => ?_⟩
    · show mm_u _ _ _ _ _ _ [some (.ref 1), none, some (.int a2), some (.int a3)] [] ((fl, n1, n2, p, true, ad), I, J)
      show (a2 = (nI 0) → _) ∧ (¬ a2 = (nI 0) → _)
      refine ⟨fun c1 => ?_, fun c1 => ?_⟩
      · exact ((h.1 c0).1 c1)
      · show mm_b _ _ _ _ _ [some (.ref 1), none, some (.int a2), none] [] ((fl, n1, n2, p, true, ad), I, J)
        show mm_wc d 32 [.ref 18] ((fl, 0, 0, p, true, ad), I, J) _
        refine mm_wcm ((h.1 c0).2 c1) ?_
        rintro v τ ⟨r1, I1, J1, rfl, rfl, h1⟩
        refine mm_r1' ⟨rfl, ?_⟩
        show mm_b _ _ _ _ _ [some (.ref 1), none, some (.int a2), none] [.int r1] ((fl, n1, n2, p, true, ad), I1, J1)
        show (r1 = (nI 0) → _) ∧ (¬ r1 = (nI 0) → _)
        refine ⟨fun c2 => ?_, fun c2 => ?_⟩
        · exact (h1.1 c2)
        · exact (h1.2 c2)
    · show mm_b _ _ _ _ _ [some (.ref 1), none, some (.int a2), some (.int a3)] [] ((fl, n1, n2, p, true, ad), I, J)
      show (a2 = (nI 0) → _) ∧ (¬ a2 = (nI 0) → _)
      refine ⟨fun c1 => ?_, fun c1 => ?_⟩
      · show mm_u _ _ _ _ _ _ [some (.ref 1), none, some (.int a2), some (.int a3)] [] ((fl, n1, n2, p, true, ad), I, J)
        show (a2 = (nI 0) → _) ∧ (¬ a2 = (nI 0) → _)
        refine ⟨fun c2 => ?_, fun c2 => ?_⟩
        · exact (((h.2 c0).1 c1).1 c2)
        · show mm_b _ _ _ _ _ [some (.ref 1), none, some (.int a2), none] [] ((fl, n1, n2, p, true, ad), I, J)
          show mm_wc d 32 [.ref 18] ((fl, 0, 0, p, true, ad), I, J) _
          refine mm_wcm (((h.2 c0).1 c1).2 c2) ?_
          rintro v τ ⟨r2, I2, J2, rfl, rfl, h2⟩
          refine mm_r1' ⟨rfl, ?_⟩
          show mm_b _ _ _ _ _ [some (.ref 1), none, some (.int a2), none] [.int r2] ((fl, n1, n2, p, true, ad), I2, J2)
          show (r2 = (nI 0) → _) ∧ (¬ r2 = (nI 0) → _)
          refine ⟨fun c3 => ?_, fun c3 => ?_⟩
          · exact (h2.1 c3)
          · exact (h2.2 c3)
      · show mm_b _ _ _ _ _ [some (.ref 1), none, some (.int a2), some (.int a3)] [] ((fl, n1, n2, p, true, ad), I, J)
        show ((I 1 3) = (nI 0) → _) ∧ (¬ (I 1 3) = (nI 0) → _)
        refine ⟨fun c2 => ?_, fun c2 => ?_⟩
        · show mm_u _ _ _ _ _ _ [some (.ref 1), none, some (.int a2), some (.int a3)] [] ((fl, n1, n2, p, true, ad), I, J)
          show (a2 = (nI 0) → _) ∧ (¬ a2 = (nI 0) → _)
          refine ⟨fun c3 => ?_, fun c3 => ?_⟩
          · exact ((((h.2 c0).2 c1).1 c2).1 c3)
          · show mm_b _ _ _ _ _ [some (.ref 1), none, some (.int a2), none] [] ((fl, n1, n2, p, true, ad), I, J)
            show mm_wc d 32 [.ref 18] ((fl, 0, 0, p, true, ad), I, J) _
            refine mm_wcm ((((h.2 c0).2 c1).1 c2).2 c3) ?_
            rintro v τ ⟨r3, I3, J3, rfl, rfl, h3⟩
            refine mm_r1' ⟨rfl, ?_⟩
            show mm_b _ _ _ _ _ [some (.ref 1), none, some (.int a2), none] [.int r3] ((fl, n1, n2, p, true, ad), I3, J3)
            show (r3 = (nI 0) → _) ∧ (¬ r3 = (nI 0) → _)
            refine ⟨fun c4 => ?_, fun c4 => ?_⟩
            · exact (h3.1 c4)
            · exact (h3.2 c4)
        · show mm_b _ _ _ _ _ [some (.ref 1), none, some (.int a2), some (.int a3)] [] ((fl, n1, n2, p, true, ad), I, J)
          show mm_wc d 76 [.ref 1, .int (nI 3)] ((fl, 0, 0, p, true, ad), I, J) _
          refine mm_wcm (((h.2 c0).2 c1).2 c2) ?_
          rintro v τ ⟨r4, I4, J4, rfl, rfl, h4⟩
          refine mm_r1' ⟨rfl, ?_⟩
          show mm_b _ _ _ _ _ [some (.ref 1), none, some (.int a2), some (.int a3)] [.int r4] ((fl, n1, n2, p, true, ad), I4, J4)
          show (r4 = (nI 0) → _) ∧ (¬ r4 = (nI 0) → _)
          refine ⟨fun c3 => ?_, fun c3 => ?_⟩
          · exact (h4.1 c3)
          · show mm_b _ _ _ _ _ [some (.ref 1), none, some (.int a2), some (.int a3)] [] ((fl, n1, n2, p, true, ad), I4, J4)
            show mm_wc d 61 [.ref 1] ((fl, 0, 0, p, true, ad), I4, J4) _
            refine mm_wcm (h4.2 c3) ?_
            rintro v τ ⟨r5, I5, J5, rfl, rfl, h5⟩
            refine mm_r1' ⟨rfl, ?_⟩
            show mm_b _ _ _ _ _ [some (.ref 1), none, some (.int a2), some (.int a3)] [.int r5] ((fl, n1, n2, p, true, ad), I5, J5)
            show (r5 = (nI 0) → _) ∧ (¬ r5 = (nI 0) → _)
            refine ⟨fun c4 => ?_, fun c4 => ?_⟩
            · exact (h5.1 c4)
            · exact (h5.2 c4)
/- 59 ThreeBreaths$Reader place -/
theorem fx_59 {d : Nat} {fl : Nat → Bool} {n1 n2 : Nat} {p q : Bool} {ad : Nat → Nat} {I : mmI} {J : mmJ} {Q : mmQ} (h : Q (some (.int (I 1 4))) ((fl, n1, n2, p, q, ad), I, J)) : mm_wc (d + 1) 59 [.ref 1] ((fl, n1, n2, p, q, ad), I, J) Q := by
  refine mm_call (c := 59) rfl rfl ?_
  refine mm_go [] 80 ?_
  exact h
/- 60 ThreeBreaths$Reader fails -/
theorem fx_60 {d : Nat} {x0 : Int32} {fl : Nat → Bool} {n1 n2 : Nat} {p q : Bool} {ad : Nat → Nat} {I : mmI} {J : mmJ} {Q : mmQ} (h : Q (some (.int (nI 0))) ((fl, n1, n2, p, q, ad), (mm_up I 1 14 x0), J)) : mm_wc (d + 1) 60 [.ref 1, .int x0] ((fl, n1, n2, p, q, ad), I, J) Q := by
  refine mm_call (c := 60) rfl rfl ?_
  refine mm_go [] 80 ?_
  show (((nI 0) : Int32) = 0 ∨ ((nI 0) : Int32) = 1) ∧ _
  refine ⟨(by decide), ?_⟩
  exact h
/- 61 ThreeBreaths$Reader takeLine -/
theorem fx_61 {d : Nat} {fl : Nat → Bool} {n1 n2 : Nat} {p q : Bool} {ad : Nat → Nat} {I : mmI} {J : mmJ} {Q : mmQ} (h : mm_wc d 73 [.ref 1, .ref 98] ((fl, 0, 0, p, q, ad), I, J) (fun v τ => ∃ r1 I1 J1, v = some (.int r1) ∧ τ = ((fl, 0, 0, p, q, ad), I1, J1) ∧ ((r1 = (nI 0) → mm_wc d 73 [.ref 1, .ref 101] ((fl, 0, 0, p, q, ad), I1, J1) (fun v τ => ∃ r2 I2 J2, v = some (.int r2) ∧ τ = ((fl, 0, 0, p, q, ad), I2, J2) ∧ ((r2 = (nI 0) → mm_wc d 73 [.ref 1, .ref 102] ((fl, 0, 0, p, q, ad), I2, J2) (fun v τ => ∃ r3 I3 J3, v = some (.int r3) ∧ τ = ((fl, 0, 0, p, q, ad), I3, J3) ∧ ((r3 = (nI 0) → mm_wc d 73 [.ref 1, .ref 103] ((fl, 0, 0, p, q, ad), I3, J3) (fun v τ => ∃ r4 I4 J4, v = some (.int r4) ∧ τ = ((fl, 0, 0, p, q, ad), I4, J4) ∧ ((r4 = (nI 0) → mm_wc d 73 [.ref 1, .ref 104] ((fl, 0, 0, p, q, ad), I4, J4) (fun v τ => ∃ r5 I5 J5, v = some (.int r5) ∧ τ = ((fl, 0, 0, p, q, ad), I5, J5) ∧ ((r5 = (nI 0) → mm_wc d 73 [.ref 1, .ref 105] ((fl, 0, 0, p, q, ad), I5, J5) (fun v τ => ∃ r6 I6 J6, v = some (.int r6) ∧ τ = ((fl, 0, 0, p, q, ad), I6, J6) ∧ ((r6 = (nI 0) → mm_wc d 73 [.ref 1, .ref 106] ((fl, 0, 0, p, q, ad), I6, J6) (fun v τ => ∃ r7 I7 J7, v = some (.int r7) ∧ τ = ((fl, 0, 0, p, q, ad), I7, J7) ∧ ((r7 = (nI 0) → mm_wc d 60 [.ref 1, .int (nI 1)] ((fl, 0, 0, p, q, ad), I7, J7) (fun v τ => ∃ r8 I8 J8, v = some (.int r8) ∧ τ = ((fl, 0, 0, p, q, ad), I8, J8) ∧ ((r8 = 0 ∨ r8 = 1) ∧ Q (some (.int r8)) ((fl, n1, n2, p, q, ad), I8, J8)))) ∧ (¬ r7 = (nI 0) → mm_wc d 68 [.ref 1] ((fl, 0, 0, p, q, ad), I7, J7) (fun v τ => ∃ r9 I9 J9, v = some (.int r9) ∧ τ = ((fl, 0, 0, p, q, ad), I9, J9) ∧ ((r9 = 0 ∨ r9 = 1) ∧ Q (some (.int r9)) ((fl, n1, n2, p, q, ad), I9, J9))))))) ∧ (¬ r6 = (nI 0) → mm_wc d 67 [.ref 1] ((fl, 0, 0, p, q, ad), I6, J6) (fun v τ => ∃ r10 I10 J10, v = some (.int r10) ∧ τ = ((fl, 0, 0, p, q, ad), I10, J10) ∧ ((r10 = 0 ∨ r10 = 1) ∧ Q (some (.int r10)) ((fl, n1, n2, p, q, ad), I10, J10))))))) ∧ (¬ r5 = (nI 0) → mm_wc d 66 [.ref 1] ((fl, 0, 0, p, q, ad), I5, J5) (fun v τ => ∃ r11 I11 J11, v = some (.int r11) ∧ τ = ((fl, 0, 0, p, q, ad), I11, J11) ∧ ((r11 = 0 ∨ r11 = 1) ∧ Q (some (.int r11)) ((fl, n1, n2, p, q, ad), I11, J11))))))) ∧ (¬ r4 = (nI 0) → mm_wc d 63 [.ref 1, .ref (mm_ck q 8), .int (nI 3)] ((fl, 0, 0, p, q, ad), I4, J4) (fun v τ => ∃ r12 I12 J12, v = some (.int r12) ∧ τ = ((fl, 0, 0, p, q, ad), I12, J12) ∧ ((r12 = 0 ∨ r12 = 1) ∧ Q (some (.int r12)) ((fl, n1, n2, p, q, ad), I12, J12))))))) ∧ (¬ r3 = (nI 0) → mm_wc d 63 [.ref 1, .ref (mm_ck q 5), .int (nI 1)] ((fl, 0, 0, p, q, ad), I3, J3) (fun v τ => ∃ r13 I13 J13, v = some (.int r13) ∧ τ = ((fl, 0, 0, p, q, ad), I13, J13) ∧ ((r13 = 0 ∨ r13 = 1) ∧ Q (some (.int r13)) ((fl, n1, n2, p, q, ad), I13, J13))))))) ∧ (¬ r2 = (nI 0) → mm_wc d 63 [.ref 1, .ref (mm_ck q 1), .int (nI 0)] ((fl, 0, 0, p, q, ad), I2, J2) (fun v τ => ∃ r14 I14 J14, v = some (.int r14) ∧ τ = ((fl, 0, 0, p, q, ad), I14, J14) ∧ ((r14 = (nI 0) → Q (some (.int (nI 0))) ((fl, n1, n2, p, q, ad), I14, J14)) ∧ (¬ r14 = (nI 0) → mm_wc d 64 [.ref 1] ((fl, 0, 0, p, q, ad), I14, J14) (fun v τ => ∃ r15 I15 J15, v = some (.int r15) ∧ τ = ((fl, 0, 0, p, q, ad), I15, J15) ∧ ((r15 = (nI 0) → Q (some (.int (nI 0))) ((fl, n1, n2, p, q, ad), I15, J15)) ∧ (¬ r15 = (nI 0) → Q (some (.int (nI 1))) ((fl, n1, n2, p, q, ad), I15, J15))))))))))) ∧ (¬ r1 = (nI 0) → mm_wc d 62 [.ref 1] ((fl, 0, 0, p, q, ad), I1, J1) (fun v τ => ∃ r16 I16 J16, v = some (.int r16) ∧ τ = ((fl, 0, 0, p, q, ad), I16, J16) ∧ ((r16 = 0 ∨ r16 = 1) ∧ Q (some (.int r16)) ((fl, n1, n2, p, q, ad), I16, J16))))))) : mm_wc (d + 1) 61 [.ref 1] ((fl, n1, n2, p, q, ad), I, J) Q := by
  cases q
  · refine mm_call (c := 61) rfl rfl ?_
    refine mm_go [] 80 ?_
    show mm_wc d 73 [.ref 1, .ref 98] ((fl, 0, 0, p, false, ad), I, J) _
    refine mm_wcm h ?_
    rintro v τ ⟨r1, I1, J1, rfl, rfl, h1⟩
    refine mm_r1' ⟨rfl, ?_⟩
    show mm_b _ _ _ _ _ [some (.ref 1)] [.int r1] ((fl, n1, n2, p, false, ad), I1, J1)
    show (r1 = (nI 0) → _) ∧ (¬ r1 = (nI 0) → _)
    refine ⟨fun c0 => ?_, fun c0 => ?_⟩
    · show mm_u _ _ _ _ _ _ [some (.ref 1)] [] ((fl, n1, n2, p, false, ad), I1, J1)
      show mm_wc d 73 [.ref 1, .ref 101] ((fl, 0, 0, p, false, ad), I1, J1) _
      refine mm_wcm (h1.1 c0) ?_
      rintro v τ ⟨r2, I2, J2, rfl, rfl, h2⟩
      refine mm_r1' ⟨rfl, ?_⟩
      show mm_b _ _ _ _ _ [some (.ref 1)] [.int r2] ((fl, n1, n2, p, false, ad), I2, J2)
      show (r2 = (nI 0) → _) ∧ (¬ r2 = (nI 0) → _)
      refine ⟨fun c1 => ?_, fun c1 => ?_⟩
      · show mm_u _ _ _ _ _ _ [some (.ref 1)] [] ((fl, n1, n2, p, false, ad), I2, J2)
        show mm_wc d 73 [.ref 1, .ref 102] ((fl, 0, 0, p, false, ad), I2, J2) _
        refine mm_wcm (h2.1 c1) ?_
        rintro v τ ⟨r3, I3, J3, rfl, rfl, h3⟩
        refine mm_r1' ⟨rfl, ?_⟩
        show mm_b _ _ _ _ _ [some (.ref 1)] [.int r3] ((fl, n1, n2, p, false, ad), I3, J3)
        show (r3 = (nI 0) → _) ∧ (¬ r3 = (nI 0) → _)
        refine ⟨fun c2 => ?_, fun c2 => ?_⟩
        · show mm_u _ _ _ _ _ _ [some (.ref 1)] [] ((fl, n1, n2, p, false, ad), I3, J3)
          show mm_wc d 73 [.ref 1, .ref 103] ((fl, 0, 0, p, false, ad), I3, J3) _
          refine mm_wcm (h3.1 c2) ?_
          rintro v τ ⟨r4, I4, J4, rfl, rfl, h4⟩
          refine mm_r1' ⟨rfl, ?_⟩
          show mm_b _ _ _ _ _ [some (.ref 1)] [.int r4] ((fl, n1, n2, p, false, ad), I4, J4)
          show (r4 = (nI 0) → _) ∧ (¬ r4 = (nI 0) → _)
          refine ⟨fun c3 => ?_, fun c3 => ?_⟩
          · show mm_u _ _ _ _ _ _ [some (.ref 1)] [] ((fl, n1, n2, p, false, ad), I4, J4)
            show mm_wc d 73 [.ref 1, .ref 104] ((fl, 0, 0, p, false, ad), I4, J4) _
            refine mm_wcm (h4.1 c3) ?_
            rintro v τ ⟨r5, I5, J5, rfl, rfl, h5⟩
            refine mm_r1' ⟨rfl, ?_⟩
            show mm_b _ _ _ _ _ [some (.ref 1)] [.int r5] ((fl, n1, n2, p, false, ad), I5, J5)
            show (r5 = (nI 0) → _) ∧ (¬ r5 = (nI 0) → _)
            refine ⟨fun c4 => ?_, fun c4 => ?_⟩
            · show mm_u _ _ _ _ _ _ [some (.ref 1)] [] ((fl, n1, n2, p, false, ad), I5, J5)
              show mm_wc d 73 [.ref 1, .ref 105] ((fl, 0, 0, p, false, ad), I5, J5) _
              refine mm_wcm (h5.1 c4) ?_
              rintro v τ ⟨r6, I6, J6, rfl, rfl, h6⟩
              refine mm_r1' ⟨rfl, ?_⟩
              show mm_b _ _ _ _ _ [some (.ref 1)] [.int r6] ((fl, n1, n2, p, false, ad), I6, J6)
              show (r6 = (nI 0) → _) ∧ (¬ r6 = (nI 0) → _)
              refine ⟨fun c5 => ?_, fun c5 => ?_⟩
              · show mm_u _ _ _ _ _ _ [some (.ref 1)] [] ((fl, n1, n2, p, false, ad), I6, J6)
                show mm_wc d 73 [.ref 1, .ref 106] ((fl, 0, 0, p, false, ad), I6, J6) _
                refine mm_wcm (h6.1 c5) ?_
                rintro v τ ⟨r7, I7, J7, rfl, rfl, h7⟩
                refine mm_r1' ⟨rfl, ?_⟩
                show mm_b _ _ _ _ _ [some (.ref 1)] [.int r7] ((fl, n1, n2, p, false, ad), I7, J7)
                show (r7 = (nI 0) → _) ∧ (¬ r7 = (nI 0) → _)
                refine ⟨fun c6 => ?_, fun c6 => ?_⟩
                · show mm_u _ _ _ _ _ _ [some (.ref 1)] [] ((fl, n1, n2, p, false, ad), I7, J7)
                  show mm_wc d 60 [.ref 1, .int (nI 1)] ((fl, 0, 0, p, false, ad), I7, J7) _
                  refine mm_wcm (h7.1 c6) ?_
                  rintro v τ ⟨r8, I8, J8, rfl, rfl, h8⟩
                  refine mm_r1' ⟨rfl, ?_⟩
                  show mm_b _ _ _ _ _ [some (.ref 1)] [.int r8] ((fl, n1, n2, p, false, ad), I8, J8)
                  show (r8 = 0 ∨ r8 = 1) ∧ _
                  refine ⟨h8.1, ?_⟩
                  exact h8.2
                · show mm_b _ _ _ _ _ [some (.ref 1)] [] ((fl, n1, n2, p, false, ad), I7, J7)
                  show mm_wc d 68 [.ref 1] ((fl, 0, 0, p, false, ad), I7, J7) _
                  refine mm_wcm (h7.2 c6) ?_
                  rintro v τ ⟨r9, I9, J9, rfl, rfl, h9⟩
                  refine mm_r1' ⟨rfl, ?_⟩
                  show mm_b _ _ _ _ _ [some (.ref 1)] [.int r9] ((fl, n1, n2, p, false, ad), I9, J9)
                  show (r9 = 0 ∨ r9 = 1) ∧ _
                  refine ⟨h9.1, ?_⟩
                  exact h9.2
              · show mm_b _ _ _ _ _ [some (.ref 1)] [] ((fl, n1, n2, p, false, ad), I6, J6)
                show mm_wc d 67 [.ref 1] ((fl, 0, 0, p, false, ad), I6, J6) _
                refine mm_wcm (h6.2 c5) ?_
                rintro v τ ⟨r10, I10, J10, rfl, rfl, h10⟩
                refine mm_r1' ⟨rfl, ?_⟩
                show mm_b _ _ _ _ _ [some (.ref 1)] [.int r10] ((fl, n1, n2, p, false, ad), I10, J10)
                show (r10 = 0 ∨ r10 = 1) ∧ _
                refine ⟨h10.1, ?_⟩
                exact h10.2
            · show mm_b _ _ _ _ _ [some (.ref 1)] [] ((fl, n1, n2, p, false, ad), I5, J5)
              show mm_wc d 66 [.ref 1] ((fl, 0, 0, p, false, ad), I5, J5) _
              refine mm_wcm (h5.2 c4) ?_
              rintro v τ ⟨r11, I11, J11, rfl, rfl, h11⟩
              refine mm_r1' ⟨rfl, ?_⟩
              show mm_b _ _ _ _ _ [some (.ref 1)] [.int r11] ((fl, n1, n2, p, false, ad), I11, J11)
              show (r11 = 0 ∨ r11 = 1) ∧ _
              refine ⟨h11.1, ?_⟩
              exact h11.2
          · show mm_b _ _ _ _ _ [some (.ref 1)] [] ((fl, n1, n2, p, false, ad), I4, J4)
            show mm_wc d 63 [.ref 1, .ref 40, .int (nI 3)] ((fl, 0, 0, p, false, ad), I4, J4) _
            refine mm_wcm (h4.2 c3) ?_
            rintro v τ ⟨r12, I12, J12, rfl, rfl, h12⟩
            refine mm_r1' ⟨rfl, ?_⟩
            show mm_b _ _ _ _ _ [some (.ref 1)] [.int r12] ((fl, n1, n2, p, false, ad), I12, J12)
            show (r12 = 0 ∨ r12 = 1) ∧ _
            refine ⟨h12.1, ?_⟩
            exact h12.2
        · show mm_b _ _ _ _ _ [some (.ref 1)] [] ((fl, n1, n2, p, false, ad), I3, J3)
          show mm_wc d 63 [.ref 1, .ref 37, .int (nI 1)] ((fl, 0, 0, p, false, ad), I3, J3) _
          refine mm_wcm (h3.2 c2) ?_
          rintro v τ ⟨r13, I13, J13, rfl, rfl, h13⟩
          refine mm_r1' ⟨rfl, ?_⟩
          show mm_b _ _ _ _ _ [some (.ref 1)] [.int r13] ((fl, n1, n2, p, false, ad), I13, J13)
          show (r13 = 0 ∨ r13 = 1) ∧ _
          refine ⟨h13.1, ?_⟩
          exact h13.2
      · show mm_b _ _ _ _ _ [some (.ref 1)] [] ((fl, n1, n2, p, false, ad), I2, J2)
        show mm_wc d 63 [.ref 1, .ref 33, .int (nI 0)] ((fl, 0, 0, p, false, ad), I2, J2) _
        refine mm_wcm (h2.2 c1) ?_
        rintro v τ ⟨r14, I14, J14, rfl, rfl, h14⟩
        refine mm_r1' ⟨rfl, ?_⟩
        show mm_b _ _ _ _ _ [some (.ref 1)] [.int r14] ((fl, n1, n2, p, false, ad), I14, J14)
        show (r14 = (nI 0) → _) ∧ (¬ r14 = (nI 0) → _)
        refine ⟨fun c2 => ?_, fun c2 => ?_⟩
        · show mm_u _ _ _ _ _ _ [some (.ref 1)] [] ((fl, n1, n2, p, false, ad), I14, J14)
          show (((nI 0) : Int32) = 0 ∨ ((nI 0) : Int32) = 1) ∧ _
          refine ⟨(by decide), ?_⟩
          exact (h14.1 c2)
        · show mm_b _ _ _ _ _ [some (.ref 1)] [] ((fl, n1, n2, p, false, ad), I14, J14)
          show mm_wc d 64 [.ref 1] ((fl, 0, 0, p, false, ad), I14, J14) _
          refine mm_wcm (h14.2 c2) ?_
          rintro v τ ⟨r15, I15, J15, rfl, rfl, h15⟩
          refine mm_r1' ⟨rfl, ?_⟩
          show mm_b _ _ _ _ _ [some (.ref 1)] [.int r15] ((fl, n1, n2, p, false, ad), I15, J15)
          show (r15 = (nI 0) → _) ∧ (¬ r15 = (nI 0) → _)
          refine ⟨fun c3 => ?_, fun c3 => ?_⟩
          · show mm_u _ _ _ _ _ _ [some (.ref 1)] [] ((fl, n1, n2, p, false, ad), I15, J15)
            show (((nI 0) : Int32) = 0 ∨ ((nI 0) : Int32) = 1) ∧ _
            refine ⟨(by decide), ?_⟩
            exact (h15.1 c3)
          · show mm_b _ _ _ _ _ [some (.ref 1)] [] ((fl, n1, n2, p, false, ad), I15, J15)
            show (((nI 1) : Int32) = 0 ∨ ((nI 1) : Int32) = 1) ∧ _
            refine ⟨(by decide), ?_⟩
            exact (h15.2 c3)
    · show mm_b _ _ _ _ _ [some (.ref 1)] [] ((fl, n1, n2, p, false, ad), I1, J1)
      show mm_wc d 62 [.ref 1] ((fl, 0, 0, p, false, ad), I1, J1) _
      refine mm_wcm (h1.2 c0) ?_
      rintro v τ ⟨r16, I16, J16, rfl, rfl, h16⟩
      refine mm_r1' ⟨rfl, ?_⟩
      show mm_b _ _ _ _ _ [some (.ref 1)] [.int r16] ((fl, n1, n2, p, false, ad), I16, J16)
      show (r16 = 0 ∨ r16 = 1) ∧ _
      refine ⟨h16.1, ?_⟩
      exact h16.2
  · refine mm_call (c := 61) rfl rfl ?_
    refine mm_go [] 80 ?_
    show mm_wc d 73 [.ref 1, .ref 98] ((fl, 0, 0, p, true, ad), I, J) _
    refine mm_wcm h ?_
    rintro v τ ⟨r1, I1, J1, rfl, rfl, h1⟩
    refine mm_r1' ⟨rfl, ?_⟩
    show mm_b _ _ _ _ _ [some (.ref 1)] [.int r1] ((fl, n1, n2, p, true, ad), I1, J1)
    show (r1 = (nI 0) → _) ∧ (¬ r1 = (nI 0) → _)
    refine ⟨fun c0 => ?_, fun c0 => ?_⟩
    · show mm_u _ _ _ _ _ _ [some (.ref 1)] [] ((fl, n1, n2, p, true, ad), I1, J1)
      show mm_wc d 73 [.ref 1, .ref 101] ((fl, 0, 0, p, true, ad), I1, J1) _
      refine mm_wcm (h1.1 c0) ?_
      rintro v τ ⟨r2, I2, J2, rfl, rfl, h2⟩
      refine mm_r1' ⟨rfl, ?_⟩
      show mm_b _ _ _ _ _ [some (.ref 1)] [.int r2] ((fl, n1, n2, p, true, ad), I2, J2)
      show (r2 = (nI 0) → _) ∧ (¬ r2 = (nI 0) → _)
      refine ⟨fun c1 => ?_, fun c1 => ?_⟩
      · show mm_u _ _ _ _ _ _ [some (.ref 1)] [] ((fl, n1, n2, p, true, ad), I2, J2)
        show mm_wc d 73 [.ref 1, .ref 102] ((fl, 0, 0, p, true, ad), I2, J2) _
        refine mm_wcm (h2.1 c1) ?_
        rintro v τ ⟨r3, I3, J3, rfl, rfl, h3⟩
        refine mm_r1' ⟨rfl, ?_⟩
        show mm_b _ _ _ _ _ [some (.ref 1)] [.int r3] ((fl, n1, n2, p, true, ad), I3, J3)
        show (r3 = (nI 0) → _) ∧ (¬ r3 = (nI 0) → _)
        refine ⟨fun c2 => ?_, fun c2 => ?_⟩
        · show mm_u _ _ _ _ _ _ [some (.ref 1)] [] ((fl, n1, n2, p, true, ad), I3, J3)
          show mm_wc d 73 [.ref 1, .ref 103] ((fl, 0, 0, p, true, ad), I3, J3) _
          refine mm_wcm (h3.1 c2) ?_
          rintro v τ ⟨r4, I4, J4, rfl, rfl, h4⟩
          refine mm_r1' ⟨rfl, ?_⟩
          show mm_b _ _ _ _ _ [some (.ref 1)] [.int r4] ((fl, n1, n2, p, true, ad), I4, J4)
          show (r4 = (nI 0) → _) ∧ (¬ r4 = (nI 0) → _)
          refine ⟨fun c3 => ?_, fun c3 => ?_⟩
          · show mm_u _ _ _ _ _ _ [some (.ref 1)] [] ((fl, n1, n2, p, true, ad), I4, J4)
            show mm_wc d 73 [.ref 1, .ref 104] ((fl, 0, 0, p, true, ad), I4, J4) _
            refine mm_wcm (h4.1 c3) ?_
            rintro v τ ⟨r5, I5, J5, rfl, rfl, h5⟩
            refine mm_r1' ⟨rfl, ?_⟩
            show mm_b _ _ _ _ _ [some (.ref 1)] [.int r5] ((fl, n1, n2, p, true, ad), I5, J5)
            show (r5 = (nI 0) → _) ∧ (¬ r5 = (nI 0) → _)
            refine ⟨fun c4 => ?_, fun c4 => ?_⟩
            · show mm_u _ _ _ _ _ _ [some (.ref 1)] [] ((fl, n1, n2, p, true, ad), I5, J5)
              show mm_wc d 73 [.ref 1, .ref 105] ((fl, 0, 0, p, true, ad), I5, J5) _
              refine mm_wcm (h5.1 c4) ?_
              rintro v τ ⟨r6, I6, J6, rfl, rfl, h6⟩
              refine mm_r1' ⟨rfl, ?_⟩
              show mm_b _ _ _ _ _ [some (.ref 1)] [.int r6] ((fl, n1, n2, p, true, ad), I6, J6)
              show (r6 = (nI 0) → _) ∧ (¬ r6 = (nI 0) → _)
              refine ⟨fun c5 => ?_, fun c5 => ?_⟩
              · show mm_u _ _ _ _ _ _ [some (.ref 1)] [] ((fl, n1, n2, p, true, ad), I6, J6)
                show mm_wc d 73 [.ref 1, .ref 106] ((fl, 0, 0, p, true, ad), I6, J6) _
                refine mm_wcm (h6.1 c5) ?_
                rintro v τ ⟨r7, I7, J7, rfl, rfl, h7⟩
                refine mm_r1' ⟨rfl, ?_⟩
                show mm_b _ _ _ _ _ [some (.ref 1)] [.int r7] ((fl, n1, n2, p, true, ad), I7, J7)
                show (r7 = (nI 0) → _) ∧ (¬ r7 = (nI 0) → _)
                refine ⟨fun c6 => ?_, fun c6 => ?_⟩
                · show mm_u _ _ _ _ _ _ [some (.ref 1)] [] ((fl, n1, n2, p, true, ad), I7, J7)
                  show mm_wc d 60 [.ref 1, .int (nI 1)] ((fl, 0, 0, p, true, ad), I7, J7) _
                  refine mm_wcm (h7.1 c6) ?_
                  rintro v τ ⟨r8, I8, J8, rfl, rfl, h8⟩
                  refine mm_r1' ⟨rfl, ?_⟩
                  show mm_b _ _ _ _ _ [some (.ref 1)] [.int r8] ((fl, n1, n2, p, true, ad), I8, J8)
                  show (r8 = 0 ∨ r8 = 1) ∧ _
                  refine ⟨h8.1, ?_⟩
                  exact h8.2
                · show mm_b _ _ _ _ _ [some (.ref 1)] [] ((fl, n1, n2, p, true, ad), I7, J7)
                  show mm_wc d 68 [.ref 1] ((fl, 0, 0, p, true, ad), I7, J7) _
                  refine mm_wcm (h7.2 c6) ?_
                  rintro v τ ⟨r9, I9, J9, rfl, rfl, h9⟩
                  refine mm_r1' ⟨rfl, ?_⟩
                  show mm_b _ _ _ _ _ [some (.ref 1)] [.int r9] ((fl, n1, n2, p, true, ad), I9, J9)
                  show (r9 = 0 ∨ r9 = 1) ∧ _
                  refine ⟨h9.1, ?_⟩
                  exact h9.2
              · show mm_b _ _ _ _ _ [some (.ref 1)] [] ((fl, n1, n2, p, true, ad), I6, J6)
                show mm_wc d 67 [.ref 1] ((fl, 0, 0, p, true, ad), I6, J6) _
                refine mm_wcm (h6.2 c5) ?_
                rintro v τ ⟨r10, I10, J10, rfl, rfl, h10⟩
                refine mm_r1' ⟨rfl, ?_⟩
                show mm_b _ _ _ _ _ [some (.ref 1)] [.int r10] ((fl, n1, n2, p, true, ad), I10, J10)
                show (r10 = 0 ∨ r10 = 1) ∧ _
                refine ⟨h10.1, ?_⟩
                exact h10.2
            · show mm_b _ _ _ _ _ [some (.ref 1)] [] ((fl, n1, n2, p, true, ad), I5, J5)
              show mm_wc d 66 [.ref 1] ((fl, 0, 0, p, true, ad), I5, J5) _
              refine mm_wcm (h5.2 c4) ?_
              rintro v τ ⟨r11, I11, J11, rfl, rfl, h11⟩
              refine mm_r1' ⟨rfl, ?_⟩
              show mm_b _ _ _ _ _ [some (.ref 1)] [.int r11] ((fl, n1, n2, p, true, ad), I11, J11)
              show (r11 = 0 ∨ r11 = 1) ∧ _
              refine ⟨h11.1, ?_⟩
              exact h11.2
          · show mm_b _ _ _ _ _ [some (.ref 1)] [] ((fl, n1, n2, p, true, ad), I4, J4)
            show mm_wc d 63 [.ref 1, .ref 26, .int (nI 3)] ((fl, 0, 0, p, true, ad), I4, J4) _
            refine mm_wcm (h4.2 c3) ?_
            rintro v τ ⟨r12, I12, J12, rfl, rfl, h12⟩
            refine mm_r1' ⟨rfl, ?_⟩
            show mm_b _ _ _ _ _ [some (.ref 1)] [.int r12] ((fl, n1, n2, p, true, ad), I12, J12)
            show (r12 = 0 ∨ r12 = 1) ∧ _
            refine ⟨h12.1, ?_⟩
            exact h12.2
        · show mm_b _ _ _ _ _ [some (.ref 1)] [] ((fl, n1, n2, p, true, ad), I3, J3)
          show mm_wc d 63 [.ref 1, .ref 23, .int (nI 1)] ((fl, 0, 0, p, true, ad), I3, J3) _
          refine mm_wcm (h3.2 c2) ?_
          rintro v τ ⟨r13, I13, J13, rfl, rfl, h13⟩
          refine mm_r1' ⟨rfl, ?_⟩
          show mm_b _ _ _ _ _ [some (.ref 1)] [.int r13] ((fl, n1, n2, p, true, ad), I13, J13)
          show (r13 = 0 ∨ r13 = 1) ∧ _
          refine ⟨h13.1, ?_⟩
          exact h13.2
      · show mm_b _ _ _ _ _ [some (.ref 1)] [] ((fl, n1, n2, p, true, ad), I2, J2)
        show mm_wc d 63 [.ref 1, .ref 19, .int (nI 0)] ((fl, 0, 0, p, true, ad), I2, J2) _
        refine mm_wcm (h2.2 c1) ?_
        rintro v τ ⟨r14, I14, J14, rfl, rfl, h14⟩
        refine mm_r1' ⟨rfl, ?_⟩
        show mm_b _ _ _ _ _ [some (.ref 1)] [.int r14] ((fl, n1, n2, p, true, ad), I14, J14)
        show (r14 = (nI 0) → _) ∧ (¬ r14 = (nI 0) → _)
        refine ⟨fun c2 => ?_, fun c2 => ?_⟩
        · show mm_u _ _ _ _ _ _ [some (.ref 1)] [] ((fl, n1, n2, p, true, ad), I14, J14)
          show (((nI 0) : Int32) = 0 ∨ ((nI 0) : Int32) = 1) ∧ _
          refine ⟨(by decide), ?_⟩
          exact (h14.1 c2)
        · show mm_b _ _ _ _ _ [some (.ref 1)] [] ((fl, n1, n2, p, true, ad), I14, J14)
          show mm_wc d 64 [.ref 1] ((fl, 0, 0, p, true, ad), I14, J14) _
          refine mm_wcm (h14.2 c2) ?_
          rintro v τ ⟨r15, I15, J15, rfl, rfl, h15⟩
          refine mm_r1' ⟨rfl, ?_⟩
          show mm_b _ _ _ _ _ [some (.ref 1)] [.int r15] ((fl, n1, n2, p, true, ad), I15, J15)
          show (r15 = (nI 0) → _) ∧ (¬ r15 = (nI 0) → _)
          refine ⟨fun c3 => ?_, fun c3 => ?_⟩
          · show mm_u _ _ _ _ _ _ [some (.ref 1)] [] ((fl, n1, n2, p, true, ad), I15, J15)
            show (((nI 0) : Int32) = 0 ∨ ((nI 0) : Int32) = 1) ∧ _
            refine ⟨(by decide), ?_⟩
            exact (h15.1 c3)
          · show mm_b _ _ _ _ _ [some (.ref 1)] [] ((fl, n1, n2, p, true, ad), I15, J15)
            show (((nI 1) : Int32) = 0 ∨ ((nI 1) : Int32) = 1) ∧ _
            refine ⟨(by decide), ?_⟩
            exact (h15.2 c3)
    · show mm_b _ _ _ _ _ [some (.ref 1)] [] ((fl, n1, n2, p, true, ad), I1, J1)
      show mm_wc d 62 [.ref 1] ((fl, 0, 0, p, true, ad), I1, J1) _
      refine mm_wcm (h1.2 c0) ?_
      rintro v τ ⟨r16, I16, J16, rfl, rfl, h16⟩
      refine mm_r1' ⟨rfl, ?_⟩
      show mm_b _ _ _ _ _ [some (.ref 1)] [.int r16] ((fl, n1, n2, p, true, ad), I16, J16)
      show (r16 = 0 ∨ r16 = 1) ∧ _
      refine ⟨h16.1, ?_⟩
      exact h16.2
/- 62 ThreeBreaths$Reader takeCake -/
theorem fx_62 {d : Nat} {fl : Nat → Bool} {n1 n2 : Nat} {p q : Bool} {ad : Nat → Nat} {I : mmI} {J : mmJ} {Q : mmQ} (h : (((I (mm_ck q 0) 7) = (-1) → mm_wc d 77 [.ref 1] ((fl, 0, 0, p, q, ad), I, J) (fun v τ => ∃ I1 J1, v = none ∧ τ = ((fl, 0, 0, p, q, ad), I1, J1) ∧ mm_wc d 74 [.ref 1, .ref 99] ((fl, 0, 0, p, q, ad), I1, J1) (fun v τ => ∃ r2 I2 J2, v = some (.int r2) ∧ τ = ((fl, 0, 0, p, q, ad), I2, J2) ∧ ((r2 = (nI 0) → Q (some (.int (nI 0))) ((fl, n1, n2, p, q, ad), I2, J2)) ∧ (¬ r2 = (nI 0) → mm_wc d 75 [.ref 1, .int (nI 0), .int (nI 20)] ((fl, 0, 0, p, q, ad), I2, J2) (fun v τ => ∃ r3 I3 J3, v = some (.int r3) ∧ τ = ((fl, 0, 0, p, q, ad), I3, J3) ∧ ((¬ r3 = (nI 0) → mm_wc d 74 [.ref 1, .ref 100] ((fl, 0, 0, p, q, ad), (mm_up I3 (mm_ck q 0) 7 (I3 1 8)), J3) (fun v τ => ∃ r4 I4 J4, v = some (.int r4) ∧ τ = ((fl, 0, 0, p, q, ad), I4, J4) ∧ ((r4 = (nI 0) → Q (some (.int (nI 0))) ((fl, n1, n2, p, q, ad), I4, J4)) ∧ (¬ r4 = (nI 0) → mm_wc d 75 [.ref 1, .int (nI 1), .int (nI 9)] ((fl, 0, 0, p, q, ad), I4, J4) (fun v τ => ∃ r5 I5 J5, v = some (.int r5) ∧ τ = ((fl, 0, 0, p, q, ad), I5, J5) ∧ ((¬ r5 = (nI 0) → Q (some (.int (nI 1))) ((fl, n1, n2, p, q, ad), (mm_up I5 (mm_ck q 0) 8 (I5 1 8)), J5)) ∧ (r5 = (nI 0) → Q (some (.int (nI 0))) ((fl, n1, n2, p, q, ad), I5, J5)))))))) ∧ (r3 = (nI 0) → Q (some (.int (nI 0))) ((fl, n1, n2, p, q, ad), I3, J3))))))))) ∧ (¬ (I (mm_ck q 0) 7) = (-1) → mm_wc d 60 [.ref 1, .int (nI 3)] ((fl, 0, 0, p, q, ad), I, J) (fun v τ => ∃ r6 I6 J6, v = some (.int r6) ∧ τ = ((fl, 0, 0, p, q, ad), I6, J6) ∧ ((r6 = 0 ∨ r6 = 1) ∧ Q (some (.int r6)) ((fl, n1, n2, p, q, ad), I6, J6)))))) : mm_wc (d + 1) 62 [.ref 1] ((fl, n1, n2, p, q, ad), I, J) Q := by
  cases q
  · refine mm_call (c := 62) rfl rfl ?_
    refine mm_go [] 80 ?_
    show ((I 32 7) = (-1) → _) ∧ (¬ (I 32 7) = (-1) → _)
    refine ⟨fun c0 => ?_, fun c0 => ?_⟩
    · show mm_u _ _ _ _ _ _ [some (.ref 1)] [] ((fl, n1, n2, p, false, ad), I, J)
      show mm_wc d 77 [.ref 1] ((fl, 0, 0, p, false, ad), I, J) _
      refine mm_wcm (h.1 c0) ?_
      rintro v τ ⟨I1, J1, rfl, rfl, h1⟩
      refine mm_r0' ⟨rfl, ?_⟩
      show mm_b _ _ _ _ _ [some (.ref 1)] [] ((fl, n1, n2, p, false, ad), I1, J1)
      show mm_wc d 74 [.ref 1, .ref 99] ((fl, 0, 0, p, false, ad), I1, J1) _
      refine mm_wcm h1 ?_
      rintro v τ ⟨r2, I2, J2, rfl, rfl, h2⟩
      refine mm_r1' ⟨rfl, ?_⟩
      show mm_b _ _ _ _ _ [some (.ref 1)] [.int r2] ((fl, n1, n2, p, false, ad), I2, J2)
      show (r2 = (nI 0) → _) ∧ (¬ r2 = (nI 0) → _)
      refine ⟨fun c1 => ?_, fun c1 => ?_⟩
      · show mm_u _ _ _ _ _ _ [some (.ref 1)] [] ((fl, n1, n2, p, false, ad), I2, J2)
        show (((nI 0) : Int32) = 0 ∨ ((nI 0) : Int32) = 1) ∧ _
        refine ⟨(by decide), ?_⟩
        exact (h2.1 c1)
      · show mm_b _ _ _ _ _ [some (.ref 1)] [] ((fl, n1, n2, p, false, ad), I2, J2)
        show mm_wc d 75 [.ref 1, .int (nI 0), .int (nI 20)] ((fl, 0, 0, p, false, ad), I2, J2) _
        refine mm_wcm (h2.2 c1) ?_
        rintro v τ ⟨r3, I3, J3, rfl, rfl, h3⟩
        refine mm_r1' ⟨rfl, ?_⟩
        show mm_b _ _ _ _ _ [some (.ref 1)] [.int r3] ((fl, n1, n2, p, false, ad), I3, J3)
        show (¬ r3 = (nI 0) → _) ∧ (r3 = (nI 0) → _)
        refine ⟨fun c2 => ?_, fun c2 => ?_⟩
        · show mm_u _ _ _ _ _ _ [some (.ref 1)] [] ((fl, n1, n2, p, false, ad), I3, J3)
          show mm_wc d 74 [.ref 1, .ref 100] ((fl, 0, 0, p, false, ad), (mm_up I3 32 7 (I3 1 8)), J3) _
          refine mm_wcm (h3.1 c2) ?_
          rintro v τ ⟨r4, I4, J4, rfl, rfl, h4⟩
          refine mm_r1' ⟨rfl, ?_⟩
          show mm_b _ _ _ _ _ [some (.ref 1)] [.int r4] ((fl, n1, n2, p, false, ad), I4, J4)
          show (r4 = (nI 0) → _) ∧ (¬ r4 = (nI 0) → _)
          refine ⟨fun c3 => ?_, fun c3 => ?_⟩
          · show mm_u _ _ _ _ _ _ [some (.ref 1)] [] ((fl, n1, n2, p, false, ad), I4, J4)
            show (((nI 0) : Int32) = 0 ∨ ((nI 0) : Int32) = 1) ∧ _
            refine ⟨(by decide), ?_⟩
            exact (h4.1 c3)
          · show mm_b _ _ _ _ _ [some (.ref 1)] [] ((fl, n1, n2, p, false, ad), I4, J4)
            show mm_wc d 75 [.ref 1, .int (nI 1), .int (nI 9)] ((fl, 0, 0, p, false, ad), I4, J4) _
            refine mm_wcm (h4.2 c3) ?_
            rintro v τ ⟨r5, I5, J5, rfl, rfl, h5⟩
            refine mm_r1' ⟨rfl, ?_⟩
            show mm_b _ _ _ _ _ [some (.ref 1)] [.int r5] ((fl, n1, n2, p, false, ad), I5, J5)
            show (¬ r5 = (nI 0) → _) ∧ (r5 = (nI 0) → _)
            refine ⟨fun c4 => ?_, fun c4 => ?_⟩
            · show mm_u _ _ _ _ _ _ [some (.ref 1)] [] ((fl, n1, n2, p, false, ad), I5, J5)
              show (((nI 1) : Int32) = 0 ∨ ((nI 1) : Int32) = 1) ∧ _
              refine ⟨(by decide), ?_⟩
              exact (h5.1 c4)
            · show mm_b _ _ _ _ _ [some (.ref 1)] [] ((fl, n1, n2, p, false, ad), I5, J5)
              show (((nI 0) : Int32) = 0 ∨ ((nI 0) : Int32) = 1) ∧ _
              refine ⟨(by decide), ?_⟩
              exact (h5.2 c4)
        · show mm_b _ _ _ _ _ [some (.ref 1)] [] ((fl, n1, n2, p, false, ad), I3, J3)
          show (((nI 0) : Int32) = 0 ∨ ((nI 0) : Int32) = 1) ∧ _
          refine ⟨(by decide), ?_⟩
          exact (h3.2 c2)
    · show mm_b _ _ _ _ _ [some (.ref 1)] [] ((fl, n1, n2, p, false, ad), I, J)
      show mm_wc d 60 [.ref 1, .int (nI 3)] ((fl, 0, 0, p, false, ad), I, J) _
      refine mm_wcm (h.2 c0) ?_
      rintro v τ ⟨r6, I6, J6, rfl, rfl, h6⟩
      refine mm_r1' ⟨rfl, ?_⟩
      show mm_b _ _ _ _ _ [some (.ref 1)] [.int r6] ((fl, n1, n2, p, false, ad), I6, J6)
      show (r6 = 0 ∨ r6 = 1) ∧ _
      refine ⟨h6.1, ?_⟩
      exact h6.2
  · refine mm_call (c := 62) rfl rfl ?_
    refine mm_go [] 80 ?_
    show ((I 18 7) = (-1) → _) ∧ (¬ (I 18 7) = (-1) → _)
    refine ⟨fun c0 => ?_, fun c0 => ?_⟩
    · show mm_u _ _ _ _ _ _ [some (.ref 1)] [] ((fl, n1, n2, p, true, ad), I, J)
      show mm_wc d 77 [.ref 1] ((fl, 0, 0, p, true, ad), I, J) _
      refine mm_wcm (h.1 c0) ?_
      rintro v τ ⟨I1, J1, rfl, rfl, h1⟩
      refine mm_r0' ⟨rfl, ?_⟩
      show mm_b _ _ _ _ _ [some (.ref 1)] [] ((fl, n1, n2, p, true, ad), I1, J1)
      show mm_wc d 74 [.ref 1, .ref 99] ((fl, 0, 0, p, true, ad), I1, J1) _
      refine mm_wcm h1 ?_
      rintro v τ ⟨r2, I2, J2, rfl, rfl, h2⟩
      refine mm_r1' ⟨rfl, ?_⟩
      show mm_b _ _ _ _ _ [some (.ref 1)] [.int r2] ((fl, n1, n2, p, true, ad), I2, J2)
      show (r2 = (nI 0) → _) ∧ (¬ r2 = (nI 0) → _)
      refine ⟨fun c1 => ?_, fun c1 => ?_⟩
      · show mm_u _ _ _ _ _ _ [some (.ref 1)] [] ((fl, n1, n2, p, true, ad), I2, J2)
        show (((nI 0) : Int32) = 0 ∨ ((nI 0) : Int32) = 1) ∧ _
        refine ⟨(by decide), ?_⟩
        exact (h2.1 c1)
      · show mm_b _ _ _ _ _ [some (.ref 1)] [] ((fl, n1, n2, p, true, ad), I2, J2)
        show mm_wc d 75 [.ref 1, .int (nI 0), .int (nI 20)] ((fl, 0, 0, p, true, ad), I2, J2) _
        refine mm_wcm (h2.2 c1) ?_
        rintro v τ ⟨r3, I3, J3, rfl, rfl, h3⟩
        refine mm_r1' ⟨rfl, ?_⟩
        show mm_b _ _ _ _ _ [some (.ref 1)] [.int r3] ((fl, n1, n2, p, true, ad), I3, J3)
        show (¬ r3 = (nI 0) → _) ∧ (r3 = (nI 0) → _)
        refine ⟨fun c2 => ?_, fun c2 => ?_⟩
        · show mm_u _ _ _ _ _ _ [some (.ref 1)] [] ((fl, n1, n2, p, true, ad), I3, J3)
          show mm_wc d 74 [.ref 1, .ref 100] ((fl, 0, 0, p, true, ad), (mm_up I3 18 7 (I3 1 8)), J3) _
          refine mm_wcm (h3.1 c2) ?_
          rintro v τ ⟨r4, I4, J4, rfl, rfl, h4⟩
          refine mm_r1' ⟨rfl, ?_⟩
          show mm_b _ _ _ _ _ [some (.ref 1)] [.int r4] ((fl, n1, n2, p, true, ad), I4, J4)
          show (r4 = (nI 0) → _) ∧ (¬ r4 = (nI 0) → _)
          refine ⟨fun c3 => ?_, fun c3 => ?_⟩
          · show mm_u _ _ _ _ _ _ [some (.ref 1)] [] ((fl, n1, n2, p, true, ad), I4, J4)
            show (((nI 0) : Int32) = 0 ∨ ((nI 0) : Int32) = 1) ∧ _
            refine ⟨(by decide), ?_⟩
            exact (h4.1 c3)
          · show mm_b _ _ _ _ _ [some (.ref 1)] [] ((fl, n1, n2, p, true, ad), I4, J4)
            show mm_wc d 75 [.ref 1, .int (nI 1), .int (nI 9)] ((fl, 0, 0, p, true, ad), I4, J4) _
            refine mm_wcm (h4.2 c3) ?_
            rintro v τ ⟨r5, I5, J5, rfl, rfl, h5⟩
            refine mm_r1' ⟨rfl, ?_⟩
            show mm_b _ _ _ _ _ [some (.ref 1)] [.int r5] ((fl, n1, n2, p, true, ad), I5, J5)
            show (¬ r5 = (nI 0) → _) ∧ (r5 = (nI 0) → _)
            refine ⟨fun c4 => ?_, fun c4 => ?_⟩
            · show mm_u _ _ _ _ _ _ [some (.ref 1)] [] ((fl, n1, n2, p, true, ad), I5, J5)
              show (((nI 1) : Int32) = 0 ∨ ((nI 1) : Int32) = 1) ∧ _
              refine ⟨(by decide), ?_⟩
              exact (h5.1 c4)
            · show mm_b _ _ _ _ _ [some (.ref 1)] [] ((fl, n1, n2, p, true, ad), I5, J5)
              show (((nI 0) : Int32) = 0 ∨ ((nI 0) : Int32) = 1) ∧ _
              refine ⟨(by decide), ?_⟩
              exact (h5.2 c4)
        · show mm_b _ _ _ _ _ [some (.ref 1)] [] ((fl, n1, n2, p, true, ad), I3, J3)
          show (((nI 0) : Int32) = 0 ∨ ((nI 0) : Int32) = 1) ∧ _
          refine ⟨(by decide), ?_⟩
          exact (h3.2 c2)
    · show mm_b _ _ _ _ _ [some (.ref 1)] [] ((fl, n1, n2, p, true, ad), I, J)
      show mm_wc d 60 [.ref 1, .int (nI 3)] ((fl, 0, 0, p, true, ad), I, J) _
      refine mm_wcm (h.2 c0) ?_
      rintro v τ ⟨r6, I6, J6, rfl, rfl, h6⟩
      refine mm_r1' ⟨rfl, ?_⟩
      show mm_b _ _ _ _ _ [some (.ref 1)] [.int r6] ((fl, n1, n2, p, true, ad), I6, J6)
      show (r6 = 0 ∨ r6 = 1) ∧ _
      refine ⟨h6.1, ?_⟩
      exact h6.2
/- 63 ThreeBreaths$Reader takePoint -/
theorem fx_63c {d : Nat} {x1 : Int32} {fl : Nat → Bool} {n1 n2 : Nat} {p q : Bool} {ad : Nat → Nat} {I : mmI} {J : mmJ} {Q : mmQ} (h : mm_wc d 54 [.ref (mm_ck q 1)] ((fl, 0, 0, p, q, ad), I, J) (fun v τ => ∃ r1 I1 J1, v = some (.int r1) ∧ τ = ((fl, 0, 0, p, q, ad), I1, J1) ∧ ((r1 = (nI 0) → mm_wc d 77 [.ref 1] ((fl, 0, 0, p, q, ad), I1, J1) (fun v τ => ∃ I2 J2, v = none ∧ τ = ((fl, 0, 0, p, q, ad), I2, J2) ∧ mm_wc d 70 [.ref 1, .int x1, .int (I2 (mm_ck q 1) 3)] ((fl, 0, 0, p, q, ad), I2, J2) (fun v τ => ∃ r3 I3 J3, v = some (.int r3) ∧ τ = ((fl, 0, 0, p, q, ad), I3, J3) ∧ ((r3 = (nI 0) → Q (some (.int (nI 0))) ((fl, n1, n2, p, q, ad), I3, J3)) ∧ (¬ r3 = (nI 0) → mm_wc d 74 [.ref 1, .ref 108] ((fl, 0, 0, p, q, ad), I3, J3) (fun v τ => ∃ r4 I4 J4, v = some (.int r4) ∧ τ = ((fl, 0, 0, p, q, ad), I4, J4) ∧ ((r4 = (nI 0) → Q (some (.int (nI 0))) ((fl, n1, n2, p, q, ad), I4, J4)) ∧ (¬ r4 = (nI 0) → mm_wc d 75 [.ref 1, .int (nI 0), .int (nI 20)] ((fl, 0, 0, p, q, ad), I4, J4) (fun v τ => ∃ r5 I5 J5, v = some (.int r5) ∧ τ = ((fl, 0, 0, p, q, ad), I5, J5) ∧ ((¬ r5 = (nI 0) → mm_wc d 76 [.ref 1, .int (nI 4)] ((fl, 0, 0, p, q, ad), I5, J5) (fun v τ => ∃ r6 I6 J6, v = some (.int r6) ∧ τ = ((fl, 0, 0, p, q, ad), I6, J6) ∧ ((r6 = (nI 0) → Q (some (.int (nI 0))) ((fl, n1, n2, p, q, ad), I6, J6)) ∧ (¬ r6 = (nI 0) → mm_wc d 75 [.ref 1, .int (nI 0), .int (nI 20)] ((fl, 0, 0, p, q, ad), I6, J6) (fun v τ => ∃ r7 I7 J7, v = some (.int r7) ∧ τ = ((fl, 0, 0, p, q, ad), I7, J7) ∧ ((¬ r7 = (nI 0) → mm_wc d 55 [.ref (mm_ck q 1), .int (I5 1 8), .int (I7 1 8)] ((fl, 0, 0, p, q, ad), I7, J7) (fun v τ => ∃ I8 J8, v = none ∧ τ = ((fl, 0, 0, p, q, ad), I8, J8) ∧ Q (some (.int (nI 1))) ((fl, n1, n2, p, q, ad), I8, J8))) ∧ (r7 = (nI 0) → Q (some (.int (nI 0))) ((fl, n1, n2, p, q, ad), I7, J7)))))))) ∧ (r5 = (nI 0) → Q (some (.int (nI 0))) ((fl, n1, n2, p, q, ad), I5, J5)))))))))))) ∧ (¬ r1 = (nI 0) → mm_wc d 60 [.ref 1, .int (nI 5)] ((fl, 0, 0, p, q, ad), I1, J1) (fun v τ => ∃ r9 I9 J9, v = some (.int r9) ∧ τ = ((fl, 0, 0, p, q, ad), I9, J9) ∧ ((r9 = 0 ∨ r9 = 1) ∧ Q (some (.int r9)) ((fl, n1, n2, p, q, ad), I9, J9))))))) : mm_wc (d + 1) 63 [.ref 1, .ref (mm_ck q 1), .int x1] ((fl, n1, n2, p, q, ad), I, J) Q := by
  cases q
  · refine mm_call (c := 63) rfl rfl ?_
    refine mm_go [] 80 ?_
    show mm_wc d 54 [.ref 33] ((fl, 0, 0, p, false, ad), I, J) _
    refine mm_wcm h ?_
    rintro v τ ⟨r1, I1, J1, rfl, rfl, h1⟩
    refine mm_r1' ⟨rfl, ?_⟩
    show mm_b _ _ _ _ _ [some (.ref 1), some (.ref 33), some (.int x1), none] [.int r1] ((fl, n1, n2, p, false, ad), I1, J1)
    show (r1 = (nI 0) → _) ∧ (¬ r1 = (nI 0) → _)
    refine ⟨fun c0 => ?_, fun c0 => ?_⟩
    · show mm_u _ _ _ _ _ _ [some (.ref 1), some (.ref 33), some (.int x1), none] [] ((fl, n1, n2, p, false, ad), I1, J1)
      show mm_wc d 77 [.ref 1] ((fl, 0, 0, p, false, ad), I1, J1) _
      refine mm_wcm (h1.1 c0) ?_
      rintro v τ ⟨I2, J2, rfl, rfl, h2⟩
      refine mm_r0' ⟨rfl, ?_⟩
      show mm_b _ _ _ _ _ [some (.ref 1), some (.ref 33), some (.int x1), none] [] ((fl, n1, n2, p, false, ad), I2, J2)
      show mm_wc d 70 [.ref 1, .int x1, .int (I2 33 3)] ((fl, 0, 0, p, false, ad), I2, J2) _
      refine mm_wcm h2 ?_
      rintro v τ ⟨r3, I3, J3, rfl, rfl, h3⟩
      refine mm_r1' ⟨rfl, ?_⟩
      show mm_b _ _ _ _ _ [some (.ref 1), some (.ref 33), some (.int x1), none] [.int r3] ((fl, n1, n2, p, false, ad), I3, J3)
      show (r3 = (nI 0) → _) ∧ (¬ r3 = (nI 0) → _)
      refine ⟨fun c1 => ?_, fun c1 => ?_⟩
      · show mm_u _ _ _ _ _ _ [some (.ref 1), some (.ref 33), some (.int x1), none] [] ((fl, n1, n2, p, false, ad), I3, J3)
        show (((nI 0) : Int32) = 0 ∨ ((nI 0) : Int32) = 1) ∧ _
        refine ⟨(by decide), ?_⟩
        exact (h3.1 c1)
      · show mm_b _ _ _ _ _ [some (.ref 1), some (.ref 33), some (.int x1), none] [] ((fl, n1, n2, p, false, ad), I3, J3)
        show mm_wc d 74 [.ref 1, .ref 108] ((fl, 0, 0, p, false, ad), I3, J3) _
        refine mm_wcm (h3.2 c1) ?_
        rintro v τ ⟨r4, I4, J4, rfl, rfl, h4⟩
        refine mm_r1' ⟨rfl, ?_⟩
        show mm_b _ _ _ _ _ [some (.ref 1), some (.ref 33), some (.int x1), none] [.int r4] ((fl, n1, n2, p, false, ad), I4, J4)
        show (r4 = (nI 0) → _) ∧ (¬ r4 = (nI 0) → _)
        refine ⟨fun c2 => ?_, fun c2 => ?_⟩
        · show mm_u _ _ _ _ _ _ [some (.ref 1), some (.ref 33), some (.int x1), none] [] ((fl, n1, n2, p, false, ad), I4, J4)
          show (((nI 0) : Int32) = 0 ∨ ((nI 0) : Int32) = 1) ∧ _
          refine ⟨(by decide), ?_⟩
          exact (h4.1 c2)
        · show mm_b _ _ _ _ _ [some (.ref 1), some (.ref 33), some (.int x1), none] [] ((fl, n1, n2, p, false, ad), I4, J4)
          show mm_wc d 75 [.ref 1, .int (nI 0), .int (nI 20)] ((fl, 0, 0, p, false, ad), I4, J4) _
          refine mm_wcm (h4.2 c2) ?_
          rintro v τ ⟨r5, I5, J5, rfl, rfl, h5⟩
          refine mm_r1' ⟨rfl, ?_⟩
          show mm_b _ _ _ _ _ [some (.ref 1), some (.ref 33), some (.int x1), none] [.int r5] ((fl, n1, n2, p, false, ad), I5, J5)
          show (¬ r5 = (nI 0) → _) ∧ (r5 = (nI 0) → _)
          refine ⟨fun c3 => ?_, fun c3 => ?_⟩
          · show mm_u _ _ _ _ _ _ [some (.ref 1), some (.ref 33), some (.int x1), none] [] ((fl, n1, n2, p, false, ad), I5, J5)
            show mm_wc d 76 [.ref 1, .int (nI 4)] ((fl, 0, 0, p, false, ad), I5, J5) _
            refine mm_wcm (h5.1 c3) ?_
            rintro v τ ⟨r6, I6, J6, rfl, rfl, h6⟩
            refine mm_r1' ⟨rfl, ?_⟩
            show mm_b _ _ _ _ _ [some (.ref 1), some (.ref 33), none, some (.int (I5 1 8))] [.int r6] ((fl, n1, n2, p, false, ad), I6, J6)
            show (r6 = (nI 0) → _) ∧ (¬ r6 = (nI 0) → _)
            refine ⟨fun c4 => ?_, fun c4 => ?_⟩
            · show mm_u _ _ _ _ _ _ [some (.ref 1), some (.ref 33), none, some (.int (I5 1 8))] [] ((fl, n1, n2, p, false, ad), I6, J6)
              show (((nI 0) : Int32) = 0 ∨ ((nI 0) : Int32) = 1) ∧ _
              refine ⟨(by decide), ?_⟩
              exact (h6.1 c4)
            · show mm_b _ _ _ _ _ [some (.ref 1), some (.ref 33), none, some (.int (I5 1 8))] [] ((fl, n1, n2, p, false, ad), I6, J6)
              show mm_wc d 75 [.ref 1, .int (nI 0), .int (nI 20)] ((fl, 0, 0, p, false, ad), I6, J6) _
              refine mm_wcm (h6.2 c4) ?_
              rintro v τ ⟨r7, I7, J7, rfl, rfl, h7⟩
              refine mm_r1' ⟨rfl, ?_⟩
              show mm_b _ _ _ _ _ [some (.ref 1), some (.ref 33), none, some (.int (I5 1 8))] [.int r7] ((fl, n1, n2, p, false, ad), I7, J7)
              show (¬ r7 = (nI 0) → _) ∧ (r7 = (nI 0) → _)
              refine ⟨fun c5 => ?_, fun c5 => ?_⟩
              · show mm_u _ _ _ _ _ _ [some (.ref 1), some (.ref 33), none, some (.int (I5 1 8))] [] ((fl, n1, n2, p, false, ad), I7, J7)
                show mm_wc d 55 [.ref 33, .int (I5 1 8), .int (I7 1 8)] ((fl, 0, 0, p, false, ad), I7, J7) _
                refine mm_wcm (h7.1 c5) ?_
                rintro v τ ⟨I8, J8, rfl, rfl, h8⟩
                refine mm_r0' ⟨rfl, ?_⟩
                show mm_b _ _ _ _ _ [some (.ref 1), some (.ref 33), none, some (.int (I5 1 8))] [] ((fl, n1, n2, p, false, ad), I8, J8)
                show (((nI 1) : Int32) = 0 ∨ ((nI 1) : Int32) = 1) ∧ _
                refine ⟨(by decide), ?_⟩
                exact h8
              · show mm_b _ _ _ _ _ [some (.ref 1), some (.ref 33), none, some (.int (I5 1 8))] [] ((fl, n1, n2, p, false, ad), I7, J7)
                show (((nI 0) : Int32) = 0 ∨ ((nI 0) : Int32) = 1) ∧ _
                refine ⟨(by decide), ?_⟩
                exact (h7.2 c5)
          · show mm_b _ _ _ _ _ [some (.ref 1), some (.ref 33), some (.int x1), none] [] ((fl, n1, n2, p, false, ad), I5, J5)
            show (((nI 0) : Int32) = 0 ∨ ((nI 0) : Int32) = 1) ∧ _
            refine ⟨(by decide), ?_⟩
            exact (h5.2 c3)
    · show mm_b _ _ _ _ _ [some (.ref 1), some (.ref 33), some (.int x1), none] [] ((fl, n1, n2, p, false, ad), I1, J1)
      show mm_wc d 60 [.ref 1, .int (nI 5)] ((fl, 0, 0, p, false, ad), I1, J1) _
      refine mm_wcm (h1.2 c0) ?_
      rintro v τ ⟨r9, I9, J9, rfl, rfl, h9⟩
      refine mm_r1' ⟨rfl, ?_⟩
      show mm_b _ _ _ _ _ [some (.ref 1), some (.ref 33), some (.int x1), none] [.int r9] ((fl, n1, n2, p, false, ad), I9, J9)
      show (r9 = 0 ∨ r9 = 1) ∧ _
      refine ⟨h9.1, ?_⟩
      exact h9.2
  · refine mm_call (c := 63) rfl rfl ?_
    refine mm_go [] 80 ?_
    show mm_wc d 54 [.ref 19] ((fl, 0, 0, p, true, ad), I, J) _
    refine mm_wcm h ?_
    rintro v τ ⟨r1, I1, J1, rfl, rfl, h1⟩
    refine mm_r1' ⟨rfl, ?_⟩
    show mm_b _ _ _ _ _ [some (.ref 1), some (.ref 19), some (.int x1), none] [.int r1] ((fl, n1, n2, p, true, ad), I1, J1)
    show (r1 = (nI 0) → _) ∧ (¬ r1 = (nI 0) → _)
    refine ⟨fun c0 => ?_, fun c0 => ?_⟩
    · show mm_u _ _ _ _ _ _ [some (.ref 1), some (.ref 19), some (.int x1), none] [] ((fl, n1, n2, p, true, ad), I1, J1)
      show mm_wc d 77 [.ref 1] ((fl, 0, 0, p, true, ad), I1, J1) _
      refine mm_wcm (h1.1 c0) ?_
      rintro v τ ⟨I2, J2, rfl, rfl, h2⟩
      refine mm_r0' ⟨rfl, ?_⟩
      show mm_b _ _ _ _ _ [some (.ref 1), some (.ref 19), some (.int x1), none] [] ((fl, n1, n2, p, true, ad), I2, J2)
      show mm_wc d 70 [.ref 1, .int x1, .int (I2 19 3)] ((fl, 0, 0, p, true, ad), I2, J2) _
      refine mm_wcm h2 ?_
      rintro v τ ⟨r3, I3, J3, rfl, rfl, h3⟩
      refine mm_r1' ⟨rfl, ?_⟩
      show mm_b _ _ _ _ _ [some (.ref 1), some (.ref 19), some (.int x1), none] [.int r3] ((fl, n1, n2, p, true, ad), I3, J3)
      show (r3 = (nI 0) → _) ∧ (¬ r3 = (nI 0) → _)
      refine ⟨fun c1 => ?_, fun c1 => ?_⟩
      · show mm_u _ _ _ _ _ _ [some (.ref 1), some (.ref 19), some (.int x1), none] [] ((fl, n1, n2, p, true, ad), I3, J3)
        show (((nI 0) : Int32) = 0 ∨ ((nI 0) : Int32) = 1) ∧ _
        refine ⟨(by decide), ?_⟩
        exact (h3.1 c1)
      · show mm_b _ _ _ _ _ [some (.ref 1), some (.ref 19), some (.int x1), none] [] ((fl, n1, n2, p, true, ad), I3, J3)
        show mm_wc d 74 [.ref 1, .ref 108] ((fl, 0, 0, p, true, ad), I3, J3) _
        refine mm_wcm (h3.2 c1) ?_
        rintro v τ ⟨r4, I4, J4, rfl, rfl, h4⟩
        refine mm_r1' ⟨rfl, ?_⟩
        show mm_b _ _ _ _ _ [some (.ref 1), some (.ref 19), some (.int x1), none] [.int r4] ((fl, n1, n2, p, true, ad), I4, J4)
        show (r4 = (nI 0) → _) ∧ (¬ r4 = (nI 0) → _)
        refine ⟨fun c2 => ?_, fun c2 => ?_⟩
        · show mm_u _ _ _ _ _ _ [some (.ref 1), some (.ref 19), some (.int x1), none] [] ((fl, n1, n2, p, true, ad), I4, J4)
          show (((nI 0) : Int32) = 0 ∨ ((nI 0) : Int32) = 1) ∧ _
          refine ⟨(by decide), ?_⟩
          exact (h4.1 c2)
        · show mm_b _ _ _ _ _ [some (.ref 1), some (.ref 19), some (.int x1), none] [] ((fl, n1, n2, p, true, ad), I4, J4)
          show mm_wc d 75 [.ref 1, .int (nI 0), .int (nI 20)] ((fl, 0, 0, p, true, ad), I4, J4) _
          refine mm_wcm (h4.2 c2) ?_
          rintro v τ ⟨r5, I5, J5, rfl, rfl, h5⟩
          refine mm_r1' ⟨rfl, ?_⟩
          show mm_b _ _ _ _ _ [some (.ref 1), some (.ref 19), some (.int x1), none] [.int r5] ((fl, n1, n2, p, true, ad), I5, J5)
          show (¬ r5 = (nI 0) → _) ∧ (r5 = (nI 0) → _)
          refine ⟨fun c3 => ?_, fun c3 => ?_⟩
          · show mm_u _ _ _ _ _ _ [some (.ref 1), some (.ref 19), some (.int x1), none] [] ((fl, n1, n2, p, true, ad), I5, J5)
            show mm_wc d 76 [.ref 1, .int (nI 4)] ((fl, 0, 0, p, true, ad), I5, J5) _
            refine mm_wcm (h5.1 c3) ?_
            rintro v τ ⟨r6, I6, J6, rfl, rfl, h6⟩
            refine mm_r1' ⟨rfl, ?_⟩
            show mm_b _ _ _ _ _ [some (.ref 1), some (.ref 19), none, some (.int (I5 1 8))] [.int r6] ((fl, n1, n2, p, true, ad), I6, J6)
            show (r6 = (nI 0) → _) ∧ (¬ r6 = (nI 0) → _)
            refine ⟨fun c4 => ?_, fun c4 => ?_⟩
            · show mm_u _ _ _ _ _ _ [some (.ref 1), some (.ref 19), none, some (.int (I5 1 8))] [] ((fl, n1, n2, p, true, ad), I6, J6)
              show (((nI 0) : Int32) = 0 ∨ ((nI 0) : Int32) = 1) ∧ _
              refine ⟨(by decide), ?_⟩
              exact (h6.1 c4)
            · show mm_b _ _ _ _ _ [some (.ref 1), some (.ref 19), none, some (.int (I5 1 8))] [] ((fl, n1, n2, p, true, ad), I6, J6)
              show mm_wc d 75 [.ref 1, .int (nI 0), .int (nI 20)] ((fl, 0, 0, p, true, ad), I6, J6) _
              refine mm_wcm (h6.2 c4) ?_
              rintro v τ ⟨r7, I7, J7, rfl, rfl, h7⟩
              refine mm_r1' ⟨rfl, ?_⟩
              show mm_b _ _ _ _ _ [some (.ref 1), some (.ref 19), none, some (.int (I5 1 8))] [.int r7] ((fl, n1, n2, p, true, ad), I7, J7)
              show (¬ r7 = (nI 0) → _) ∧ (r7 = (nI 0) → _)
              refine ⟨fun c5 => ?_, fun c5 => ?_⟩
              · show mm_u _ _ _ _ _ _ [some (.ref 1), some (.ref 19), none, some (.int (I5 1 8))] [] ((fl, n1, n2, p, true, ad), I7, J7)
                show mm_wc d 55 [.ref 19, .int (I5 1 8), .int (I7 1 8)] ((fl, 0, 0, p, true, ad), I7, J7) _
                refine mm_wcm (h7.1 c5) ?_
                rintro v τ ⟨I8, J8, rfl, rfl, h8⟩
                refine mm_r0' ⟨rfl, ?_⟩
                show mm_b _ _ _ _ _ [some (.ref 1), some (.ref 19), none, some (.int (I5 1 8))] [] ((fl, n1, n2, p, true, ad), I8, J8)
                show (((nI 1) : Int32) = 0 ∨ ((nI 1) : Int32) = 1) ∧ _
                refine ⟨(by decide), ?_⟩
                exact h8
              · show mm_b _ _ _ _ _ [some (.ref 1), some (.ref 19), none, some (.int (I5 1 8))] [] ((fl, n1, n2, p, true, ad), I7, J7)
                show (((nI 0) : Int32) = 0 ∨ ((nI 0) : Int32) = 1) ∧ _
                refine ⟨(by decide), ?_⟩
                exact (h7.2 c5)
          · show mm_b _ _ _ _ _ [some (.ref 1), some (.ref 19), some (.int x1), none] [] ((fl, n1, n2, p, true, ad), I5, J5)
            show (((nI 0) : Int32) = 0 ∨ ((nI 0) : Int32) = 1) ∧ _
            refine ⟨(by decide), ?_⟩
            exact (h5.2 c3)
    · show mm_b _ _ _ _ _ [some (.ref 1), some (.ref 19), some (.int x1), none] [] ((fl, n1, n2, p, true, ad), I1, J1)
      show mm_wc d 60 [.ref 1, .int (nI 5)] ((fl, 0, 0, p, true, ad), I1, J1) _
      refine mm_wcm (h1.2 c0) ?_
      rintro v τ ⟨r9, I9, J9, rfl, rfl, h9⟩
      refine mm_r1' ⟨rfl, ?_⟩
      show mm_b _ _ _ _ _ [some (.ref 1), some (.ref 19), some (.int x1), none] [.int r9] ((fl, n1, n2, p, true, ad), I9, J9)
      show (r9 = 0 ∨ r9 = 1) ∧ _
      refine ⟨h9.1, ?_⟩
      exact h9.2
/- 63 ThreeBreaths$Reader takePoint -/
theorem fx_63p {d : Nat} {x1 : Int32} {fl : Nat → Bool} {n1 n2 : Nat} {p q : Bool} {ad : Nat → Nat} {I : mmI} {J : mmJ} {Q : mmQ} (h : mm_wc d 54 [.ref (mm_ck q 5)] ((fl, 0, 0, p, q, ad), I, J) (fun v τ => ∃ r1 I1 J1, v = some (.int r1) ∧ τ = ((fl, 0, 0, p, q, ad), I1, J1) ∧ ((r1 = (nI 0) → mm_wc d 77 [.ref 1] ((fl, 0, 0, p, q, ad), I1, J1) (fun v τ => ∃ I2 J2, v = none ∧ τ = ((fl, 0, 0, p, q, ad), I2, J2) ∧ mm_wc d 70 [.ref 1, .int x1, .int (I2 (mm_ck q 5) 3)] ((fl, 0, 0, p, q, ad), I2, J2) (fun v τ => ∃ r3 I3 J3, v = some (.int r3) ∧ τ = ((fl, 0, 0, p, q, ad), I3, J3) ∧ ((r3 = (nI 0) → Q (some (.int (nI 0))) ((fl, n1, n2, p, q, ad), I3, J3)) ∧ (¬ r3 = (nI 0) → mm_wc d 74 [.ref 1, .ref 108] ((fl, 0, 0, p, q, ad), I3, J3) (fun v τ => ∃ r4 I4 J4, v = some (.int r4) ∧ τ = ((fl, 0, 0, p, q, ad), I4, J4) ∧ ((r4 = (nI 0) → Q (some (.int (nI 0))) ((fl, n1, n2, p, q, ad), I4, J4)) ∧ (¬ r4 = (nI 0) → mm_wc d 75 [.ref 1, .int (nI 0), .int (nI 20)] ((fl, 0, 0, p, q, ad), I4, J4) (fun v τ => ∃ r5 I5 J5, v = some (.int r5) ∧ τ = ((fl, 0, 0, p, q, ad), I5, J5) ∧ ((¬ r5 = (nI 0) → mm_wc d 76 [.ref 1, .int (nI 4)] ((fl, 0, 0, p, q, ad), I5, J5) (fun v τ => ∃ r6 I6 J6, v = some (.int r6) ∧ τ = ((fl, 0, 0, p, q, ad), I6, J6) ∧ ((r6 = (nI 0) → Q (some (.int (nI 0))) ((fl, n1, n2, p, q, ad), I6, J6)) ∧ (¬ r6 = (nI 0) → mm_wc d 75 [.ref 1, .int (nI 0), .int (nI 20)] ((fl, 0, 0, p, q, ad), I6, J6) (fun v τ => ∃ r7 I7 J7, v = some (.int r7) ∧ τ = ((fl, 0, 0, p, q, ad), I7, J7) ∧ ((¬ r7 = (nI 0) → mm_wc d 55 [.ref (mm_ck q 5), .int (I5 1 8), .int (I7 1 8)] ((fl, 0, 0, p, q, ad), I7, J7) (fun v τ => ∃ I8 J8, v = none ∧ τ = ((fl, 0, 0, p, q, ad), I8, J8) ∧ Q (some (.int (nI 1))) ((fl, n1, n2, p, q, ad), I8, J8))) ∧ (r7 = (nI 0) → Q (some (.int (nI 0))) ((fl, n1, n2, p, q, ad), I7, J7)))))))) ∧ (r5 = (nI 0) → Q (some (.int (nI 0))) ((fl, n1, n2, p, q, ad), I5, J5)))))))))))) ∧ (¬ r1 = (nI 0) → mm_wc d 60 [.ref 1, .int (nI 5)] ((fl, 0, 0, p, q, ad), I1, J1) (fun v τ => ∃ r9 I9 J9, v = some (.int r9) ∧ τ = ((fl, 0, 0, p, q, ad), I9, J9) ∧ ((r9 = 0 ∨ r9 = 1) ∧ Q (some (.int r9)) ((fl, n1, n2, p, q, ad), I9, J9))))))) : mm_wc (d + 1) 63 [.ref 1, .ref (mm_ck q 5), .int x1] ((fl, n1, n2, p, q, ad), I, J) Q := by
  cases q
  · refine mm_call (c := 63) rfl rfl ?_
    refine mm_go [] 80 ?_
    show mm_wc d 54 [.ref 37] ((fl, 0, 0, p, false, ad), I, J) _
    refine mm_wcm h ?_
    rintro v τ ⟨r1, I1, J1, rfl, rfl, h1⟩
    refine mm_r1' ⟨rfl, ?_⟩
    show mm_b _ _ _ _ _ [some (.ref 1), some (.ref 37), some (.int x1), none] [.int r1] ((fl, n1, n2, p, false, ad), I1, J1)
    show (r1 = (nI 0) → _) ∧ (¬ r1 = (nI 0) → _)
    refine ⟨fun c0 => ?_, fun c0 => ?_⟩
    · show mm_u _ _ _ _ _ _ [some (.ref 1), some (.ref 37), some (.int x1), none] [] ((fl, n1, n2, p, false, ad), I1, J1)
      show mm_wc d 77 [.ref 1] ((fl, 0, 0, p, false, ad), I1, J1) _
      refine mm_wcm (h1.1 c0) ?_
      rintro v τ ⟨I2, J2, rfl, rfl, h2⟩
      refine mm_r0' ⟨rfl, ?_⟩
      show mm_b _ _ _ _ _ [some (.ref 1), some (.ref 37), some (.int x1), none] [] ((fl, n1, n2, p, false, ad), I2, J2)
      show mm_wc d 70 [.ref 1, .int x1, .int (I2 37 3)] ((fl, 0, 0, p, false, ad), I2, J2) _
      refine mm_wcm h2 ?_
      rintro v τ ⟨r3, I3, J3, rfl, rfl, h3⟩
      refine mm_r1' ⟨rfl, ?_⟩
      show mm_b _ _ _ _ _ [some (.ref 1), some (.ref 37), some (.int x1), none] [.int r3] ((fl, n1, n2, p, false, ad), I3, J3)
      show (r3 = (nI 0) → _) ∧ (¬ r3 = (nI 0) → _)
      refine ⟨fun c1 => ?_, fun c1 => ?_⟩
      · show mm_u _ _ _ _ _ _ [some (.ref 1), some (.ref 37), some (.int x1), none] [] ((fl, n1, n2, p, false, ad), I3, J3)
        show (((nI 0) : Int32) = 0 ∨ ((nI 0) : Int32) = 1) ∧ _
        refine ⟨(by decide), ?_⟩
        exact (h3.1 c1)
      · show mm_b _ _ _ _ _ [some (.ref 1), some (.ref 37), some (.int x1), none] [] ((fl, n1, n2, p, false, ad), I3, J3)
        show mm_wc d 74 [.ref 1, .ref 108] ((fl, 0, 0, p, false, ad), I3, J3) _
        refine mm_wcm (h3.2 c1) ?_
        rintro v τ ⟨r4, I4, J4, rfl, rfl, h4⟩
        refine mm_r1' ⟨rfl, ?_⟩
        show mm_b _ _ _ _ _ [some (.ref 1), some (.ref 37), some (.int x1), none] [.int r4] ((fl, n1, n2, p, false, ad), I4, J4)
        show (r4 = (nI 0) → _) ∧ (¬ r4 = (nI 0) → _)
        refine ⟨fun c2 => ?_, fun c2 => ?_⟩
        · show mm_u _ _ _ _ _ _ [some (.ref 1), some (.ref 37), some (.int x1), none] [] ((fl, n1, n2, p, false, ad), I4, J4)
          show (((nI 0) : Int32) = 0 ∨ ((nI 0) : Int32) = 1) ∧ _
          refine ⟨(by decide), ?_⟩
          exact (h4.1 c2)
        · show mm_b _ _ _ _ _ [some (.ref 1), some (.ref 37), some (.int x1), none] [] ((fl, n1, n2, p, false, ad), I4, J4)
          show mm_wc d 75 [.ref 1, .int (nI 0), .int (nI 20)] ((fl, 0, 0, p, false, ad), I4, J4) _
          refine mm_wcm (h4.2 c2) ?_
          rintro v τ ⟨r5, I5, J5, rfl, rfl, h5⟩
          refine mm_r1' ⟨rfl, ?_⟩
          show mm_b _ _ _ _ _ [some (.ref 1), some (.ref 37), some (.int x1), none] [.int r5] ((fl, n1, n2, p, false, ad), I5, J5)
          show (¬ r5 = (nI 0) → _) ∧ (r5 = (nI 0) → _)
          refine ⟨fun c3 => ?_, fun c3 => ?_⟩
          · show mm_u _ _ _ _ _ _ [some (.ref 1), some (.ref 37), some (.int x1), none] [] ((fl, n1, n2, p, false, ad), I5, J5)
            show mm_wc d 76 [.ref 1, .int (nI 4)] ((fl, 0, 0, p, false, ad), I5, J5) _
            refine mm_wcm (h5.1 c3) ?_
            rintro v τ ⟨r6, I6, J6, rfl, rfl, h6⟩
            refine mm_r1' ⟨rfl, ?_⟩
            show mm_b _ _ _ _ _ [some (.ref 1), some (.ref 37), none, some (.int (I5 1 8))] [.int r6] ((fl, n1, n2, p, false, ad), I6, J6)
            show (r6 = (nI 0) → _) ∧ (¬ r6 = (nI 0) → _)
            refine ⟨fun c4 => ?_, fun c4 => ?_⟩
            · show mm_u _ _ _ _ _ _ [some (.ref 1), some (.ref 37), none, some (.int (I5 1 8))] [] ((fl, n1, n2, p, false, ad), I6, J6)
              show (((nI 0) : Int32) = 0 ∨ ((nI 0) : Int32) = 1) ∧ _
              refine ⟨(by decide), ?_⟩
              exact (h6.1 c4)
            · show mm_b _ _ _ _ _ [some (.ref 1), some (.ref 37), none, some (.int (I5 1 8))] [] ((fl, n1, n2, p, false, ad), I6, J6)
              show mm_wc d 75 [.ref 1, .int (nI 0), .int (nI 20)] ((fl, 0, 0, p, false, ad), I6, J6) _
              refine mm_wcm (h6.2 c4) ?_
              rintro v τ ⟨r7, I7, J7, rfl, rfl, h7⟩
              refine mm_r1' ⟨rfl, ?_⟩
              show mm_b _ _ _ _ _ [some (.ref 1), some (.ref 37), none, some (.int (I5 1 8))] [.int r7] ((fl, n1, n2, p, false, ad), I7, J7)
              show (¬ r7 = (nI 0) → _) ∧ (r7 = (nI 0) → _)
              refine ⟨fun c5 => ?_, fun c5 => ?_⟩
              · show mm_u _ _ _ _ _ _ [some (.ref 1), some (.ref 37), none, some (.int (I5 1 8))] [] ((fl, n1, n2, p, false, ad), I7, J7)
                show mm_wc d 55 [.ref 37, .int (I5 1 8), .int (I7 1 8)] ((fl, 0, 0, p, false, ad), I7, J7) _
                refine mm_wcm (h7.1 c5) ?_
                rintro v τ ⟨I8, J8, rfl, rfl, h8⟩
                refine mm_r0' ⟨rfl, ?_⟩
                show mm_b _ _ _ _ _ [some (.ref 1), some (.ref 37), none, some (.int (I5 1 8))] [] ((fl, n1, n2, p, false, ad), I8, J8)
                show (((nI 1) : Int32) = 0 ∨ ((nI 1) : Int32) = 1) ∧ _
                refine ⟨(by decide), ?_⟩
                exact h8
              · show mm_b _ _ _ _ _ [some (.ref 1), some (.ref 37), none, some (.int (I5 1 8))] [] ((fl, n1, n2, p, false, ad), I7, J7)
                show (((nI 0) : Int32) = 0 ∨ ((nI 0) : Int32) = 1) ∧ _
                refine ⟨(by decide), ?_⟩
                exact (h7.2 c5)
          · show mm_b _ _ _ _ _ [some (.ref 1), some (.ref 37), some (.int x1), none] [] ((fl, n1, n2, p, false, ad), I5, J5)
            show (((nI 0) : Int32) = 0 ∨ ((nI 0) : Int32) = 1) ∧ _
            refine ⟨(by decide), ?_⟩
            exact (h5.2 c3)
    · show mm_b _ _ _ _ _ [some (.ref 1), some (.ref 37), some (.int x1), none] [] ((fl, n1, n2, p, false, ad), I1, J1)
      show mm_wc d 60 [.ref 1, .int (nI 5)] ((fl, 0, 0, p, false, ad), I1, J1) _
      refine mm_wcm (h1.2 c0) ?_
      rintro v τ ⟨r9, I9, J9, rfl, rfl, h9⟩
      refine mm_r1' ⟨rfl, ?_⟩
      show mm_b _ _ _ _ _ [some (.ref 1), some (.ref 37), some (.int x1), none] [.int r9] ((fl, n1, n2, p, false, ad), I9, J9)
      show (r9 = 0 ∨ r9 = 1) ∧ _
      refine ⟨h9.1, ?_⟩
      exact h9.2
  · refine mm_call (c := 63) rfl rfl ?_
    refine mm_go [] 80 ?_
    show mm_wc d 54 [.ref 23] ((fl, 0, 0, p, true, ad), I, J) _
    refine mm_wcm h ?_
    rintro v τ ⟨r1, I1, J1, rfl, rfl, h1⟩
    refine mm_r1' ⟨rfl, ?_⟩
    show mm_b _ _ _ _ _ [some (.ref 1), some (.ref 23), some (.int x1), none] [.int r1] ((fl, n1, n2, p, true, ad), I1, J1)
    show (r1 = (nI 0) → _) ∧ (¬ r1 = (nI 0) → _)
    refine ⟨fun c0 => ?_, fun c0 => ?_⟩
    · show mm_u _ _ _ _ _ _ [some (.ref 1), some (.ref 23), some (.int x1), none] [] ((fl, n1, n2, p, true, ad), I1, J1)
      show mm_wc d 77 [.ref 1] ((fl, 0, 0, p, true, ad), I1, J1) _
      refine mm_wcm (h1.1 c0) ?_
      rintro v τ ⟨I2, J2, rfl, rfl, h2⟩
      refine mm_r0' ⟨rfl, ?_⟩
      show mm_b _ _ _ _ _ [some (.ref 1), some (.ref 23), some (.int x1), none] [] ((fl, n1, n2, p, true, ad), I2, J2)
      show mm_wc d 70 [.ref 1, .int x1, .int (I2 23 3)] ((fl, 0, 0, p, true, ad), I2, J2) _
      refine mm_wcm h2 ?_
      rintro v τ ⟨r3, I3, J3, rfl, rfl, h3⟩
      refine mm_r1' ⟨rfl, ?_⟩
      show mm_b _ _ _ _ _ [some (.ref 1), some (.ref 23), some (.int x1), none] [.int r3] ((fl, n1, n2, p, true, ad), I3, J3)
      show (r3 = (nI 0) → _) ∧ (¬ r3 = (nI 0) → _)
      refine ⟨fun c1 => ?_, fun c1 => ?_⟩
      · show mm_u _ _ _ _ _ _ [some (.ref 1), some (.ref 23), some (.int x1), none] [] ((fl, n1, n2, p, true, ad), I3, J3)
        show (((nI 0) : Int32) = 0 ∨ ((nI 0) : Int32) = 1) ∧ _
        refine ⟨(by decide), ?_⟩
        exact (h3.1 c1)
      · show mm_b _ _ _ _ _ [some (.ref 1), some (.ref 23), some (.int x1), none] [] ((fl, n1, n2, p, true, ad), I3, J3)
        show mm_wc d 74 [.ref 1, .ref 108] ((fl, 0, 0, p, true, ad), I3, J3) _
        refine mm_wcm (h3.2 c1) ?_
        rintro v τ ⟨r4, I4, J4, rfl, rfl, h4⟩
        refine mm_r1' ⟨rfl, ?_⟩
        show mm_b _ _ _ _ _ [some (.ref 1), some (.ref 23), some (.int x1), none] [.int r4] ((fl, n1, n2, p, true, ad), I4, J4)
        show (r4 = (nI 0) → _) ∧ (¬ r4 = (nI 0) → _)
        refine ⟨fun c2 => ?_, fun c2 => ?_⟩
        · show mm_u _ _ _ _ _ _ [some (.ref 1), some (.ref 23), some (.int x1), none] [] ((fl, n1, n2, p, true, ad), I4, J4)
          show (((nI 0) : Int32) = 0 ∨ ((nI 0) : Int32) = 1) ∧ _
          refine ⟨(by decide), ?_⟩
          exact (h4.1 c2)
        · show mm_b _ _ _ _ _ [some (.ref 1), some (.ref 23), some (.int x1), none] [] ((fl, n1, n2, p, true, ad), I4, J4)
          show mm_wc d 75 [.ref 1, .int (nI 0), .int (nI 20)] ((fl, 0, 0, p, true, ad), I4, J4) _
          refine mm_wcm (h4.2 c2) ?_
          rintro v τ ⟨r5, I5, J5, rfl, rfl, h5⟩
          refine mm_r1' ⟨rfl, ?_⟩
          show mm_b _ _ _ _ _ [some (.ref 1), some (.ref 23), some (.int x1), none] [.int r5] ((fl, n1, n2, p, true, ad), I5, J5)
          show (¬ r5 = (nI 0) → _) ∧ (r5 = (nI 0) → _)
          refine ⟨fun c3 => ?_, fun c3 => ?_⟩
          · show mm_u _ _ _ _ _ _ [some (.ref 1), some (.ref 23), some (.int x1), none] [] ((fl, n1, n2, p, true, ad), I5, J5)
            show mm_wc d 76 [.ref 1, .int (nI 4)] ((fl, 0, 0, p, true, ad), I5, J5) _
            refine mm_wcm (h5.1 c3) ?_
            rintro v τ ⟨r6, I6, J6, rfl, rfl, h6⟩
            refine mm_r1' ⟨rfl, ?_⟩
            show mm_b _ _ _ _ _ [some (.ref 1), some (.ref 23), none, some (.int (I5 1 8))] [.int r6] ((fl, n1, n2, p, true, ad), I6, J6)
            show (r6 = (nI 0) → _) ∧ (¬ r6 = (nI 0) → _)
            refine ⟨fun c4 => ?_, fun c4 => ?_⟩
            · show mm_u _ _ _ _ _ _ [some (.ref 1), some (.ref 23), none, some (.int (I5 1 8))] [] ((fl, n1, n2, p, true, ad), I6, J6)
              show (((nI 0) : Int32) = 0 ∨ ((nI 0) : Int32) = 1) ∧ _
              refine ⟨(by decide), ?_⟩
              exact (h6.1 c4)
            · show mm_b _ _ _ _ _ [some (.ref 1), some (.ref 23), none, some (.int (I5 1 8))] [] ((fl, n1, n2, p, true, ad), I6, J6)
              show mm_wc d 75 [.ref 1, .int (nI 0), .int (nI 20)] ((fl, 0, 0, p, true, ad), I6, J6) _
              refine mm_wcm (h6.2 c4) ?_
              rintro v τ ⟨r7, I7, J7, rfl, rfl, h7⟩
              refine mm_r1' ⟨rfl, ?_⟩
              show mm_b _ _ _ _ _ [some (.ref 1), some (.ref 23), none, some (.int (I5 1 8))] [.int r7] ((fl, n1, n2, p, true, ad), I7, J7)
              show (¬ r7 = (nI 0) → _) ∧ (r7 = (nI 0) → _)
              refine ⟨fun c5 => ?_, fun c5 => ?_⟩
              · show mm_u _ _ _ _ _ _ [some (.ref 1), some (.ref 23), none, some (.int (I5 1 8))] [] ((fl, n1, n2, p, true, ad), I7, J7)
                show mm_wc d 55 [.ref 23, .int (I5 1 8), .int (I7 1 8)] ((fl, 0, 0, p, true, ad), I7, J7) _
                refine mm_wcm (h7.1 c5) ?_
                rintro v τ ⟨I8, J8, rfl, rfl, h8⟩
                refine mm_r0' ⟨rfl, ?_⟩
                show mm_b _ _ _ _ _ [some (.ref 1), some (.ref 23), none, some (.int (I5 1 8))] [] ((fl, n1, n2, p, true, ad), I8, J8)
                show (((nI 1) : Int32) = 0 ∨ ((nI 1) : Int32) = 1) ∧ _
                refine ⟨(by decide), ?_⟩
                exact h8
              · show mm_b _ _ _ _ _ [some (.ref 1), some (.ref 23), none, some (.int (I5 1 8))] [] ((fl, n1, n2, p, true, ad), I7, J7)
                show (((nI 0) : Int32) = 0 ∨ ((nI 0) : Int32) = 1) ∧ _
                refine ⟨(by decide), ?_⟩
                exact (h7.2 c5)
          · show mm_b _ _ _ _ _ [some (.ref 1), some (.ref 23), some (.int x1), none] [] ((fl, n1, n2, p, true, ad), I5, J5)
            show (((nI 0) : Int32) = 0 ∨ ((nI 0) : Int32) = 1) ∧ _
            refine ⟨(by decide), ?_⟩
            exact (h5.2 c3)
    · show mm_b _ _ _ _ _ [some (.ref 1), some (.ref 23), some (.int x1), none] [] ((fl, n1, n2, p, true, ad), I1, J1)
      show mm_wc d 60 [.ref 1, .int (nI 5)] ((fl, 0, 0, p, true, ad), I1, J1) _
      refine mm_wcm (h1.2 c0) ?_
      rintro v τ ⟨r9, I9, J9, rfl, rfl, h9⟩
      refine mm_r1' ⟨rfl, ?_⟩
      show mm_b _ _ _ _ _ [some (.ref 1), some (.ref 23), some (.int x1), none] [.int r9] ((fl, n1, n2, p, true, ad), I9, J9)
      show (r9 = 0 ∨ r9 = 1) ∧ _
      refine ⟨h9.1, ?_⟩
      exact h9.2
/- 63 ThreeBreaths$Reader takePoint -/
theorem fx_63s {d : Nat} {x1 : Int32} {fl : Nat → Bool} {n1 n2 : Nat} {p q : Bool} {ad : Nat → Nat} {I : mmI} {J : mmJ} {Q : mmQ} (h : mm_wc d 54 [.ref (mm_ck q 8)] ((fl, 0, 0, p, q, ad), I, J) (fun v τ => ∃ r1 I1 J1, v = some (.int r1) ∧ τ = ((fl, 0, 0, p, q, ad), I1, J1) ∧ ((r1 = (nI 0) → mm_wc d 77 [.ref 1] ((fl, 0, 0, p, q, ad), I1, J1) (fun v τ => ∃ I2 J2, v = none ∧ τ = ((fl, 0, 0, p, q, ad), I2, J2) ∧ mm_wc d 70 [.ref 1, .int x1, .int (I2 (mm_ck q 8) 3)] ((fl, 0, 0, p, q, ad), I2, J2) (fun v τ => ∃ r3 I3 J3, v = some (.int r3) ∧ τ = ((fl, 0, 0, p, q, ad), I3, J3) ∧ ((r3 = (nI 0) → Q (some (.int (nI 0))) ((fl, n1, n2, p, q, ad), I3, J3)) ∧ (¬ r3 = (nI 0) → mm_wc d 74 [.ref 1, .ref 108] ((fl, 0, 0, p, q, ad), I3, J3) (fun v τ => ∃ r4 I4 J4, v = some (.int r4) ∧ τ = ((fl, 0, 0, p, q, ad), I4, J4) ∧ ((r4 = (nI 0) → Q (some (.int (nI 0))) ((fl, n1, n2, p, q, ad), I4, J4)) ∧ (¬ r4 = (nI 0) → mm_wc d 75 [.ref 1, .int (nI 0), .int (nI 20)] ((fl, 0, 0, p, q, ad), I4, J4) (fun v τ => ∃ r5 I5 J5, v = some (.int r5) ∧ τ = ((fl, 0, 0, p, q, ad), I5, J5) ∧ ((¬ r5 = (nI 0) → mm_wc d 76 [.ref 1, .int (nI 4)] ((fl, 0, 0, p, q, ad), I5, J5) (fun v τ => ∃ r6 I6 J6, v = some (.int r6) ∧ τ = ((fl, 0, 0, p, q, ad), I6, J6) ∧ ((r6 = (nI 0) → Q (some (.int (nI 0))) ((fl, n1, n2, p, q, ad), I6, J6)) ∧ (¬ r6 = (nI 0) → mm_wc d 75 [.ref 1, .int (nI 0), .int (nI 20)] ((fl, 0, 0, p, q, ad), I6, J6) (fun v τ => ∃ r7 I7 J7, v = some (.int r7) ∧ τ = ((fl, 0, 0, p, q, ad), I7, J7) ∧ ((¬ r7 = (nI 0) → mm_wc d 55 [.ref (mm_ck q 8), .int (I5 1 8), .int (I7 1 8)] ((fl, 0, 0, p, q, ad), I7, J7) (fun v τ => ∃ I8 J8, v = none ∧ τ = ((fl, 0, 0, p, q, ad), I8, J8) ∧ Q (some (.int (nI 1))) ((fl, n1, n2, p, q, ad), I8, J8))) ∧ (r7 = (nI 0) → Q (some (.int (nI 0))) ((fl, n1, n2, p, q, ad), I7, J7)))))))) ∧ (r5 = (nI 0) → Q (some (.int (nI 0))) ((fl, n1, n2, p, q, ad), I5, J5)))))))))))) ∧ (¬ r1 = (nI 0) → mm_wc d 60 [.ref 1, .int (nI 5)] ((fl, 0, 0, p, q, ad), I1, J1) (fun v τ => ∃ r9 I9 J9, v = some (.int r9) ∧ τ = ((fl, 0, 0, p, q, ad), I9, J9) ∧ ((r9 = 0 ∨ r9 = 1) ∧ Q (some (.int r9)) ((fl, n1, n2, p, q, ad), I9, J9))))))) : mm_wc (d + 1) 63 [.ref 1, .ref (mm_ck q 8), .int x1] ((fl, n1, n2, p, q, ad), I, J) Q := by
  cases q
  · refine mm_call (c := 63) rfl rfl ?_
    refine mm_go [] 80 ?_
    show mm_wc d 54 [.ref 40] ((fl, 0, 0, p, false, ad), I, J) _
    refine mm_wcm h ?_
    rintro v τ ⟨r1, I1, J1, rfl, rfl, h1⟩
    refine mm_r1' ⟨rfl, ?_⟩
    show mm_b _ _ _ _ _ [some (.ref 1), some (.ref 40), some (.int x1), none] [.int r1] ((fl, n1, n2, p, false, ad), I1, J1)
    show (r1 = (nI 0) → _) ∧ (¬ r1 = (nI 0) → _)
    refine ⟨fun c0 => ?_, fun c0 => ?_⟩
    · show mm_u _ _ _ _ _ _ [some (.ref 1), some (.ref 40), some (.int x1), none] [] ((fl, n1, n2, p, false, ad), I1, J1)
      show mm_wc d 77 [.ref 1] ((fl, 0, 0, p, false, ad), I1, J1) _
      refine mm_wcm (h1.1 c0) ?_
      rintro v τ ⟨I2, J2, rfl, rfl, h2⟩
      refine mm_r0' ⟨rfl, ?_⟩
      show mm_b _ _ _ _ _ [some (.ref 1), some (.ref 40), some (.int x1), none] [] ((fl, n1, n2, p, false, ad), I2, J2)
      show mm_wc d 70 [.ref 1, .int x1, .int (I2 40 3)] ((fl, 0, 0, p, false, ad), I2, J2) _
      refine mm_wcm h2 ?_
      rintro v τ ⟨r3, I3, J3, rfl, rfl, h3⟩
      refine mm_r1' ⟨rfl, ?_⟩
      show mm_b _ _ _ _ _ [some (.ref 1), some (.ref 40), some (.int x1), none] [.int r3] ((fl, n1, n2, p, false, ad), I3, J3)
      show (r3 = (nI 0) → _) ∧ (¬ r3 = (nI 0) → _)
      refine ⟨fun c1 => ?_, fun c1 => ?_⟩
      · show mm_u _ _ _ _ _ _ [some (.ref 1), some (.ref 40), some (.int x1), none] [] ((fl, n1, n2, p, false, ad), I3, J3)
        show (((nI 0) : Int32) = 0 ∨ ((nI 0) : Int32) = 1) ∧ _
        refine ⟨(by decide), ?_⟩
        exact (h3.1 c1)
      · show mm_b _ _ _ _ _ [some (.ref 1), some (.ref 40), some (.int x1), none] [] ((fl, n1, n2, p, false, ad), I3, J3)
        show mm_wc d 74 [.ref 1, .ref 108] ((fl, 0, 0, p, false, ad), I3, J3) _
        refine mm_wcm (h3.2 c1) ?_
        rintro v τ ⟨r4, I4, J4, rfl, rfl, h4⟩
        refine mm_r1' ⟨rfl, ?_⟩
        show mm_b _ _ _ _ _ [some (.ref 1), some (.ref 40), some (.int x1), none] [.int r4] ((fl, n1, n2, p, false, ad), I4, J4)
        show (r4 = (nI 0) → _) ∧ (¬ r4 = (nI 0) → _)
        refine ⟨fun c2 => ?_, fun c2 => ?_⟩
        · show mm_u _ _ _ _ _ _ [some (.ref 1), some (.ref 40), some (.int x1), none] [] ((fl, n1, n2, p, false, ad), I4, J4)
          show (((nI 0) : Int32) = 0 ∨ ((nI 0) : Int32) = 1) ∧ _
          refine ⟨(by decide), ?_⟩
          exact (h4.1 c2)
        · show mm_b _ _ _ _ _ [some (.ref 1), some (.ref 40), some (.int x1), none] [] ((fl, n1, n2, p, false, ad), I4, J4)
          show mm_wc d 75 [.ref 1, .int (nI 0), .int (nI 20)] ((fl, 0, 0, p, false, ad), I4, J4) _
          refine mm_wcm (h4.2 c2) ?_
          rintro v τ ⟨r5, I5, J5, rfl, rfl, h5⟩
          refine mm_r1' ⟨rfl, ?_⟩
          show mm_b _ _ _ _ _ [some (.ref 1), some (.ref 40), some (.int x1), none] [.int r5] ((fl, n1, n2, p, false, ad), I5, J5)
          show (¬ r5 = (nI 0) → _) ∧ (r5 = (nI 0) → _)
          refine ⟨fun c3 => ?_, fun c3 => ?_⟩
          · show mm_u _ _ _ _ _ _ [some (.ref 1), some (.ref 40), some (.int x1), none] [] ((fl, n1, n2, p, false, ad), I5, J5)
            show mm_wc d 76 [.ref 1, .int (nI 4)] ((fl, 0, 0, p, false, ad), I5, J5) _
            refine mm_wcm (h5.1 c3) ?_
            rintro v τ ⟨r6, I6, J6, rfl, rfl, h6⟩
            refine mm_r1' ⟨rfl, ?_⟩
            show mm_b _ _ _ _ _ [some (.ref 1), some (.ref 40), none, some (.int (I5 1 8))] [.int r6] ((fl, n1, n2, p, false, ad), I6, J6)
            show (r6 = (nI 0) → _) ∧ (¬ r6 = (nI 0) → _)
            refine ⟨fun c4 => ?_, fun c4 => ?_⟩
            · show mm_u _ _ _ _ _ _ [some (.ref 1), some (.ref 40), none, some (.int (I5 1 8))] [] ((fl, n1, n2, p, false, ad), I6, J6)
              show (((nI 0) : Int32) = 0 ∨ ((nI 0) : Int32) = 1) ∧ _
              refine ⟨(by decide), ?_⟩
              exact (h6.1 c4)
            · show mm_b _ _ _ _ _ [some (.ref 1), some (.ref 40), none, some (.int (I5 1 8))] [] ((fl, n1, n2, p, false, ad), I6, J6)
              show mm_wc d 75 [.ref 1, .int (nI 0), .int (nI 20)] ((fl, 0, 0, p, false, ad), I6, J6) _
              refine mm_wcm (h6.2 c4) ?_
              rintro v τ ⟨r7, I7, J7, rfl, rfl, h7⟩
              refine mm_r1' ⟨rfl, ?_⟩
              show mm_b _ _ _ _ _ [some (.ref 1), some (.ref 40), none, some (.int (I5 1 8))] [.int r7] ((fl, n1, n2, p, false, ad), I7, J7)
              show (¬ r7 = (nI 0) → _) ∧ (r7 = (nI 0) → _)
              refine ⟨fun c5 => ?_, fun c5 => ?_⟩
              · show mm_u _ _ _ _ _ _ [some (.ref 1), some (.ref 40), none, some (.int (I5 1 8))] [] ((fl, n1, n2, p, false, ad), I7, J7)
                show mm_wc d 55 [.ref 40, .int (I5 1 8), .int (I7 1 8)] ((fl, 0, 0, p, false, ad), I7, J7) _
                refine mm_wcm (h7.1 c5) ?_
                rintro v τ ⟨I8, J8, rfl, rfl, h8⟩
                refine mm_r0' ⟨rfl, ?_⟩
                show mm_b _ _ _ _ _ [some (.ref 1), some (.ref 40), none, some (.int (I5 1 8))] [] ((fl, n1, n2, p, false, ad), I8, J8)
                show (((nI 1) : Int32) = 0 ∨ ((nI 1) : Int32) = 1) ∧ _
                refine ⟨(by decide), ?_⟩
                exact h8
              · show mm_b _ _ _ _ _ [some (.ref 1), some (.ref 40), none, some (.int (I5 1 8))] [] ((fl, n1, n2, p, false, ad), I7, J7)
                show (((nI 0) : Int32) = 0 ∨ ((nI 0) : Int32) = 1) ∧ _
                refine ⟨(by decide), ?_⟩
                exact (h7.2 c5)
          · show mm_b _ _ _ _ _ [some (.ref 1), some (.ref 40), some (.int x1), none] [] ((fl, n1, n2, p, false, ad), I5, J5)
            show (((nI 0) : Int32) = 0 ∨ ((nI 0) : Int32) = 1) ∧ _
            refine ⟨(by decide), ?_⟩
            exact (h5.2 c3)
    · show mm_b _ _ _ _ _ [some (.ref 1), some (.ref 40), some (.int x1), none] [] ((fl, n1, n2, p, false, ad), I1, J1)
      show mm_wc d 60 [.ref 1, .int (nI 5)] ((fl, 0, 0, p, false, ad), I1, J1) _
      refine mm_wcm (h1.2 c0) ?_
      rintro v τ ⟨r9, I9, J9, rfl, rfl, h9⟩
      refine mm_r1' ⟨rfl, ?_⟩
      show mm_b _ _ _ _ _ [some (.ref 1), some (.ref 40), some (.int x1), none] [.int r9] ((fl, n1, n2, p, false, ad), I9, J9)
      show (r9 = 0 ∨ r9 = 1) ∧ _
      refine ⟨h9.1, ?_⟩
      exact h9.2
  · refine mm_call (c := 63) rfl rfl ?_
    refine mm_go [] 80 ?_
    show mm_wc d 54 [.ref 26] ((fl, 0, 0, p, true, ad), I, J) _
    refine mm_wcm h ?_
    rintro v τ ⟨r1, I1, J1, rfl, rfl, h1⟩
    refine mm_r1' ⟨rfl, ?_⟩
    show mm_b _ _ _ _ _ [some (.ref 1), some (.ref 26), some (.int x1), none] [.int r1] ((fl, n1, n2, p, true, ad), I1, J1)
    show (r1 = (nI 0) → _) ∧ (¬ r1 = (nI 0) → _)
    refine ⟨fun c0 => ?_, fun c0 => ?_⟩
    · show mm_u _ _ _ _ _ _ [some (.ref 1), some (.ref 26), some (.int x1), none] [] ((fl, n1, n2, p, true, ad), I1, J1)
      show mm_wc d 77 [.ref 1] ((fl, 0, 0, p, true, ad), I1, J1) _
      refine mm_wcm (h1.1 c0) ?_
      rintro v τ ⟨I2, J2, rfl, rfl, h2⟩
      refine mm_r0' ⟨rfl, ?_⟩
      show mm_b _ _ _ _ _ [some (.ref 1), some (.ref 26), some (.int x1), none] [] ((fl, n1, n2, p, true, ad), I2, J2)
      show mm_wc d 70 [.ref 1, .int x1, .int (I2 26 3)] ((fl, 0, 0, p, true, ad), I2, J2) _
      refine mm_wcm h2 ?_
      rintro v τ ⟨r3, I3, J3, rfl, rfl, h3⟩
      refine mm_r1' ⟨rfl, ?_⟩
      show mm_b _ _ _ _ _ [some (.ref 1), some (.ref 26), some (.int x1), none] [.int r3] ((fl, n1, n2, p, true, ad), I3, J3)
      show (r3 = (nI 0) → _) ∧ (¬ r3 = (nI 0) → _)
      refine ⟨fun c1 => ?_, fun c1 => ?_⟩
      · show mm_u _ _ _ _ _ _ [some (.ref 1), some (.ref 26), some (.int x1), none] [] ((fl, n1, n2, p, true, ad), I3, J3)
        show (((nI 0) : Int32) = 0 ∨ ((nI 0) : Int32) = 1) ∧ _
        refine ⟨(by decide), ?_⟩
        exact (h3.1 c1)
      · show mm_b _ _ _ _ _ [some (.ref 1), some (.ref 26), some (.int x1), none] [] ((fl, n1, n2, p, true, ad), I3, J3)
        show mm_wc d 74 [.ref 1, .ref 108] ((fl, 0, 0, p, true, ad), I3, J3) _
        refine mm_wcm (h3.2 c1) ?_
        rintro v τ ⟨r4, I4, J4, rfl, rfl, h4⟩
        refine mm_r1' ⟨rfl, ?_⟩
        show mm_b _ _ _ _ _ [some (.ref 1), some (.ref 26), some (.int x1), none] [.int r4] ((fl, n1, n2, p, true, ad), I4, J4)
        show (r4 = (nI 0) → _) ∧ (¬ r4 = (nI 0) → _)
        refine ⟨fun c2 => ?_, fun c2 => ?_⟩
        · show mm_u _ _ _ _ _ _ [some (.ref 1), some (.ref 26), some (.int x1), none] [] ((fl, n1, n2, p, true, ad), I4, J4)
          show (((nI 0) : Int32) = 0 ∨ ((nI 0) : Int32) = 1) ∧ _
          refine ⟨(by decide), ?_⟩
          exact (h4.1 c2)
        · show mm_b _ _ _ _ _ [some (.ref 1), some (.ref 26), some (.int x1), none] [] ((fl, n1, n2, p, true, ad), I4, J4)
          show mm_wc d 75 [.ref 1, .int (nI 0), .int (nI 20)] ((fl, 0, 0, p, true, ad), I4, J4) _
          refine mm_wcm (h4.2 c2) ?_
          rintro v τ ⟨r5, I5, J5, rfl, rfl, h5⟩
          refine mm_r1' ⟨rfl, ?_⟩
          show mm_b _ _ _ _ _ [some (.ref 1), some (.ref 26), some (.int x1), none] [.int r5] ((fl, n1, n2, p, true, ad), I5, J5)
          show (¬ r5 = (nI 0) → _) ∧ (r5 = (nI 0) → _)
          refine ⟨fun c3 => ?_, fun c3 => ?_⟩
          · show mm_u _ _ _ _ _ _ [some (.ref 1), some (.ref 26), some (.int x1), none] [] ((fl, n1, n2, p, true, ad), I5, J5)
            show mm_wc d 76 [.ref 1, .int (nI 4)] ((fl, 0, 0, p, true, ad), I5, J5) _
            refine mm_wcm (h5.1 c3) ?_
            rintro v τ ⟨r6, I6, J6, rfl, rfl, h6⟩
            refine mm_r1' ⟨rfl, ?_⟩
            show mm_b _ _ _ _ _ [some (.ref 1), some (.ref 26), none, some (.int (I5 1 8))] [.int r6] ((fl, n1, n2, p, true, ad), I6, J6)
            show (r6 = (nI 0) → _) ∧ (¬ r6 = (nI 0) → _)
            refine ⟨fun c4 => ?_, fun c4 => ?_⟩
            · show mm_u _ _ _ _ _ _ [some (.ref 1), some (.ref 26), none, some (.int (I5 1 8))] [] ((fl, n1, n2, p, true, ad), I6, J6)
              show (((nI 0) : Int32) = 0 ∨ ((nI 0) : Int32) = 1) ∧ _
              refine ⟨(by decide), ?_⟩
              exact (h6.1 c4)
            · show mm_b _ _ _ _ _ [some (.ref 1), some (.ref 26), none, some (.int (I5 1 8))] [] ((fl, n1, n2, p, true, ad), I6, J6)
              show mm_wc d 75 [.ref 1, .int (nI 0), .int (nI 20)] ((fl, 0, 0, p, true, ad), I6, J6) _
              refine mm_wcm (h6.2 c4) ?_
              rintro v τ ⟨r7, I7, J7, rfl, rfl, h7⟩
              refine mm_r1' ⟨rfl, ?_⟩
              show mm_b _ _ _ _ _ [some (.ref 1), some (.ref 26), none, some (.int (I5 1 8))] [.int r7] ((fl, n1, n2, p, true, ad), I7, J7)
              show (¬ r7 = (nI 0) → _) ∧ (r7 = (nI 0) → _)
              refine ⟨fun c5 => ?_, fun c5 => ?_⟩
              · show mm_u _ _ _ _ _ _ [some (.ref 1), some (.ref 26), none, some (.int (I5 1 8))] [] ((fl, n1, n2, p, true, ad), I7, J7)
                show mm_wc d 55 [.ref 26, .int (I5 1 8), .int (I7 1 8)] ((fl, 0, 0, p, true, ad), I7, J7) _
                refine mm_wcm (h7.1 c5) ?_
                rintro v τ ⟨I8, J8, rfl, rfl, h8⟩
                refine mm_r0' ⟨rfl, ?_⟩
                show mm_b _ _ _ _ _ [some (.ref 1), some (.ref 26), none, some (.int (I5 1 8))] [] ((fl, n1, n2, p, true, ad), I8, J8)
                show (((nI 1) : Int32) = 0 ∨ ((nI 1) : Int32) = 1) ∧ _
                refine ⟨(by decide), ?_⟩
                exact h8
              · show mm_b _ _ _ _ _ [some (.ref 1), some (.ref 26), none, some (.int (I5 1 8))] [] ((fl, n1, n2, p, true, ad), I7, J7)
                show (((nI 0) : Int32) = 0 ∨ ((nI 0) : Int32) = 1) ∧ _
                refine ⟨(by decide), ?_⟩
                exact (h7.2 c5)
          · show mm_b _ _ _ _ _ [some (.ref 1), some (.ref 26), some (.int x1), none] [] ((fl, n1, n2, p, true, ad), I5, J5)
            show (((nI 0) : Int32) = 0 ∨ ((nI 0) : Int32) = 1) ∧ _
            refine ⟨(by decide), ?_⟩
            exact (h5.2 c3)
    · show mm_b _ _ _ _ _ [some (.ref 1), some (.ref 26), some (.int x1), none] [] ((fl, n1, n2, p, true, ad), I1, J1)
      show mm_wc d 60 [.ref 1, .int (nI 5)] ((fl, 0, 0, p, true, ad), I1, J1) _
      refine mm_wcm (h1.2 c0) ?_
      rintro v τ ⟨r9, I9, J9, rfl, rfl, h9⟩
      refine mm_r1' ⟨rfl, ?_⟩
      show mm_b _ _ _ _ _ [some (.ref 1), some (.ref 26), some (.int x1), none] [.int r9] ((fl, n1, n2, p, true, ad), I9, J9)
      show (r9 = 0 ∨ r9 = 1) ∧ _
      refine ⟨h9.1, ?_⟩
      exact h9.2
/- 64 ThreeBreaths$Reader takeKind -/
theorem fx_64 {d : Nat} {fl : Nat → Bool} {n1 n2 : Nat} {p q : Bool} {ad : Nat → Nat} {I : mmI} {J : mmJ} {Q : mmQ} (h : mm_wc d 65 [.ref 1] ((fl, 0, 0, p, q, ad), I, J) (fun v τ => ∃ r1 I1 J1, v = some (.int r1) ∧ τ = ((fl, 0, 0, p, q, ad), I1, J1) ∧ ((¬ r1 = (-1) → (((nI 0) ≤ ((I1 (mm_ck q 1) 3) - (nI 1)) → (vp_in ((I1 (mm_ck q 1) 3) - (nI 1)) 10 ∧ ((¬ r1 = (nI 3) → (vp_in ((I1 (mm_ck q 1) 3) - (nI 1)) 10 ∧ mm_wc d 77 [.ref 1] ((fl, 0, 0, p, q, ad), (mm_up (mm_up I1 (mm_ck q 4) (((I1 (mm_ck q 1) 3) - (nI 1))).toNatClampNeg (nI 0)) (mm_ck q 4) (((I1 (mm_ck q 1) 3) - (nI 1))).toNatClampNeg r1), J1) (fun v τ => ∃ I2 J2, v = none ∧ τ = ((fl, 0, 0, p, q, ad), I2, J2) ∧ Q (some (.int (nI 1))) ((fl, n1, n2, p, q, ad), I2, J2)))) ∧ (r1 = (nI 3) → mm_wc d 33 [.ref (mm_ck q 0)] ((fl, 0, 0, p, q, ad), (mm_up I1 (mm_ck q 4) (((I1 (mm_ck q 1) 3) - (nI 1))).toNatClampNeg (nI 0)), J1) (fun v τ => ∃ r3 I3 J3, v = some (.int r3) ∧ τ = ((fl, 0, 0, p, q, ad), I3, J3) ∧ ((r3 < (nI 3) → (vp_in ((I1 (mm_ck q 1) 3) - (nI 1)) 10 ∧ mm_wc d 77 [.ref 1] ((fl, 0, 0, p, q, ad), (mm_up I3 (mm_ck q 4) (((I1 (mm_ck q 1) 3) - (nI 1))).toNatClampNeg r1), J3) (fun v τ => ∃ I4 J4, v = none ∧ τ = ((fl, 0, 0, p, q, ad), I4, J4) ∧ Q (some (.int (nI 1))) ((fl, n1, n2, p, q, ad), I4, J4)))) ∧ (¬ r3 < (nI 3) → mm_wc d 60 [.ref 1, .int (nI 5)] ((fl, 0, 0, p, q, ad), I3, J3) (fun v τ => ∃ r5 I5 J5, v = some (.int r5) ∧ τ = ((fl, 0, 0, p, q, ad), I5, J5) ∧ ((r5 = 0 ∨ r5 = 1) ∧ Q (some (.int r5)) ((fl, n1, n2, p, q, ad), I5, J5)))))))))) ∧ (¬ (nI 0) ≤ ((I1 (mm_ck q 1) 3) - (nI 1)) → mm_wc d 60 [.ref 1, .int (nI 1)] ((fl, 0, 0, p, q, ad), I1, J1) (fun v τ => ∃ r6 I6 J6, v = some (.int r6) ∧ τ = ((fl, 0, 0, p, q, ad), I6, J6) ∧ ((r6 = 0 ∨ r6 = 1) ∧ Q (some (.int r6)) ((fl, n1, n2, p, q, ad), I6, J6)))))) ∧ (r1 = (-1) → mm_wc d 60 [.ref 1, .int (nI 1)] ((fl, 0, 0, p, q, ad), I1, J1) (fun v τ => ∃ r7 I7 J7, v = some (.int r7) ∧ τ = ((fl, 0, 0, p, q, ad), I7, J7) ∧ ((r7 = 0 ∨ r7 = 1) ∧ Q (some (.int r7)) ((fl, n1, n2, p, q, ad), I7, J7))))))) : mm_wc (d + 1) 64 [.ref 1] ((fl, n1, n2, p, q, ad), I, J) Q := by
  cases q
  · refine mm_call (c := 64) rfl rfl ?_
    refine mm_go [] 80 ?_
    show mm_wc d 65 [.ref 1] ((fl, 0, 0, p, false, ad), I, J) _
    refine mm_wcm h ?_
    rintro v τ ⟨r1, I1, J1, rfl, rfl, h1⟩
    refine mm_r1' ⟨rfl, ?_⟩
    show mm_b _ _ _ _ _ [some (.ref 1), none, none] [.int r1] ((fl, n1, n2, p, false, ad), I1, J1)
    show (¬ r1 = (-1) → _) ∧ (r1 = (-1) → _)
    refine ⟨fun c0 => ?_, fun c0 => ?_⟩
    · show mm_u _ _ _ _ _ _ [some (.ref 1), some (.int r1), none] [] ((fl, n1, n2, p, false, ad), I1, J1)
      show ((nI 0) ≤ ((I1 33 3) - (nI 1)) → _) ∧ (¬ (nI 0) ≤ ((I1 33 3) - (nI 1)) → _)
      refine ⟨fun c1 => ?_, fun c1 => ?_⟩
      · show mm_u _ _ _ _ _ _ [some (.ref 1), some (.int r1), some (.int ((I1 33 3) - (nI 1)))] [] ((fl, n1, n2, p, false, ad), I1, J1)
        show vp_in ((I1 33 3) - (nI 1)) 10 ∧ _
        refine ⟨((h1.1 c0).1 c1).1, ?_⟩
        show mm_b _ _ _ _ _ [some (.ref 1), some (.int r1), some (.int ((I1 33 3) - (nI 1)))] [] ((fl, n1, n2, p, false, ad), (mm_up I1 36 (((I1 33 3) - (nI 1))).toNatClampNeg (nI 0)), J1)
        show (¬ r1 = (nI 3) → _) ∧ (r1 = (nI 3) → _)
        refine ⟨fun c2 => ?_, fun c2 => ?_⟩
        · show mm_u _ _ _ _ _ _ [some (.ref 1), some (.int r1), some (.int ((I1 33 3) - (nI 1)))] [] ((fl, n1, n2, p, false, ad), (mm_up I1 36 (((I1 33 3) - (nI 1))).toNatClampNeg (nI 0)), J1)
          show vp_in ((I1 33 3) - (nI 1)) 10 ∧ _
          refine ⟨(((h1.1 c0).1 c1).2.1 c2).1, ?_⟩
          show mm_b _ _ _ _ _ [some (.ref 1), some (.int r1), some (.int ((I1 33 3) - (nI 1)))] [] ((fl, n1, n2, p, false, ad), (mm_up (mm_up I1 36 (((I1 33 3) - (nI 1))).toNatClampNeg (nI 0)) 36 (((I1 33 3) - (nI 1))).toNatClampNeg r1), J1)
          show mm_wc d 77 [.ref 1] ((fl, 0, 0, p, false, ad), (mm_up (mm_up I1 36 (((I1 33 3) - (nI 1))).toNatClampNeg (nI 0)) 36 (((I1 33 3) - (nI 1))).toNatClampNeg r1), J1) _
          refine mm_wcm ((((h1.1 c0).1 c1).2.1 c2).2) ?_
          rintro v τ ⟨I2, J2, rfl, rfl, h2⟩
          refine mm_r0' ⟨rfl, ?_⟩
          show mm_b _ _ _ _ _ [some (.ref 1), some (.int r1), some (.int ((I1 33 3) - (nI 1)))] [] ((fl, n1, n2, p, false, ad), I2, J2)
          show (((nI 1) : Int32) = 0 ∨ ((nI 1) : Int32) = 1) ∧ _
          refine ⟨(by decide), ?_⟩
          exact h2
        · show mm_b _ _ _ _ _ [some (.ref 1), some (.int r1), some (.int ((I1 33 3) - (nI 1)))] [] ((fl, n1, n2, p, false, ad), (mm_up I1 36 (((I1 33 3) - (nI 1))).toNatClampNeg (nI 0)), J1)
          show mm_wc d 33 [.ref 32] ((fl, 0, 0, p, false, ad), (mm_up I1 36 (((I1 33 3) - (nI 1))).toNatClampNeg (nI 0)), J1) _
          refine mm_wcm (((h1.1 c0).1 c1).2.2 c2) ?_
          rintro v τ ⟨r3, I3, J3, rfl, rfl, h3⟩
          refine mm_r1' ⟨rfl, ?_⟩
          show mm_b _ _ _ _ _ [some (.ref 1), some (.int r1), some (.int ((I1 33 3) - (nI 1)))] [.int r3] ((fl, n1, n2, p, false, ad), I3, J3)
          show (r3 < (nI 3) → _) ∧ (¬ r3 < (nI 3) → _)
          refine ⟨fun c3 => ?_, fun c3 => ?_⟩
          · show mm_u _ _ _ _ _ _ [some (.ref 1), some (.int r1), some (.int ((I1 33 3) - (nI 1)))] [] ((fl, n1, n2, p, false, ad), I3, J3)
            show vp_in ((I1 33 3) - (nI 1)) 10 ∧ _
            refine ⟨(h3.1 c3).1, ?_⟩
            show mm_b _ _ _ _ _ [some (.ref 1), some (.int r1), some (.int ((I1 33 3) - (nI 1)))] [] ((fl, n1, n2, p, false, ad), (mm_up I3 36 (((I1 33 3) - (nI 1))).toNatClampNeg r1), J3)
            show mm_wc d 77 [.ref 1] ((fl, 0, 0, p, false, ad), (mm_up I3 36 (((I1 33 3) - (nI 1))).toNatClampNeg r1), J3) _
            refine mm_wcm ((h3.1 c3).2) ?_
            rintro v τ ⟨I4, J4, rfl, rfl, h4⟩
            refine mm_r0' ⟨rfl, ?_⟩
            show mm_b _ _ _ _ _ [some (.ref 1), some (.int r1), some (.int ((I1 33 3) - (nI 1)))] [] ((fl, n1, n2, p, false, ad), I4, J4)
            show (((nI 1) : Int32) = 0 ∨ ((nI 1) : Int32) = 1) ∧ _
            refine ⟨(by decide), ?_⟩
            exact h4
          · show mm_b _ _ _ _ _ [some (.ref 1), some (.int r1), some (.int ((I1 33 3) - (nI 1)))] [] ((fl, n1, n2, p, false, ad), I3, J3)
            show mm_wc d 60 [.ref 1, .int (nI 5)] ((fl, 0, 0, p, false, ad), I3, J3) _
            refine mm_wcm (h3.2 c3) ?_
            rintro v τ ⟨r5, I5, J5, rfl, rfl, h5⟩
            refine mm_r1' ⟨rfl, ?_⟩
            show mm_b _ _ _ _ _ [some (.ref 1), some (.int r1), some (.int ((I1 33 3) - (nI 1)))] [.int r5] ((fl, n1, n2, p, false, ad), I5, J5)
            show (r5 = 0 ∨ r5 = 1) ∧ _
            refine ⟨h5.1, ?_⟩
            exact h5.2
      · show mm_b _ _ _ _ _ [some (.ref 1), some (.int r1), some (.int ((I1 33 3) - (nI 1)))] [] ((fl, n1, n2, p, false, ad), I1, J1)
        show mm_wc d 60 [.ref 1, .int (nI 1)] ((fl, 0, 0, p, false, ad), I1, J1) _
        refine mm_wcm ((h1.1 c0).2 c1) ?_
        rintro v τ ⟨r6, I6, J6, rfl, rfl, h6⟩
        refine mm_r1' ⟨rfl, ?_⟩
        show mm_b _ _ _ _ _ [some (.ref 1), some (.int r1), some (.int ((I1 33 3) - (nI 1)))] [.int r6] ((fl, n1, n2, p, false, ad), I6, J6)
        show (r6 = 0 ∨ r6 = 1) ∧ _
        refine ⟨h6.1, ?_⟩
        exact h6.2
    · show mm_b _ _ _ _ _ [some (.ref 1), some (.int r1), none] [] ((fl, n1, n2, p, false, ad), I1, J1)
      show mm_wc d 60 [.ref 1, .int (nI 1)] ((fl, 0, 0, p, false, ad), I1, J1) _
      refine mm_wcm (h1.2 c0) ?_
      rintro v τ ⟨r7, I7, J7, rfl, rfl, h7⟩
      refine mm_r1' ⟨rfl, ?_⟩
      show mm_b _ _ _ _ _ [some (.ref 1), some (.int r1), none] [.int r7] ((fl, n1, n2, p, false, ad), I7, J7)
      show (r7 = 0 ∨ r7 = 1) ∧ _
      refine ⟨h7.1, ?_⟩
      exact h7.2
  · refine mm_call (c := 64) rfl rfl ?_
    refine mm_go [] 80 ?_
    show mm_wc d 65 [.ref 1] ((fl, 0, 0, p, true, ad), I, J) _
    refine mm_wcm h ?_
    rintro v τ ⟨r1, I1, J1, rfl, rfl, h1⟩
    refine mm_r1' ⟨rfl, ?_⟩
    show mm_b _ _ _ _ _ [some (.ref 1), none, none] [.int r1] ((fl, n1, n2, p, true, ad), I1, J1)
    show (¬ r1 = (-1) → _) ∧ (r1 = (-1) → _)
    refine ⟨fun c0 => ?_, fun c0 => ?_⟩
    · show mm_u _ _ _ _ _ _ [some (.ref 1), some (.int r1), none] [] ((fl, n1, n2, p, true, ad), I1, J1)
      show ((nI 0) ≤ ((I1 19 3) - (nI 1)) → _) ∧ (¬ (nI 0) ≤ ((I1 19 3) - (nI 1)) → _)
      refine ⟨fun c1 => ?_, fun c1 => ?_⟩
      · show mm_u _ _ _ _ _ _ [some (.ref 1), some (.int r1), some (.int ((I1 19 3) - (nI 1)))] [] ((fl, n1, n2, p, true, ad), I1, J1)
        show vp_in ((I1 19 3) - (nI 1)) 10 ∧ _
        refine ⟨((h1.1 c0).1 c1).1, ?_⟩
        show mm_b _ _ _ _ _ [some (.ref 1), some (.int r1), some (.int ((I1 19 3) - (nI 1)))] [] ((fl, n1, n2, p, true, ad), (mm_up I1 22 (((I1 19 3) - (nI 1))).toNatClampNeg (nI 0)), J1)
        show (¬ r1 = (nI 3) → _) ∧ (r1 = (nI 3) → _)
        refine ⟨fun c2 => ?_, fun c2 => ?_⟩
        · show mm_u _ _ _ _ _ _ [some (.ref 1), some (.int r1), some (.int ((I1 19 3) - (nI 1)))] [] ((fl, n1, n2, p, true, ad), (mm_up I1 22 (((I1 19 3) - (nI 1))).toNatClampNeg (nI 0)), J1)
          show vp_in ((I1 19 3) - (nI 1)) 10 ∧ _
          refine ⟨(((h1.1 c0).1 c1).2.1 c2).1, ?_⟩
          show mm_b _ _ _ _ _ [some (.ref 1), some (.int r1), some (.int ((I1 19 3) - (nI 1)))] [] ((fl, n1, n2, p, true, ad), (mm_up (mm_up I1 22 (((I1 19 3) - (nI 1))).toNatClampNeg (nI 0)) 22 (((I1 19 3) - (nI 1))).toNatClampNeg r1), J1)
          show mm_wc d 77 [.ref 1] ((fl, 0, 0, p, true, ad), (mm_up (mm_up I1 22 (((I1 19 3) - (nI 1))).toNatClampNeg (nI 0)) 22 (((I1 19 3) - (nI 1))).toNatClampNeg r1), J1) _
          refine mm_wcm ((((h1.1 c0).1 c1).2.1 c2).2) ?_
          rintro v τ ⟨I2, J2, rfl, rfl, h2⟩
          refine mm_r0' ⟨rfl, ?_⟩
          show mm_b _ _ _ _ _ [some (.ref 1), some (.int r1), some (.int ((I1 19 3) - (nI 1)))] [] ((fl, n1, n2, p, true, ad), I2, J2)
          show (((nI 1) : Int32) = 0 ∨ ((nI 1) : Int32) = 1) ∧ _
          refine ⟨(by decide), ?_⟩
          exact h2
        · show mm_b _ _ _ _ _ [some (.ref 1), some (.int r1), some (.int ((I1 19 3) - (nI 1)))] [] ((fl, n1, n2, p, true, ad), (mm_up I1 22 (((I1 19 3) - (nI 1))).toNatClampNeg (nI 0)), J1)
          show mm_wc d 33 [.ref 18] ((fl, 0, 0, p, true, ad), (mm_up I1 22 (((I1 19 3) - (nI 1))).toNatClampNeg (nI 0)), J1) _
          refine mm_wcm (((h1.1 c0).1 c1).2.2 c2) ?_
          rintro v τ ⟨r3, I3, J3, rfl, rfl, h3⟩
          refine mm_r1' ⟨rfl, ?_⟩
          show mm_b _ _ _ _ _ [some (.ref 1), some (.int r1), some (.int ((I1 19 3) - (nI 1)))] [.int r3] ((fl, n1, n2, p, true, ad), I3, J3)
          show (r3 < (nI 3) → _) ∧ (¬ r3 < (nI 3) → _)
          refine ⟨fun c3 => ?_, fun c3 => ?_⟩
          · show mm_u _ _ _ _ _ _ [some (.ref 1), some (.int r1), some (.int ((I1 19 3) - (nI 1)))] [] ((fl, n1, n2, p, true, ad), I3, J3)
            show vp_in ((I1 19 3) - (nI 1)) 10 ∧ _
            refine ⟨(h3.1 c3).1, ?_⟩
            show mm_b _ _ _ _ _ [some (.ref 1), some (.int r1), some (.int ((I1 19 3) - (nI 1)))] [] ((fl, n1, n2, p, true, ad), (mm_up I3 22 (((I1 19 3) - (nI 1))).toNatClampNeg r1), J3)
            show mm_wc d 77 [.ref 1] ((fl, 0, 0, p, true, ad), (mm_up I3 22 (((I1 19 3) - (nI 1))).toNatClampNeg r1), J3) _
            refine mm_wcm ((h3.1 c3).2) ?_
            rintro v τ ⟨I4, J4, rfl, rfl, h4⟩
            refine mm_r0' ⟨rfl, ?_⟩
            show mm_b _ _ _ _ _ [some (.ref 1), some (.int r1), some (.int ((I1 19 3) - (nI 1)))] [] ((fl, n1, n2, p, true, ad), I4, J4)
            show (((nI 1) : Int32) = 0 ∨ ((nI 1) : Int32) = 1) ∧ _
            refine ⟨(by decide), ?_⟩
            exact h4
          · show mm_b _ _ _ _ _ [some (.ref 1), some (.int r1), some (.int ((I1 19 3) - (nI 1)))] [] ((fl, n1, n2, p, true, ad), I3, J3)
            show mm_wc d 60 [.ref 1, .int (nI 5)] ((fl, 0, 0, p, true, ad), I3, J3) _
            refine mm_wcm (h3.2 c3) ?_
            rintro v τ ⟨r5, I5, J5, rfl, rfl, h5⟩
            refine mm_r1' ⟨rfl, ?_⟩
            show mm_b _ _ _ _ _ [some (.ref 1), some (.int r1), some (.int ((I1 19 3) - (nI 1)))] [.int r5] ((fl, n1, n2, p, true, ad), I5, J5)
            show (r5 = 0 ∨ r5 = 1) ∧ _
            refine ⟨h5.1, ?_⟩
            exact h5.2
      · show mm_b _ _ _ _ _ [some (.ref 1), some (.int r1), some (.int ((I1 19 3) - (nI 1)))] [] ((fl, n1, n2, p, true, ad), I1, J1)
        show mm_wc d 60 [.ref 1, .int (nI 1)] ((fl, 0, 0, p, true, ad), I1, J1) _
        refine mm_wcm ((h1.1 c0).2 c1) ?_
        rintro v τ ⟨r6, I6, J6, rfl, rfl, h6⟩
        refine mm_r1' ⟨rfl, ?_⟩
        show mm_b _ _ _ _ _ [some (.ref 1), some (.int r1), some (.int ((I1 19 3) - (nI 1)))] [.int r6] ((fl, n1, n2, p, true, ad), I6, J6)
        show (r6 = 0 ∨ r6 = 1) ∧ _
        refine ⟨h6.1, ?_⟩
        exact h6.2
    · show mm_b _ _ _ _ _ [some (.ref 1), some (.int r1), none] [] ((fl, n1, n2, p, true, ad), I1, J1)
      show mm_wc d 60 [.ref 1, .int (nI 1)] ((fl, 0, 0, p, true, ad), I1, J1) _
      refine mm_wcm (h1.2 c0) ?_
      rintro v τ ⟨r7, I7, J7, rfl, rfl, h7⟩
      refine mm_r1' ⟨rfl, ?_⟩
      show mm_b _ _ _ _ _ [some (.ref 1), some (.int r1), none] [.int r7] ((fl, n1, n2, p, true, ad), I7, J7)
      show (r7 = 0 ∨ r7 = 1) ∧ _
      refine ⟨h7.1, ?_⟩
      exact h7.2
/- 65 ThreeBreaths$Reader kindSaid -/
theorem fx_65 {d : Nat} {fl : Nat → Bool} {n1 n2 : Nat} {p q : Bool} {ad : Nat → Nat} {I : mmI} {J : mmJ} {Q : mmQ} (h : mm_wc d 73 [.ref 1, .ref 109] ((fl, 0, 0, p, q, ad), I, J) (fun v τ => ∃ r1 I1 J1, v = some (.int r1) ∧ τ = ((fl, 0, 0, p, q, ad), I1, J1) ∧ ((r1 = (nI 0) → mm_wc d 73 [.ref 1, .ref 110] ((fl, 0, 0, p, q, ad), I1, J1) (fun v τ => ∃ r2 I2 J2, v = some (.int r2) ∧ τ = ((fl, 0, 0, p, q, ad), I2, J2) ∧ ((r2 = (nI 0) → mm_wc d 73 [.ref 1, .ref 111] ((fl, 0, 0, p, q, ad), I2, J2) (fun v τ => ∃ r3 I3 J3, v = some (.int r3) ∧ τ = ((fl, 0, 0, p, q, ad), I3, J3) ∧ ((r3 = (nI 0) → mm_wc d 73 [.ref 1, .ref 112] ((fl, 0, 0, p, q, ad), I3, J3) (fun v τ => ∃ r4 I4 J4, v = some (.int r4) ∧ τ = ((fl, 0, 0, p, q, ad), I4, J4) ∧ ((r4 = (nI 0) → Q (some (.int (-1))) ((fl, n1, n2, p, q, ad), I4, J4)) ∧ (¬ r4 = (nI 0) → Q (some (.int (nI 3))) ((fl, n1, n2, p, q, ad), I4, J4))))) ∧ (¬ r3 = (nI 0) → Q (some (.int (nI 2))) ((fl, n1, n2, p, q, ad), I3, J3))))) ∧ (¬ r2 = (nI 0) → Q (some (.int (nI 1))) ((fl, n1, n2, p, q, ad), I2, J2))))) ∧ (¬ r1 = (nI 0) → Q (some (.int (nI 0))) ((fl, n1, n2, p, q, ad), I1, J1))))) : mm_wc (d + 1) 65 [.ref 1] ((fl, n1, n2, p, q, ad), I, J) Q := by
  refine mm_call (c := 65) rfl rfl ?_
  refine mm_go [] 80 ?_
  show mm_wc d 73 [.ref 1, .ref 109] ((fl, 0, 0, p, q, ad), I, J) _
  refine mm_wcm h ?_
  rintro v τ ⟨r1, I1, J1, rfl, rfl, h1⟩
  refine mm_r1' ⟨rfl, ?_⟩
  show mm_b _ _ _ _ _ [some (.ref 1)] [.int r1] ((fl, n1, n2, p, q, ad), I1, J1)
  show (r1 = (nI 0) → _) ∧ (¬ r1 = (nI 0) → _)
  refine ⟨fun c0 => ?_, fun c0 => ?_⟩
  · show mm_u _ _ _ _ _ _ [some (.ref 1)] [] ((fl, n1, n2, p, q, ad), I1, J1)
    show mm_wc d 73 [.ref 1, .ref 110] ((fl, 0, 0, p, q, ad), I1, J1) _
    refine mm_wcm (h1.1 c0) ?_
    rintro v τ ⟨r2, I2, J2, rfl, rfl, h2⟩
    refine mm_r1' ⟨rfl, ?_⟩
    show mm_b _ _ _ _ _ [some (.ref 1)] [.int r2] ((fl, n1, n2, p, q, ad), I2, J2)
    show (r2 = (nI 0) → _) ∧ (¬ r2 = (nI 0) → _)
    refine ⟨fun c1 => ?_, fun c1 => ?_⟩
    · show mm_u _ _ _ _ _ _ [some (.ref 1)] [] ((fl, n1, n2, p, q, ad), I2, J2)
      show mm_wc d 73 [.ref 1, .ref 111] ((fl, 0, 0, p, q, ad), I2, J2) _
      refine mm_wcm (h2.1 c1) ?_
      rintro v τ ⟨r3, I3, J3, rfl, rfl, h3⟩
      refine mm_r1' ⟨rfl, ?_⟩
      show mm_b _ _ _ _ _ [some (.ref 1)] [.int r3] ((fl, n1, n2, p, q, ad), I3, J3)
      show (r3 = (nI 0) → _) ∧ (¬ r3 = (nI 0) → _)
      refine ⟨fun c2 => ?_, fun c2 => ?_⟩
      · show mm_u _ _ _ _ _ _ [some (.ref 1)] [] ((fl, n1, n2, p, q, ad), I3, J3)
        show mm_wc d 73 [.ref 1, .ref 112] ((fl, 0, 0, p, q, ad), I3, J3) _
        refine mm_wcm (h3.1 c2) ?_
        rintro v τ ⟨r4, I4, J4, rfl, rfl, h4⟩
        refine mm_r1' ⟨rfl, ?_⟩
        show mm_b _ _ _ _ _ [some (.ref 1)] [.int r4] ((fl, n1, n2, p, q, ad), I4, J4)
        show (r4 = (nI 0) → _) ∧ (¬ r4 = (nI 0) → _)
        refine ⟨fun c3 => ?_, fun c3 => ?_⟩
        · exact (h4.1 c3)
        · exact (h4.2 c3)
      · exact (h3.2 c2)
    · exact (h2.2 c1)
  · exact (h1.2 c0)
/- 66 ThreeBreaths$Reader takePerson -/
theorem fx_66 {d : Nat} {fl : Nat → Bool} {n1 n2 : Nat} {p q : Bool} {ad : Nat → Nat} {I : mmI} {J : mmJ} {Q : mmQ} (h : (((I (mm_ck q 0) 6) < (nI 4) → mm_wc d 77 [.ref 1] ((fl, 0, 0, p, q, ad), I, J) (fun v τ => ∃ I1 J1, v = none ∧ τ = ((fl, 0, 0, p, q, ad), I1, J1) ∧ mm_wc d 70 [.ref 1, .int (nI 2), .int (I (mm_ck q 0) 6)] ((fl, 0, 0, p, q, ad), I1, J1) (fun v τ => ∃ r2 I2 J2, v = some (.int r2) ∧ τ = ((fl, 0, 0, p, q, ad), I2, J2) ∧ ((r2 = (nI 0) → Q (some (.int (nI 0))) ((fl, n1, n2, p, q, ad), I2, J2)) ∧ (¬ r2 = (nI 0) → mm_wc d 74 [.ref 1, .ref 113] ((fl, 0, 0, p, q, ad), I2, J2) (fun v τ => ∃ r3 I3 J3, v = some (.int r3) ∧ τ = ((fl, 0, 0, p, q, ad), I3, J3) ∧ ((r3 = (nI 0) → Q (some (.int (nI 0))) ((fl, n1, n2, p, q, ad), I3, J3)) ∧ (¬ r3 = (nI 0) → mm_wc d 75 [.ref 1, .int (nI 1), .int (nI 30)] ((fl, 0, 0, p, q, ad), I3, J3) (fun v τ => ∃ r4 I4 J4, v = some (.int r4) ∧ τ = ((fl, 0, 0, p, q, ad), I4, J4) ∧ ((¬ r4 = (nI 0) → (vp_in (I (mm_ck q 0) 6) 4 ∧ mm_wc d 74 [.ref 1, .ref 114] ((fl, 0, 0, p, q, ad), (mm_up I4 (mm_ck q 11) ((I (mm_ck q 0) 6)).toNatClampNeg (I4 1 8)), J4) (fun v τ => ∃ r5 I5 J5, v = some (.int r5) ∧ τ = ((fl, 0, 0, p, q, ad), I5, J5) ∧ ((r5 = (nI 0) → Q (some (.int (nI 0))) ((fl, n1, n2, p, q, ad), I5, J5)) ∧ (¬ r5 = (nI 0) → mm_wc d 75 [.ref 1, .int (nI 0), .int (nI 30)] ((fl, 0, 0, p, q, ad), I5, J5) (fun v τ => ∃ r6 I6 J6, v = some (.int r6) ∧ τ = ((fl, 0, 0, p, q, ad), I6, J6) ∧ ((¬ r6 = (nI 0) → (vp_in (I (mm_ck q 0) 6) 4 ∧ Q (some (.int (nI 1))) ((fl, n1, n2, p, q, ad), (mm_up (mm_up I6 (mm_ck q 12) ((I (mm_ck q 0) 6)).toNatClampNeg (I6 1 8)) (mm_ck q 0) 6 ((I6 (mm_ck q 0) 6) + (nI 1))), J6))) ∧ (r6 = (nI 0) → Q (some (.int (nI 0))) ((fl, n1, n2, p, q, ad), I6, J6))))))))) ∧ (r4 = (nI 0) → Q (some (.int (nI 0))) ((fl, n1, n2, p, q, ad), I4, J4)))))))))))) ∧ (¬ (I (mm_ck q 0) 6) < (nI 4) → mm_wc d 60 [.ref 1, .int (nI 5)] ((fl, 0, 0, p, q, ad), I, J) (fun v τ => ∃ r7 I7 J7, v = some (.int r7) ∧ τ = ((fl, 0, 0, p, q, ad), I7, J7) ∧ ((r7 = 0 ∨ r7 = 1) ∧ Q (some (.int r7)) ((fl, n1, n2, p, q, ad), I7, J7)))))) : mm_wc (d + 1) 66 [.ref 1] ((fl, n1, n2, p, q, ad), I, J) Q := by
  cases q
  · refine mm_call (c := 66) rfl rfl ?_
    refine mm_go [] 80 ?_
    show ((I 32 6) < (nI 4) → _) ∧ (¬ (I 32 6) < (nI 4) → _)
    refine ⟨fun c0 => ?_, fun c0 => ?_⟩
    · show mm_u _ _ _ _ _ _ [some (.ref 1), some (.int (I 32 6))] [] ((fl, n1, n2, p, false, ad), I, J)
      show mm_wc d 77 [.ref 1] ((fl, 0, 0, p, false, ad), I, J) _
      refine mm_wcm (h.1 c0) ?_
      rintro v τ ⟨I1, J1, rfl, rfl, h1⟩
      refine mm_r0' ⟨rfl, ?_⟩
      show mm_b _ _ _ _ _ [some (.ref 1), some (.int (I 32 6))] [] ((fl, n1, n2, p, false, ad), I1, J1)
      show mm_wc d 70 [.ref 1, .int (nI 2), .int (I 32 6)] ((fl, 0, 0, p, false, ad), I1, J1) _
      refine mm_wcm h1 ?_
      rintro v τ ⟨r2, I2, J2, rfl, rfl, h2⟩
      refine mm_r1' ⟨rfl, ?_⟩
      show mm_b _ _ _ _ _ [some (.ref 1), some (.int (I 32 6))] [.int r2] ((fl, n1, n2, p, false, ad), I2, J2)
      show (r2 = (nI 0) → _) ∧ (¬ r2 = (nI 0) → _)
      refine ⟨fun c1 => ?_, fun c1 => ?_⟩
      · show mm_u _ _ _ _ _ _ [some (.ref 1), some (.int (I 32 6))] [] ((fl, n1, n2, p, false, ad), I2, J2)
        show (((nI 0) : Int32) = 0 ∨ ((nI 0) : Int32) = 1) ∧ _
        refine ⟨(by decide), ?_⟩
        exact (h2.1 c1)
      · show mm_b _ _ _ _ _ [some (.ref 1), some (.int (I 32 6))] [] ((fl, n1, n2, p, false, ad), I2, J2)
        show mm_wc d 74 [.ref 1, .ref 113] ((fl, 0, 0, p, false, ad), I2, J2) _
        refine mm_wcm (h2.2 c1) ?_
        rintro v τ ⟨r3, I3, J3, rfl, rfl, h3⟩
        refine mm_r1' ⟨rfl, ?_⟩
        show mm_b _ _ _ _ _ [some (.ref 1), some (.int (I 32 6))] [.int r3] ((fl, n1, n2, p, false, ad), I3, J3)
        show (r3 = (nI 0) → _) ∧ (¬ r3 = (nI 0) → _)
        refine ⟨fun c2 => ?_, fun c2 => ?_⟩
        · show mm_u _ _ _ _ _ _ [some (.ref 1), some (.int (I 32 6))] [] ((fl, n1, n2, p, false, ad), I3, J3)
          show (((nI 0) : Int32) = 0 ∨ ((nI 0) : Int32) = 1) ∧ _
          refine ⟨(by decide), ?_⟩
          exact (h3.1 c2)
        · show mm_b _ _ _ _ _ [some (.ref 1), some (.int (I 32 6))] [] ((fl, n1, n2, p, false, ad), I3, J3)
          show mm_wc d 75 [.ref 1, .int (nI 1), .int (nI 30)] ((fl, 0, 0, p, false, ad), I3, J3) _
          refine mm_wcm (h3.2 c2) ?_
          rintro v τ ⟨r4, I4, J4, rfl, rfl, h4⟩
          refine mm_r1' ⟨rfl, ?_⟩
          show mm_b _ _ _ _ _ [some (.ref 1), some (.int (I 32 6))] [.int r4] ((fl, n1, n2, p, false, ad), I4, J4)
          show (¬ r4 = (nI 0) → _) ∧ (r4 = (nI 0) → _)
          refine ⟨fun c3 => ?_, fun c3 => ?_⟩
          · show mm_u _ _ _ _ _ _ [some (.ref 1), some (.int (I 32 6))] [] ((fl, n1, n2, p, false, ad), I4, J4)
            show vp_in (I 32 6) 4 ∧ _
            refine ⟨(h4.1 c3).1, ?_⟩
            show mm_b _ _ _ _ _ [some (.ref 1), some (.int (I 32 6))] [] ((fl, n1, n2, p, false, ad), (mm_up I4 43 ((I 32 6)).toNatClampNeg (I4 1 8)), J4)
            show mm_wc d 74 [.ref 1, .ref 114] ((fl, 0, 0, p, false, ad), (mm_up I4 43 ((I 32 6)).toNatClampNeg (I4 1 8)), J4) _
            refine mm_wcm ((h4.1 c3).2) ?_
            rintro v τ ⟨r5, I5, J5, rfl, rfl, h5⟩
            refine mm_r1' ⟨rfl, ?_⟩
            show mm_b _ _ _ _ _ [some (.ref 1), some (.int (I 32 6))] [.int r5] ((fl, n1, n2, p, false, ad), I5, J5)
            show (r5 = (nI 0) → _) ∧ (¬ r5 = (nI 0) → _)
            refine ⟨fun c4 => ?_, fun c4 => ?_⟩
            · show mm_u _ _ _ _ _ _ [some (.ref 1), some (.int (I 32 6))] [] ((fl, n1, n2, p, false, ad), I5, J5)
              show (((nI 0) : Int32) = 0 ∨ ((nI 0) : Int32) = 1) ∧ _
              refine ⟨(by decide), ?_⟩
              exact (h5.1 c4)
            · show mm_b _ _ _ _ _ [some (.ref 1), some (.int (I 32 6))] [] ((fl, n1, n2, p, false, ad), I5, J5)
              show mm_wc d 75 [.ref 1, .int (nI 0), .int (nI 30)] ((fl, 0, 0, p, false, ad), I5, J5) _
              refine mm_wcm (h5.2 c4) ?_
              rintro v τ ⟨r6, I6, J6, rfl, rfl, h6⟩
              refine mm_r1' ⟨rfl, ?_⟩
              show mm_b _ _ _ _ _ [some (.ref 1), some (.int (I 32 6))] [.int r6] ((fl, n1, n2, p, false, ad), I6, J6)
              show (¬ r6 = (nI 0) → _) ∧ (r6 = (nI 0) → _)
              refine ⟨fun c5 => ?_, fun c5 => ?_⟩
              · show mm_u _ _ _ _ _ _ [some (.ref 1), some (.int (I 32 6))] [] ((fl, n1, n2, p, false, ad), I6, J6)
                show vp_in (I 32 6) 4 ∧ _
                refine ⟨(h6.1 c5).1, ?_⟩
                show mm_b _ _ _ _ _ [some (.ref 1), some (.int (I 32 6))] [] ((fl, n1, n2, p, false, ad), (mm_up I6 44 ((I 32 6)).toNatClampNeg (I6 1 8)), J6)
                show (((nI 1) : Int32) = 0 ∨ ((nI 1) : Int32) = 1) ∧ _
                refine ⟨(by decide), ?_⟩
                exact (h6.1 c5).2
              · show mm_b _ _ _ _ _ [some (.ref 1), some (.int (I 32 6))] [] ((fl, n1, n2, p, false, ad), I6, J6)
                show (((nI 0) : Int32) = 0 ∨ ((nI 0) : Int32) = 1) ∧ _
                refine ⟨(by decide), ?_⟩
                exact (h6.2 c5)
          · show mm_b _ _ _ _ _ [some (.ref 1), some (.int (I 32 6))] [] ((fl, n1, n2, p, false, ad), I4, J4)
            show (((nI 0) : Int32) = 0 ∨ ((nI 0) : Int32) = 1) ∧ _
            refine ⟨(by decide), ?_⟩
            exact (h4.2 c3)
    · show mm_b _ _ _ _ _ [some (.ref 1), some (.int (I 32 6))] [] ((fl, n1, n2, p, false, ad), I, J)
      show mm_wc d 60 [.ref 1, .int (nI 5)] ((fl, 0, 0, p, false, ad), I, J) _
      refine mm_wcm (h.2 c0) ?_
      rintro v τ ⟨r7, I7, J7, rfl, rfl, h7⟩
      refine mm_r1' ⟨rfl, ?_⟩
      show mm_b _ _ _ _ _ [some (.ref 1), some (.int (I 32 6))] [.int r7] ((fl, n1, n2, p, false, ad), I7, J7)
      show (r7 = 0 ∨ r7 = 1) ∧ _
      refine ⟨h7.1, ?_⟩
      exact h7.2
  · refine mm_call (c := 66) rfl rfl ?_
    refine mm_go [] 80 ?_
    show ((I 18 6) < (nI 4) → _) ∧ (¬ (I 18 6) < (nI 4) → _)
    refine ⟨fun c0 => ?_, fun c0 => ?_⟩
    · show mm_u _ _ _ _ _ _ [some (.ref 1), some (.int (I 18 6))] [] ((fl, n1, n2, p, true, ad), I, J)
      show mm_wc d 77 [.ref 1] ((fl, 0, 0, p, true, ad), I, J) _
      refine mm_wcm (h.1 c0) ?_
      rintro v τ ⟨I1, J1, rfl, rfl, h1⟩
      refine mm_r0' ⟨rfl, ?_⟩
      show mm_b _ _ _ _ _ [some (.ref 1), some (.int (I 18 6))] [] ((fl, n1, n2, p, true, ad), I1, J1)
      show mm_wc d 70 [.ref 1, .int (nI 2), .int (I 18 6)] ((fl, 0, 0, p, true, ad), I1, J1) _
      refine mm_wcm h1 ?_
      rintro v τ ⟨r2, I2, J2, rfl, rfl, h2⟩
      refine mm_r1' ⟨rfl, ?_⟩
      show mm_b _ _ _ _ _ [some (.ref 1), some (.int (I 18 6))] [.int r2] ((fl, n1, n2, p, true, ad), I2, J2)
      show (r2 = (nI 0) → _) ∧ (¬ r2 = (nI 0) → _)
      refine ⟨fun c1 => ?_, fun c1 => ?_⟩
      · show mm_u _ _ _ _ _ _ [some (.ref 1), some (.int (I 18 6))] [] ((fl, n1, n2, p, true, ad), I2, J2)
        show (((nI 0) : Int32) = 0 ∨ ((nI 0) : Int32) = 1) ∧ _
        refine ⟨(by decide), ?_⟩
        exact (h2.1 c1)
      · show mm_b _ _ _ _ _ [some (.ref 1), some (.int (I 18 6))] [] ((fl, n1, n2, p, true, ad), I2, J2)
        show mm_wc d 74 [.ref 1, .ref 113] ((fl, 0, 0, p, true, ad), I2, J2) _
        refine mm_wcm (h2.2 c1) ?_
        rintro v τ ⟨r3, I3, J3, rfl, rfl, h3⟩
        refine mm_r1' ⟨rfl, ?_⟩
        show mm_b _ _ _ _ _ [some (.ref 1), some (.int (I 18 6))] [.int r3] ((fl, n1, n2, p, true, ad), I3, J3)
        show (r3 = (nI 0) → _) ∧ (¬ r3 = (nI 0) → _)
        refine ⟨fun c2 => ?_, fun c2 => ?_⟩
        · show mm_u _ _ _ _ _ _ [some (.ref 1), some (.int (I 18 6))] [] ((fl, n1, n2, p, true, ad), I3, J3)
          show (((nI 0) : Int32) = 0 ∨ ((nI 0) : Int32) = 1) ∧ _
          refine ⟨(by decide), ?_⟩
          exact (h3.1 c2)
        · show mm_b _ _ _ _ _ [some (.ref 1), some (.int (I 18 6))] [] ((fl, n1, n2, p, true, ad), I3, J3)
          show mm_wc d 75 [.ref 1, .int (nI 1), .int (nI 30)] ((fl, 0, 0, p, true, ad), I3, J3) _
          refine mm_wcm (h3.2 c2) ?_
          rintro v τ ⟨r4, I4, J4, rfl, rfl, h4⟩
          refine mm_r1' ⟨rfl, ?_⟩
          show mm_b _ _ _ _ _ [some (.ref 1), some (.int (I 18 6))] [.int r4] ((fl, n1, n2, p, true, ad), I4, J4)
          show (¬ r4 = (nI 0) → _) ∧ (r4 = (nI 0) → _)
          refine ⟨fun c3 => ?_, fun c3 => ?_⟩
          · show mm_u _ _ _ _ _ _ [some (.ref 1), some (.int (I 18 6))] [] ((fl, n1, n2, p, true, ad), I4, J4)
            show vp_in (I 18 6) 4 ∧ _
            refine ⟨(h4.1 c3).1, ?_⟩
            show mm_b _ _ _ _ _ [some (.ref 1), some (.int (I 18 6))] [] ((fl, n1, n2, p, true, ad), (mm_up I4 29 ((I 18 6)).toNatClampNeg (I4 1 8)), J4)
            show mm_wc d 74 [.ref 1, .ref 114] ((fl, 0, 0, p, true, ad), (mm_up I4 29 ((I 18 6)).toNatClampNeg (I4 1 8)), J4) _
            refine mm_wcm ((h4.1 c3).2) ?_
            rintro v τ ⟨r5, I5, J5, rfl, rfl, h5⟩
            refine mm_r1' ⟨rfl, ?_⟩
            show mm_b _ _ _ _ _ [some (.ref 1), some (.int (I 18 6))] [.int r5] ((fl, n1, n2, p, true, ad), I5, J5)
            show (r5 = (nI 0) → _) ∧ (¬ r5 = (nI 0) → _)
            refine ⟨fun c4 => ?_, fun c4 => ?_⟩
            · show mm_u _ _ _ _ _ _ [some (.ref 1), some (.int (I 18 6))] [] ((fl, n1, n2, p, true, ad), I5, J5)
              show (((nI 0) : Int32) = 0 ∨ ((nI 0) : Int32) = 1) ∧ _
              refine ⟨(by decide), ?_⟩
              exact (h5.1 c4)
            · show mm_b _ _ _ _ _ [some (.ref 1), some (.int (I 18 6))] [] ((fl, n1, n2, p, true, ad), I5, J5)
              show mm_wc d 75 [.ref 1, .int (nI 0), .int (nI 30)] ((fl, 0, 0, p, true, ad), I5, J5) _
              refine mm_wcm (h5.2 c4) ?_
              rintro v τ ⟨r6, I6, J6, rfl, rfl, h6⟩
              refine mm_r1' ⟨rfl, ?_⟩
              show mm_b _ _ _ _ _ [some (.ref 1), some (.int (I 18 6))] [.int r6] ((fl, n1, n2, p, true, ad), I6, J6)
              show (¬ r6 = (nI 0) → _) ∧ (r6 = (nI 0) → _)
              refine ⟨fun c5 => ?_, fun c5 => ?_⟩
              · show mm_u _ _ _ _ _ _ [some (.ref 1), some (.int (I 18 6))] [] ((fl, n1, n2, p, true, ad), I6, J6)
                show vp_in (I 18 6) 4 ∧ _
                refine ⟨(h6.1 c5).1, ?_⟩
                show mm_b _ _ _ _ _ [some (.ref 1), some (.int (I 18 6))] [] ((fl, n1, n2, p, true, ad), (mm_up I6 30 ((I 18 6)).toNatClampNeg (I6 1 8)), J6)
                show (((nI 1) : Int32) = 0 ∨ ((nI 1) : Int32) = 1) ∧ _
                refine ⟨(by decide), ?_⟩
                exact (h6.1 c5).2
              · show mm_b _ _ _ _ _ [some (.ref 1), some (.int (I 18 6))] [] ((fl, n1, n2, p, true, ad), I6, J6)
                show (((nI 0) : Int32) = 0 ∨ ((nI 0) : Int32) = 1) ∧ _
                refine ⟨(by decide), ?_⟩
                exact (h6.2 c5)
          · show mm_b _ _ _ _ _ [some (.ref 1), some (.int (I 18 6))] [] ((fl, n1, n2, p, true, ad), I4, J4)
            show (((nI 0) : Int32) = 0 ∨ ((nI 0) : Int32) = 1) ∧ _
            refine ⟨(by decide), ?_⟩
            exact (h4.2 c3)
    · show mm_b _ _ _ _ _ [some (.ref 1), some (.int (I 18 6))] [] ((fl, n1, n2, p, true, ad), I, J)
      show mm_wc d 60 [.ref 1, .int (nI 5)] ((fl, 0, 0, p, true, ad), I, J) _
      refine mm_wcm (h.2 c0) ?_
      rintro v τ ⟨r7, I7, J7, rfl, rfl, h7⟩
      refine mm_r1' ⟨rfl, ?_⟩
      show mm_b _ _ _ _ _ [some (.ref 1), some (.int (I 18 6))] [.int r7] ((fl, n1, n2, p, true, ad), I7, J7)
      show (r7 = 0 ∨ r7 = 1) ∧ _
      refine ⟨h7.1, ?_⟩
      exact h7.2
/- 67 ThreeBreaths$Reader takeShaky -/
theorem fx_67 {d : Nat} {fl : Nat → Bool} {n1 n2 : Nat} {p q : Bool} {ad : Nat → Nat} {I : mmI} {J : mmJ} {Q : mmQ} (h : (((I (mm_ck q 0) 10) = (nI 0) → mm_wc d 77 [.ref 1] ((fl, 0, 0, p, q, ad), (mm_up I (mm_ck q 0) 10 (nI 1)), J) (fun v τ => ∃ I1 J1, v = none ∧ τ = ((fl, 0, 0, p, q, ad), I1, J1) ∧ mm_wc d 75 [.ref 1, .int (nI 0), .int (nI 9)] ((fl, 0, 0, p, q, ad), I1, J1) (fun v τ => ∃ r2 I2 J2, v = some (.int r2) ∧ τ = ((fl, 0, 0, p, q, ad), I2, J2) ∧ ((¬ r2 = (nI 0) → mm_wc d 76 [.ref 1, .int (nI 4)] ((fl, 0, 0, p, q, ad), (mm_up I2 (mm_ck q 13) 0 (I2 1 8)), J2) (fun v τ => ∃ r3 I3 J3, v = some (.int r3) ∧ τ = ((fl, 0, 0, p, q, ad), I3, J3) ∧ ((r3 = (nI 0) → Q (some (.int (nI 0))) ((fl, n1, n2, p, q, ad), I3, J3)) ∧ (¬ r3 = (nI 0) → mm_wc d 75 [.ref 1, .int (nI 0), .int (nI 9)] ((fl, 0, 0, p, q, ad), I3, J3) (fun v τ => ∃ r4 I4 J4, v = some (.int r4) ∧ τ = ((fl, 0, 0, p, q, ad), I4, J4) ∧ ((¬ r4 = (nI 0) → mm_wc d 76 [.ref 1, .int (nI 4)] ((fl, 0, 0, p, q, ad), (mm_up I4 (mm_ck q 13) 1 (I4 1 8)), J4) (fun v τ => ∃ r5 I5 J5, v = some (.int r5) ∧ τ = ((fl, 0, 0, p, q, ad), I5, J5) ∧ ((¬ r5 = (nI 0) → ((¬ ((I5 (mm_ck q 13) 0) + (I5 (mm_ck q 13) 1)) = (nI 0) → mm_wc d 75 [.ref 1, .int (nI 0), .int (nI 9)] ((fl, 0, 0, p, q, ad), I5, J5) (fun v τ => ∃ r6 I6 J6, v = some (.int r6) ∧ τ = ((fl, 0, 0, p, q, ad), I6, J6) ∧ ((¬ r6 = (nI 0) → Q (some (.int (nI 1))) ((fl, n1, n2, p, q, ad), (mm_up I6 (mm_ck q 13) 2 (I6 1 8)), J6)) ∧ (r6 = (nI 0) → Q (some (.int (nI 0))) ((fl, n1, n2, p, q, ad), I6, J6))))) ∧ (((I5 (mm_ck q 13) 0) + (I5 (mm_ck q 13) 1)) = (nI 0) → mm_wc d 75 [.ref 1, .int (nI 1), .int (nI 9)] ((fl, 0, 0, p, q, ad), I5, J5) (fun v τ => ∃ r7 I7 J7, v = some (.int r7) ∧ τ = ((fl, 0, 0, p, q, ad), I7, J7) ∧ ((¬ r7 = (nI 0) → Q (some (.int (nI 1))) ((fl, n1, n2, p, q, ad), (mm_up I7 (mm_ck q 13) 2 (I7 1 8)), J7)) ∧ (r7 = (nI 0) → Q (some (.int (nI 0))) ((fl, n1, n2, p, q, ad), I7, J7))))))) ∧ (r5 = (nI 0) → Q (some (.int (nI 0))) ((fl, n1, n2, p, q, ad), I5, J5))))) ∧ (r4 = (nI 0) → Q (some (.int (nI 0))) ((fl, n1, n2, p, q, ad), I4, J4)))))))) ∧ (r2 = (nI 0) → Q (some (.int (nI 0))) ((fl, n1, n2, p, q, ad), I2, J2)))))) ∧ (¬ (I (mm_ck q 0) 10) = (nI 0) → mm_wc d 60 [.ref 1, .int (nI 3)] ((fl, 0, 0, p, q, ad), I, J) (fun v τ => ∃ r8 I8 J8, v = some (.int r8) ∧ τ = ((fl, 0, 0, p, q, ad), I8, J8) ∧ ((r8 = 0 ∨ r8 = 1) ∧ Q (some (.int r8)) ((fl, n1, n2, p, q, ad), I8, J8)))))) : mm_wc (d + 1) 67 [.ref 1] ((fl, n1, n2, p, q, ad), I, J) Q := by
  cases q
  · refine mm_call (c := 67) rfl rfl ?_
    refine mm_go [] 80 ?_
    show ((I 32 10) = (nI 0) → _) ∧ (¬ (I 32 10) = (nI 0) → _)
    refine ⟨fun c0 => ?_, fun c0 => ?_⟩
    · show mm_u _ _ _ _ _ _ [some (.ref 1), none] [] ((fl, n1, n2, p, false, ad), I, J)
      show (((nI 1) : Int32) = 0 ∨ ((nI 1) : Int32) = 1) ∧ _
      refine ⟨(by decide), ?_⟩
      show mm_b _ _ _ _ _ [some (.ref 1), none] [] ((fl, n1, n2, p, false, ad), (mm_up I 32 10 (nI 1)), J)
      show mm_wc d 77 [.ref 1] ((fl, 0, 0, p, false, ad), (mm_up I 32 10 (nI 1)), J) _
      refine mm_wcm (h.1 c0) ?_
      rintro v τ ⟨I1, J1, rfl, rfl, h1⟩
      refine mm_r0' ⟨rfl, ?_⟩
      show mm_b _ _ _ _ _ [some (.ref 1), none] [] ((fl, n1, n2, p, false, ad), I1, J1)
      show mm_wc d 75 [.ref 1, .int (nI 0), .int (nI 9)] ((fl, 0, 0, p, false, ad), I1, J1) _
      refine mm_wcm h1 ?_
      rintro v τ ⟨r2, I2, J2, rfl, rfl, h2⟩
      refine mm_r1' ⟨rfl, ?_⟩
      show mm_b _ _ _ _ _ [some (.ref 1), none] [.int r2] ((fl, n1, n2, p, false, ad), I2, J2)
      show (¬ r2 = (nI 0) → _) ∧ (r2 = (nI 0) → _)
      refine ⟨fun c1 => ?_, fun c1 => ?_⟩
      · show mm_u _ _ _ _ _ _ [some (.ref 1), none] [] ((fl, n1, n2, p, false, ad), I2, J2)
        show (vp_in (nI 0) 3) ∧ _
        refine ⟨(mm_inl (by decide)), ?_⟩
        show mm_b _ _ _ _ _ [some (.ref 1), none] [] ((fl, n1, n2, p, false, ad), (mm_up I2 45 0 (I2 1 8)), J2)
        show mm_wc d 76 [.ref 1, .int (nI 4)] ((fl, 0, 0, p, false, ad), (mm_up I2 45 0 (I2 1 8)), J2) _
        refine mm_wcm (h2.1 c1) ?_
        rintro v τ ⟨r3, I3, J3, rfl, rfl, h3⟩
        refine mm_r1' ⟨rfl, ?_⟩
        show mm_b _ _ _ _ _ [some (.ref 1), none] [.int r3] ((fl, n1, n2, p, false, ad), I3, J3)
        show (r3 = (nI 0) → _) ∧ (¬ r3 = (nI 0) → _)
        refine ⟨fun c2 => ?_, fun c2 => ?_⟩
        · show mm_u _ _ _ _ _ _ [some (.ref 1), none] [] ((fl, n1, n2, p, false, ad), I3, J3)
          show (((nI 0) : Int32) = 0 ∨ ((nI 0) : Int32) = 1) ∧ _
          refine ⟨(by decide), ?_⟩
          exact (h3.1 c2)
        · show mm_b _ _ _ _ _ [some (.ref 1), none] [] ((fl, n1, n2, p, false, ad), I3, J3)
          show mm_wc d 75 [.ref 1, .int (nI 0), .int (nI 9)] ((fl, 0, 0, p, false, ad), I3, J3) _
          refine mm_wcm (h3.2 c2) ?_
          rintro v τ ⟨r4, I4, J4, rfl, rfl, h4⟩
          refine mm_r1' ⟨rfl, ?_⟩
          show mm_b _ _ _ _ _ [some (.ref 1), none] [.int r4] ((fl, n1, n2, p, false, ad), I4, J4)
          show (¬ r4 = (nI 0) → _) ∧ (r4 = (nI 0) → _)
          refine ⟨fun c3 => ?_, fun c3 => ?_⟩
          · show mm_u _ _ _ _ _ _ [some (.ref 1), none] [] ((fl, n1, n2, p, false, ad), I4, J4)
            show (vp_in (nI 1) 3) ∧ _
            refine ⟨(mm_inl (by decide)), ?_⟩
            show mm_b _ _ _ _ _ [some (.ref 1), none] [] ((fl, n1, n2, p, false, ad), (mm_up I4 45 1 (I4 1 8)), J4)
            show mm_wc d 76 [.ref 1, .int (nI 4)] ((fl, 0, 0, p, false, ad), (mm_up I4 45 1 (I4 1 8)), J4) _
            refine mm_wcm (h4.1 c3) ?_
            rintro v τ ⟨r5, I5, J5, rfl, rfl, h5⟩
            refine mm_r1' ⟨rfl, ?_⟩
            show mm_b _ _ _ _ _ [some (.ref 1), none] [.int r5] ((fl, n1, n2, p, false, ad), I5, J5)
            show (¬ r5 = (nI 0) → _) ∧ (r5 = (nI 0) → _)
            refine ⟨fun c4 => ?_, fun c4 => ?_⟩
            · show mm_u _ _ _ _ _ _ [some (.ref 1), none] [] ((fl, n1, n2, p, false, ad), I5, J5)
              show (vp_in (nI 0) 3) ∧ _
              refine ⟨(mm_inl (by decide)), ?_⟩
              show mm_b _ _ _ _ _ [some (.ref 1), none] [.int (I5 45 0)] ((fl, n1, n2, p, false, ad), I5, J5)
              show (vp_in (nI 1) 3) ∧ _
              refine ⟨(mm_inl (by decide)), ?_⟩
              show mm_b _ _ _ _ _ [some (.ref 1), none] [.int (I5 45 1), .int (I5 45 0)] ((fl, n1, n2, p, false, ad), I5, J5)
              show (¬ ((I5 45 0) + (I5 45 1)) = (nI 0) → _) ∧ (((I5 45 0) + (I5 45 1)) = (nI 0) → _)
              refine ⟨fun c5 => ?_, fun c5 => ?_⟩
              · show mm_u _ _ _ _ _ _ [some (.ref 1), none] [] ((fl, n1, n2, p, false, ad), I5, J5)
                show mm_wc d 75 [.ref 1, .int (nI 0), .int (nI 9)] ((fl, 0, 0, p, false, ad), I5, J5) _
                refine mm_wcm ((h5.1 c4).1 c5) ?_
                rintro v τ ⟨r6, I6, J6, rfl, rfl, h6⟩
                refine mm_r1' ⟨rfl, ?_⟩
                show mm_b _ _ _ _ _ [some (.ref 1), some (.int (nI 0))] [.int r6] ((fl, n1, n2, p, false, ad), I6, J6)
                show (¬ r6 = (nI 0) → _) ∧ (r6 = (nI 0) → _)
                refine ⟨fun c6 => ?_, fun c6 => ?_⟩
                · show mm_u _ _ _ _ _ _ [some (.ref 1), some (.int (nI 0))] [] ((fl, n1, n2, p, false, ad), I6, J6)
                  show (vp_in (nI 2) 3) ∧ _
                  refine ⟨(mm_inl (by decide)), ?_⟩
                  show mm_b _ _ _ _ _ [some (.ref 1), none] [] ((fl, n1, n2, p, false, ad), (mm_up I6 45 2 (I6 1 8)), J6)
                  show (((nI 1) : Int32) = 0 ∨ ((nI 1) : Int32) = 1) ∧ _
                  refine ⟨(by decide), ?_⟩
                  exact (h6.1 c6)
                · show mm_b _ _ _ _ _ [some (.ref 1), some (.int (nI 0))] [] ((fl, n1, n2, p, false, ad), I6, J6)
                  show (((nI 0) : Int32) = 0 ∨ ((nI 0) : Int32) = 1) ∧ _
                  refine ⟨(by decide), ?_⟩
                  exact (h6.2 c6)
              · show mm_b _ _ _ _ _ [some (.ref 1), none] [] ((fl, n1, n2, p, false, ad), I5, J5)
                show mm_wc d 75 [.ref 1, .int (nI 1), .int (nI 9)] ((fl, 0, 0, p, false, ad), I5, J5) _
                refine mm_wcm ((h5.1 c4).2 c5) ?_
                rintro v τ ⟨r7, I7, J7, rfl, rfl, h7⟩
                refine mm_r1' ⟨rfl, ?_⟩
                show mm_b _ _ _ _ _ [some (.ref 1), some (.int (nI 1))] [.int r7] ((fl, n1, n2, p, false, ad), I7, J7)
                show (¬ r7 = (nI 0) → _) ∧ (r7 = (nI 0) → _)
                refine ⟨fun c6 => ?_, fun c6 => ?_⟩
                · show mm_u _ _ _ _ _ _ [some (.ref 1), some (.int (nI 1))] [] ((fl, n1, n2, p, false, ad), I7, J7)
                  show (vp_in (nI 2) 3) ∧ _
                  refine ⟨(mm_inl (by decide)), ?_⟩
                  show mm_b _ _ _ _ _ [some (.ref 1), none] [] ((fl, n1, n2, p, false, ad), (mm_up I7 45 2 (I7 1 8)), J7)
                  show (((nI 1) : Int32) = 0 ∨ ((nI 1) : Int32) = 1) ∧ _
                  refine ⟨(by decide), ?_⟩
                  exact (h7.1 c6)
                · show mm_b _ _ _ _ _ [some (.ref 1), some (.int (nI 1))] [] ((fl, n1, n2, p, false, ad), I7, J7)
                  show (((nI 0) : Int32) = 0 ∨ ((nI 0) : Int32) = 1) ∧ _
                  refine ⟨(by decide), ?_⟩
                  exact (h7.2 c6)
            · show mm_b _ _ _ _ _ [some (.ref 1), none] [] ((fl, n1, n2, p, false, ad), I5, J5)
              show (((nI 0) : Int32) = 0 ∨ ((nI 0) : Int32) = 1) ∧ _
              refine ⟨(by decide), ?_⟩
              exact (h5.2 c4)
          · show mm_b _ _ _ _ _ [some (.ref 1), none] [] ((fl, n1, n2, p, false, ad), I4, J4)
            show (((nI 0) : Int32) = 0 ∨ ((nI 0) : Int32) = 1) ∧ _
            refine ⟨(by decide), ?_⟩
            exact (h4.2 c3)
      · show mm_b _ _ _ _ _ [some (.ref 1), none] [] ((fl, n1, n2, p, false, ad), I2, J2)
        show (((nI 0) : Int32) = 0 ∨ ((nI 0) : Int32) = 1) ∧ _
        refine ⟨(by decide), ?_⟩
        exact (h2.2 c1)
    · show mm_b _ _ _ _ _ [some (.ref 1), none] [] ((fl, n1, n2, p, false, ad), I, J)
      show mm_wc d 60 [.ref 1, .int (nI 3)] ((fl, 0, 0, p, false, ad), I, J) _
      refine mm_wcm (h.2 c0) ?_
      rintro v τ ⟨r8, I8, J8, rfl, rfl, h8⟩
      refine mm_r1' ⟨rfl, ?_⟩
      show mm_b _ _ _ _ _ [some (.ref 1), none] [.int r8] ((fl, n1, n2, p, false, ad), I8, J8)
      show (r8 = 0 ∨ r8 = 1) ∧ _
      refine ⟨h8.1, ?_⟩
      exact h8.2
  · refine mm_call (c := 67) rfl rfl ?_
    refine mm_go [] 80 ?_
    show ((I 18 10) = (nI 0) → _) ∧ (¬ (I 18 10) = (nI 0) → _)
    refine ⟨fun c0 => ?_, fun c0 => ?_⟩
    · show mm_u _ _ _ _ _ _ [some (.ref 1), none] [] ((fl, n1, n2, p, true, ad), I, J)
      show (((nI 1) : Int32) = 0 ∨ ((nI 1) : Int32) = 1) ∧ _
      refine ⟨(by decide), ?_⟩
      show mm_b _ _ _ _ _ [some (.ref 1), none] [] ((fl, n1, n2, p, true, ad), (mm_up I 18 10 (nI 1)), J)
      show mm_wc d 77 [.ref 1] ((fl, 0, 0, p, true, ad), (mm_up I 18 10 (nI 1)), J) _
      refine mm_wcm (h.1 c0) ?_
      rintro v τ ⟨I1, J1, rfl, rfl, h1⟩
      refine mm_r0' ⟨rfl, ?_⟩
      show mm_b _ _ _ _ _ [some (.ref 1), none] [] ((fl, n1, n2, p, true, ad), I1, J1)
      show mm_wc d 75 [.ref 1, .int (nI 0), .int (nI 9)] ((fl, 0, 0, p, true, ad), I1, J1) _
      refine mm_wcm h1 ?_
      rintro v τ ⟨r2, I2, J2, rfl, rfl, h2⟩
      refine mm_r1' ⟨rfl, ?_⟩
      show mm_b _ _ _ _ _ [some (.ref 1), none] [.int r2] ((fl, n1, n2, p, true, ad), I2, J2)
      show (¬ r2 = (nI 0) → _) ∧ (r2 = (nI 0) → _)
      refine ⟨fun c1 => ?_, fun c1 => ?_⟩
      · show mm_u _ _ _ _ _ _ [some (.ref 1), none] [] ((fl, n1, n2, p, true, ad), I2, J2)
        show (vp_in (nI 0) 3) ∧ _
        refine ⟨(mm_inl (by decide)), ?_⟩
        show mm_b _ _ _ _ _ [some (.ref 1), none] [] ((fl, n1, n2, p, true, ad), (mm_up I2 31 0 (I2 1 8)), J2)
        show mm_wc d 76 [.ref 1, .int (nI 4)] ((fl, 0, 0, p, true, ad), (mm_up I2 31 0 (I2 1 8)), J2) _
        refine mm_wcm (h2.1 c1) ?_
        rintro v τ ⟨r3, I3, J3, rfl, rfl, h3⟩
        refine mm_r1' ⟨rfl, ?_⟩
        show mm_b _ _ _ _ _ [some (.ref 1), none] [.int r3] ((fl, n1, n2, p, true, ad), I3, J3)
        show (r3 = (nI 0) → _) ∧ (¬ r3 = (nI 0) → _)
        refine ⟨fun c2 => ?_, fun c2 => ?_⟩
        · show mm_u _ _ _ _ _ _ [some (.ref 1), none] [] ((fl, n1, n2, p, true, ad), I3, J3)
          show (((nI 0) : Int32) = 0 ∨ ((nI 0) : Int32) = 1) ∧ _
          refine ⟨(by decide), ?_⟩
          exact (h3.1 c2)
        · show mm_b _ _ _ _ _ [some (.ref 1), none] [] ((fl, n1, n2, p, true, ad), I3, J3)
          show mm_wc d 75 [.ref 1, .int (nI 0), .int (nI 9)] ((fl, 0, 0, p, true, ad), I3, J3) _
          refine mm_wcm (h3.2 c2) ?_
          rintro v τ ⟨r4, I4, J4, rfl, rfl, h4⟩
          refine mm_r1' ⟨rfl, ?_⟩
          show mm_b _ _ _ _ _ [some (.ref 1), none] [.int r4] ((fl, n1, n2, p, true, ad), I4, J4)
          show (¬ r4 = (nI 0) → _) ∧ (r4 = (nI 0) → _)
          refine ⟨fun c3 => ?_, fun c3 => ?_⟩
          · show mm_u _ _ _ _ _ _ [some (.ref 1), none] [] ((fl, n1, n2, p, true, ad), I4, J4)
            show (vp_in (nI 1) 3) ∧ _
            refine ⟨(mm_inl (by decide)), ?_⟩
            show mm_b _ _ _ _ _ [some (.ref 1), none] [] ((fl, n1, n2, p, true, ad), (mm_up I4 31 1 (I4 1 8)), J4)
            show mm_wc d 76 [.ref 1, .int (nI 4)] ((fl, 0, 0, p, true, ad), (mm_up I4 31 1 (I4 1 8)), J4) _
            refine mm_wcm (h4.1 c3) ?_
            rintro v τ ⟨r5, I5, J5, rfl, rfl, h5⟩
            refine mm_r1' ⟨rfl, ?_⟩
            show mm_b _ _ _ _ _ [some (.ref 1), none] [.int r5] ((fl, n1, n2, p, true, ad), I5, J5)
            show (¬ r5 = (nI 0) → _) ∧ (r5 = (nI 0) → _)
            refine ⟨fun c4 => ?_, fun c4 => ?_⟩
            · show mm_u _ _ _ _ _ _ [some (.ref 1), none] [] ((fl, n1, n2, p, true, ad), I5, J5)
              show (vp_in (nI 0) 3) ∧ _
              refine ⟨(mm_inl (by decide)), ?_⟩
              show mm_b _ _ _ _ _ [some (.ref 1), none] [.int (I5 31 0)] ((fl, n1, n2, p, true, ad), I5, J5)
              show (vp_in (nI 1) 3) ∧ _
              refine ⟨(mm_inl (by decide)), ?_⟩
              show mm_b _ _ _ _ _ [some (.ref 1), none] [.int (I5 31 1), .int (I5 31 0)] ((fl, n1, n2, p, true, ad), I5, J5)
              show (¬ ((I5 31 0) + (I5 31 1)) = (nI 0) → _) ∧ (((I5 31 0) + (I5 31 1)) = (nI 0) → _)
              refine ⟨fun c5 => ?_, fun c5 => ?_⟩
              · show mm_u _ _ _ _ _ _ [some (.ref 1), none] [] ((fl, n1, n2, p, true, ad), I5, J5)
                show mm_wc d 75 [.ref 1, .int (nI 0), .int (nI 9)] ((fl, 0, 0, p, true, ad), I5, J5) _
                refine mm_wcm ((h5.1 c4).1 c5) ?_
                rintro v τ ⟨r6, I6, J6, rfl, rfl, h6⟩
                refine mm_r1' ⟨rfl, ?_⟩
                show mm_b _ _ _ _ _ [some (.ref 1), some (.int (nI 0))] [.int r6] ((fl, n1, n2, p, true, ad), I6, J6)
                show (¬ r6 = (nI 0) → _) ∧ (r6 = (nI 0) → _)
                refine ⟨fun c6 => ?_, fun c6 => ?_⟩
                · show mm_u _ _ _ _ _ _ [some (.ref 1), some (.int (nI 0))] [] ((fl, n1, n2, p, true, ad), I6, J6)
                  show (vp_in (nI 2) 3) ∧ _
                  refine ⟨(mm_inl (by decide)), ?_⟩
                  show mm_b _ _ _ _ _ [some (.ref 1), none] [] ((fl, n1, n2, p, true, ad), (mm_up I6 31 2 (I6 1 8)), J6)
                  show (((nI 1) : Int32) = 0 ∨ ((nI 1) : Int32) = 1) ∧ _
                  refine ⟨(by decide), ?_⟩
                  exact (h6.1 c6)
                · show mm_b _ _ _ _ _ [some (.ref 1), some (.int (nI 0))] [] ((fl, n1, n2, p, true, ad), I6, J6)
                  show (((nI 0) : Int32) = 0 ∨ ((nI 0) : Int32) = 1) ∧ _
                  refine ⟨(by decide), ?_⟩
                  exact (h6.2 c6)
              · show mm_b _ _ _ _ _ [some (.ref 1), none] [] ((fl, n1, n2, p, true, ad), I5, J5)
                show mm_wc d 75 [.ref 1, .int (nI 1), .int (nI 9)] ((fl, 0, 0, p, true, ad), I5, J5) _
                refine mm_wcm ((h5.1 c4).2 c5) ?_
                rintro v τ ⟨r7, I7, J7, rfl, rfl, h7⟩
                refine mm_r1' ⟨rfl, ?_⟩
                show mm_b _ _ _ _ _ [some (.ref 1), some (.int (nI 1))] [.int r7] ((fl, n1, n2, p, true, ad), I7, J7)
                show (¬ r7 = (nI 0) → _) ∧ (r7 = (nI 0) → _)
                refine ⟨fun c6 => ?_, fun c6 => ?_⟩
                · show mm_u _ _ _ _ _ _ [some (.ref 1), some (.int (nI 1))] [] ((fl, n1, n2, p, true, ad), I7, J7)
                  show (vp_in (nI 2) 3) ∧ _
                  refine ⟨(mm_inl (by decide)), ?_⟩
                  show mm_b _ _ _ _ _ [some (.ref 1), none] [] ((fl, n1, n2, p, true, ad), (mm_up I7 31 2 (I7 1 8)), J7)
                  show (((nI 1) : Int32) = 0 ∨ ((nI 1) : Int32) = 1) ∧ _
                  refine ⟨(by decide), ?_⟩
                  exact (h7.1 c6)
                · show mm_b _ _ _ _ _ [some (.ref 1), some (.int (nI 1))] [] ((fl, n1, n2, p, true, ad), I7, J7)
                  show (((nI 0) : Int32) = 0 ∨ ((nI 0) : Int32) = 1) ∧ _
                  refine ⟨(by decide), ?_⟩
                  exact (h7.2 c6)
            · show mm_b _ _ _ _ _ [some (.ref 1), none] [] ((fl, n1, n2, p, true, ad), I5, J5)
              show (((nI 0) : Int32) = 0 ∨ ((nI 0) : Int32) = 1) ∧ _
              refine ⟨(by decide), ?_⟩
              exact (h5.2 c4)
          · show mm_b _ _ _ _ _ [some (.ref 1), none] [] ((fl, n1, n2, p, true, ad), I4, J4)
            show (((nI 0) : Int32) = 0 ∨ ((nI 0) : Int32) = 1) ∧ _
            refine ⟨(by decide), ?_⟩
            exact (h4.2 c3)
      · show mm_b _ _ _ _ _ [some (.ref 1), none] [] ((fl, n1, n2, p, true, ad), I2, J2)
        show (((nI 0) : Int32) = 0 ∨ ((nI 0) : Int32) = 1) ∧ _
        refine ⟨(by decide), ?_⟩
        exact (h2.2 c1)
    · show mm_b _ _ _ _ _ [some (.ref 1), none] [] ((fl, n1, n2, p, true, ad), I, J)
      show mm_wc d 60 [.ref 1, .int (nI 3)] ((fl, 0, 0, p, true, ad), I, J) _
      refine mm_wcm (h.2 c0) ?_
      rintro v τ ⟨r8, I8, J8, rfl, rfl, h8⟩
      refine mm_r1' ⟨rfl, ?_⟩
      show mm_b _ _ _ _ _ [some (.ref 1), none] [.int r8] ((fl, n1, n2, p, true, ad), I8, J8)
      show (r8 = 0 ∨ r8 = 1) ∧ _
      refine ⟨h8.1, ?_⟩
      exact h8.2
/- 68 ThreeBreaths$Reader takeLeft -/
theorem fx_68 {d : Nat} {fl : Nat → Bool} {n1 n2 : Nat} {p q : Bool} {ad : Nat → Nat} {I : mmI} {J : mmJ} {Q : mmQ} (h : (((I (mm_ck q 0) 11) = (-2) → mm_wc d 77 [.ref 1] ((fl, 0, 0, p, q, ad), (mm_up I (mm_ck q 0) 11 (nI 0)), J) (fun v τ => ∃ I1 J1, v = none ∧ τ = ((fl, 0, 0, p, q, ad), I1, J1) ∧ mm_wc d 73 [.ref 1, .ref 107] ((fl, 0, 0, p, q, ad), I1, J1) (fun v τ => ∃ r2 I2 J2, v = some (.int r2) ∧ τ = ((fl, 0, 0, p, q, ad), I2, J2) ∧ ((r2 = (nI 0) → mm_w Q (mm_wc d) bk_68 47 [some (.ref 1), some (.int (nI 0))] [] ((fl, n1, n2, p, q, ad), I2, J2)) ∧ (¬ r2 = (nI 0) → mm_wc d 77 [.ref 1] ((fl, 0, 0, p, q, ad), I2, J2) (fun v τ => ∃ I3 J3, v = none ∧ τ = ((fl, 0, 0, p, q, ad), I3, J3) ∧ Q (some (.int (nI 1))) ((fl, n1, n2, p, q, ad), I3, J3))))))) ∧ (¬ (I (mm_ck q 0) 11) = (-2) → mm_wc d 60 [.ref 1, .int (nI 3)] ((fl, 0, 0, p, q, ad), I, J) (fun v τ => ∃ r4 I4 J4, v = some (.int r4) ∧ τ = ((fl, 0, 0, p, q, ad), I4, J4) ∧ ((r4 = 0 ∨ r4 = 1) ∧ Q (some (.int r4)) ((fl, n1, n2, p, q, ad), I4, J4)))))) : mm_wc (d + 1) 68 [.ref 1] ((fl, n1, n2, p, q, ad), I, J) Q := by
  cases q
  · refine mm_call (c := 68) rfl rfl ?_
    refine mm_go [47] 80 ?_
    show ((I 32 11) = (-2) → _) ∧ (¬ (I 32 11) = (-2) → _)
    refine ⟨fun c0 => ?_, fun c0 => ?_⟩
    · show mm_u _ _ _ _ _ _ [some (.ref 1), none] [] ((fl, n1, n2, p, false, ad), I, J)
      show mm_wc d 77 [.ref 1] ((fl, 0, 0, p, false, ad), (mm_up I 32 11 (nI 0)), J) _
      refine mm_wcm (h.1 c0) ?_
      rintro v τ ⟨I1, J1, rfl, rfl, h1⟩
      refine mm_r0' ⟨rfl, ?_⟩
      show mm_b _ _ _ _ _ [some (.ref 1), none] [] ((fl, n1, n2, p, false, ad), I1, J1)
      show mm_wc d 73 [.ref 1, .ref 107] ((fl, 0, 0, p, false, ad), I1, J1) _
      refine mm_wcm h1 ?_
      rintro v τ ⟨r2, I2, J2, rfl, rfl, h2⟩
      refine mm_r1' ⟨rfl, ?_⟩
      show mm_b _ _ _ _ _ [some (.ref 1), none] [.int r2] ((fl, n1, n2, p, false, ad), I2, J2)
      show (r2 = (nI 0) → _) ∧ (¬ r2 = (nI 0) → _)
      refine ⟨fun c1 => ?_, fun c1 => ?_⟩
      · exact (h2.1 c1)
      · show mm_b _ _ _ _ _ [some (.ref 1), none] [] ((fl, n1, n2, p, false, ad), I2, J2)
        show mm_wc d 77 [.ref 1] ((fl, 0, 0, p, false, ad), I2, J2) _
        refine mm_wcm (h2.2 c1) ?_
        rintro v τ ⟨I3, J3, rfl, rfl, h3⟩
        refine mm_r0' ⟨rfl, ?_⟩
        show mm_b _ _ _ _ _ [some (.ref 1), none] [] ((fl, n1, n2, p, false, ad), I3, J3)
        show (((nI 1) : Int32) = 0 ∨ ((nI 1) : Int32) = 1) ∧ _
        refine ⟨(by decide), ?_⟩
        exact h3
    · show mm_b _ _ _ _ _ [some (.ref 1), none] [] ((fl, n1, n2, p, false, ad), I, J)
      show mm_wc d 60 [.ref 1, .int (nI 3)] ((fl, 0, 0, p, false, ad), I, J) _
      refine mm_wcm (h.2 c0) ?_
      rintro v τ ⟨r4, I4, J4, rfl, rfl, h4⟩
      refine mm_r1' ⟨rfl, ?_⟩
      show mm_b _ _ _ _ _ [some (.ref 1), none] [.int r4] ((fl, n1, n2, p, false, ad), I4, J4)
      show (r4 = 0 ∨ r4 = 1) ∧ _
      refine ⟨h4.1, ?_⟩
      exact h4.2
  · refine mm_call (c := 68) rfl rfl ?_
    refine mm_go [47] 80 ?_
    show ((I 18 11) = (-2) → _) ∧ (¬ (I 18 11) = (-2) → _)
    refine ⟨fun c0 => ?_, fun c0 => ?_⟩
    · show mm_u _ _ _ _ _ _ [some (.ref 1), none] [] ((fl, n1, n2, p, true, ad), I, J)
      show mm_wc d 77 [.ref 1] ((fl, 0, 0, p, true, ad), (mm_up I 18 11 (nI 0)), J) _
      refine mm_wcm (h.1 c0) ?_
      rintro v τ ⟨I1, J1, rfl, rfl, h1⟩
      refine mm_r0' ⟨rfl, ?_⟩
      show mm_b _ _ _ _ _ [some (.ref 1), none] [] ((fl, n1, n2, p, true, ad), I1, J1)
      show mm_wc d 73 [.ref 1, .ref 107] ((fl, 0, 0, p, true, ad), I1, J1) _
      refine mm_wcm h1 ?_
      rintro v τ ⟨r2, I2, J2, rfl, rfl, h2⟩
      refine mm_r1' ⟨rfl, ?_⟩
      show mm_b _ _ _ _ _ [some (.ref 1), none] [.int r2] ((fl, n1, n2, p, true, ad), I2, J2)
      show (r2 = (nI 0) → _) ∧ (¬ r2 = (nI 0) → _)
      refine ⟨fun c1 => ?_, fun c1 => ?_⟩
      · exact (h2.1 c1)
      · show mm_b _ _ _ _ _ [some (.ref 1), none] [] ((fl, n1, n2, p, true, ad), I2, J2)
        show mm_wc d 77 [.ref 1] ((fl, 0, 0, p, true, ad), I2, J2) _
        refine mm_wcm (h2.2 c1) ?_
        rintro v τ ⟨I3, J3, rfl, rfl, h3⟩
        refine mm_r0' ⟨rfl, ?_⟩
        show mm_b _ _ _ _ _ [some (.ref 1), none] [] ((fl, n1, n2, p, true, ad), I3, J3)
        show (((nI 1) : Int32) = 0 ∨ ((nI 1) : Int32) = 1) ∧ _
        refine ⟨(by decide), ?_⟩
        exact h3
    · show mm_b _ _ _ _ _ [some (.ref 1), none] [] ((fl, n1, n2, p, true, ad), I, J)
      show mm_wc d 60 [.ref 1, .int (nI 3)] ((fl, 0, 0, p, true, ad), I, J) _
      refine mm_wcm (h.2 c0) ?_
      rintro v τ ⟨r4, I4, J4, rfl, rfl, h4⟩
      refine mm_r1' ⟨rfl, ?_⟩
      show mm_b _ _ _ _ _ [some (.ref 1), none] [.int r4] ((fl, n1, n2, p, true, ad), I4, J4)
      show (r4 = 0 ∨ r4 = 1) ∧ _
      refine ⟨h4.1, ?_⟩
      exact h4.2
theorem fx_68_47 {d : Nat} {a1 : Int32} {fl : Nat → Bool} {n1 n2 : Nat} {p q : Bool} {ad : Nat → Nat} {I : mmI} {J : mmJ} {Q : mmQ} (h : (((nI 10) < a1 → mm_wc d 60 [.ref 1, .int (nI 1)] ((fl, 0, 0, p, q, ad), I, J) (fun v τ => ∃ r1 I1 J1, v = some (.int r1) ∧ τ = ((fl, 0, 0, p, q, ad), I1, J1) ∧ ((r1 = 0 ∨ r1 = 1) ∧ Q (some (.int r1)) ((fl, n1, n2, p, q, ad), I1, J1)))) ∧ (¬ (nI 10) < a1 → mm_wc d 69 [.ref 1] ((fl, 0, 0, p, q, ad), I, J) (fun v τ => ∃ r2 I2 J2, v = some (.int r2) ∧ τ = ((fl, 0, 0, p, q, ad), I2, J2) ∧ ((¬ r2 = (nI 0) → (((I2 1 3) = (nI 4) → mm_wc d 77 [.ref 1] ((fl, 0, 0, p, q, ad), I2, J2) (fun v τ => ∃ I3 J3, v = none ∧ τ = ((fl, 0, 0, p, q, ad), I3, J3) ∧ mm_w Q (mm_wc d) bk_68 47 [some (.ref 1), some (.int (a1 + (nI 1)))] [] ((fl, n1, n2, p, q, ad), I3, J3))) ∧ (¬ (I2 1 3) = (nI 4) → Q (some (.int (nI 1))) ((fl, n1, n2, p, q, ad), I2, J2)))) ∧ (r2 = (nI 0) → Q (some (.int (nI 0))) ((fl, n1, n2, p, q, ad), I2, J2))))))) : mm_w Q (mm_wc (d)) bk_68 47 [some (.ref 1), some (.int a1)] [] ((fl, n1, n2, p, q, ad), I, J) := by
  refine mm_go [47] 80 ?_
  show ((nI 10) < a1 → _) ∧ (¬ (nI 10) < a1 → _)
  refine ⟨fun c0 => ?_, fun c0 => ?_⟩
  · show mm_u _ _ _ _ _ _ [some (.ref 1), some (.int a1)] [] ((fl, n1, n2, p, q, ad), I, J)
    show mm_wc d 60 [.ref 1, .int (nI 1)] ((fl, 0, 0, p, q, ad), I, J) _
    refine mm_wcm (h.1 c0) ?_
    rintro v τ ⟨r1, I1, J1, rfl, rfl, h1⟩
    refine mm_r1' ⟨rfl, ?_⟩
    show mm_b _ _ _ _ _ [some (.ref 1), none] [.int r1] ((fl, n1, n2, p, q, ad), I1, J1)
    show (r1 = 0 ∨ r1 = 1) ∧ _
    refine ⟨h1.1, ?_⟩
    exact h1.2
  · show mm_b _ _ _ _ _ [some (.ref 1), some (.int a1)] [] ((fl, n1, n2, p, q, ad), I, J)
    show mm_wc d 69 [.ref 1] ((fl, 0, 0, p, q, ad), I, J) _
    refine mm_wcm (h.2 c0) ?_
    rintro v τ ⟨r2, I2, J2, rfl, rfl, h2⟩
    refine mm_r1' ⟨rfl, ?_⟩
    show mm_b _ _ _ _ _ [some (.ref 1), some (.int a1)] [.int r2] ((fl, n1, n2, p, q, ad), I2, J2)
    show (¬ r2 = (nI 0) → _) ∧ (r2 = (nI 0) → _)
    refine ⟨fun c1 => ?_, fun c1 => ?_⟩
    · show mm_u _ _ _ _ _ _ [some (.ref 1), some (.int a1)] [] ((fl, n1, n2, p, q, ad), I2, J2)
      show ((I2 1 3) = (nI 4) → _) ∧ (¬ (I2 1 3) = (nI 4) → _)
      refine ⟨fun c2 => ?_, fun c2 => ?_⟩
      · show mm_u _ _ _ _ _ _ [some (.ref 1), some (.int a1)] [] ((fl, n1, n2, p, q, ad), I2, J2)
        show mm_wc d 77 [.ref 1] ((fl, 0, 0, p, q, ad), I2, J2) _
        refine mm_wcm ((h2.1 c1).1 c2) ?_
        rintro v τ ⟨I3, J3, rfl, rfl, h3⟩
        refine mm_r0' ⟨rfl, ?_⟩
        exact h3
      · show mm_b _ _ _ _ _ [some (.ref 1), some (.int a1)] [] ((fl, n1, n2, p, q, ad), I2, J2)
        show (((nI 1) : Int32) = 0 ∨ ((nI 1) : Int32) = 1) ∧ _
        refine ⟨(by decide), ?_⟩
        exact ((h2.1 c1).2 c2)
    · show mm_b _ _ _ _ _ [some (.ref 1), some (.int a1)] [] ((fl, n1, n2, p, q, ad), I2, J2)
      show (((nI 0) : Int32) = 0 ∨ ((nI 0) : Int32) = 1) ∧ _
      refine ⟨(by decide), ?_⟩
      exact (h2.2 c1)
/- 69 ThreeBreaths$Reader takeCandleLeft -/
theorem fx_69 {d : Nat} {fl : Nat → Bool} {n1 n2 : Nat} {p q : Bool} {ad : Nat → Nat} {I : mmI} {J : mmJ} {Q : mmQ} (h : mm_wc d 72 [.ref 1] ((fl, 0, 0, p, q, ad), I, J) (fun v τ => ∃ r1 I1 J1, v = some (.int r1) ∧ τ = ((fl, 0, 0, p, q, ad), I1, J1) ∧ ((¬ r1 = (nI 0) → mm_wc d 71 [.ref 1, .long (J1 1 6)] ((fl, 0, 0, p, q, ad), I1, J1) (fun v τ => ∃ r2 I2 J2, v = some (.int r2) ∧ τ = ((fl, 0, 0, p, q, ad), I2, J2) ∧ ((r2 = (-1) → mm_wc d 60 [.ref 1, .int (nI 2)] ((fl, 0, 0, p, q, ad), I2, J2) (fun v τ => ∃ r3 I3 J3, v = some (.int r3) ∧ τ = ((fl, 0, 0, p, q, ad), I3, J3) ∧ ((r3 = 0 ∨ r3 = 1) ∧ Q (some (.int r3)) ((fl, n1, n2, p, q, ad), I3, J3)))) ∧ (¬ r2 = (-1) → (vp_in r2 23 ∧ (((I2 4 r2.toNatClampNeg) = (nI 0) → (vp_in r2 23 ∧ ((((I2 (mm_ck q 0) 11) &&& ((nI 1) <<< ((I2 5 r2.toNatClampNeg) &&& 31))) = (nI 0) → mm_wc d 77 [.ref 1] ((fl, 0, 0, p, q, ad), (mm_up I2 (mm_ck q 0) 11 ((I2 (mm_ck q 0) 11) ||| ((nI 1) <<< ((I2 5 r2.toNatClampNeg) &&& 31)))), J2) (fun v τ => ∃ I4 J4, v = none ∧ τ = ((fl, 0, 0, p, q, ad), I4, J4) ∧ Q (some (.int (nI 1))) ((fl, n1, n2, p, q, ad), I4, J4))) ∧ (¬ ((I2 (mm_ck q 0) 11) &&& ((nI 1) <<< ((I2 5 r2.toNatClampNeg) &&& 31))) = (nI 0) → mm_wc d 60 [.ref 1, .int (nI 3)] ((fl, 0, 0, p, q, ad), I2, J2) (fun v τ => ∃ r5 I5 J5, v = some (.int r5) ∧ τ = ((fl, 0, 0, p, q, ad), I5, J5) ∧ ((r5 = 0 ∨ r5 = 1) ∧ Q (some (.int r5)) ((fl, n1, n2, p, q, ad), I5, J5))))))) ∧ (¬ (I2 4 r2.toNatClampNeg) = (nI 0) → mm_wc d 60 [.ref 1, .int (nI 2)] ((fl, 0, 0, p, q, ad), I2, J2) (fun v τ => ∃ r6 I6 J6, v = some (.int r6) ∧ τ = ((fl, 0, 0, p, q, ad), I6, J6) ∧ ((r6 = 0 ∨ r6 = 1) ∧ Q (some (.int r6)) ((fl, n1, n2, p, q, ad), I6, J6)))))))))) ∧ (r1 = (nI 0) → mm_wc d 60 [.ref 1, .int (nI 1)] ((fl, 0, 0, p, q, ad), I1, J1) (fun v τ => ∃ r7 I7 J7, v = some (.int r7) ∧ τ = ((fl, 0, 0, p, q, ad), I7, J7) ∧ ((r7 = 0 ∨ r7 = 1) ∧ Q (some (.int r7)) ((fl, n1, n2, p, q, ad), I7, J7))))))) : mm_wc (d + 1) 69 [.ref 1] ((fl, n1, n2, p, q, ad), I, J) Q := by
  cases q
  · refine mm_call (c := 69) rfl rfl ?_
    refine mm_go [] 80 ?_
    show mm_wc d 72 [.ref 1] ((fl, 0, 0, p, false, ad), I, J) _
    refine mm_wcm h ?_
    rintro v τ ⟨r1, I1, J1, rfl, rfl, h1⟩
    refine mm_r1' ⟨rfl, ?_⟩
    show mm_b _ _ _ _ _ [some (.ref 1), none, none] [.int r1] ((fl, n1, n2, p, false, ad), I1, J1)
    show (¬ r1 = (nI 0) → _) ∧ (r1 = (nI 0) → _)
    refine ⟨fun c0 => ?_, fun c0 => ?_⟩
    · show mm_u _ _ _ _ _ _ [some (.ref 1), none, none] [] ((fl, n1, n2, p, false, ad), I1, J1)
      show mm_wc d 71 [.ref 1, .long (J1 1 6)] ((fl, 0, 0, p, false, ad), I1, J1) _
      refine mm_wcm (h1.1 c0) ?_
      rintro v τ ⟨r2, I2, J2, rfl, rfl, h2⟩
      refine mm_r1' ⟨rfl, ?_⟩
      show mm_b _ _ _ _ _ [some (.ref 1), none, none] [.int r2] ((fl, n1, n2, p, false, ad), I2, J2)
      show (r2 = (-1) → _) ∧ (¬ r2 = (-1) → _)
      refine ⟨fun c1 => ?_, fun c1 => ?_⟩
      · show mm_u _ _ _ _ _ _ [some (.ref 1), some (.int r2), none] [] ((fl, n1, n2, p, false, ad), I2, J2)
        show mm_wc d 60 [.ref 1, .int (nI 2)] ((fl, 0, 0, p, false, ad), I2, J2) _
        refine mm_wcm (h2.1 c1) ?_
        rintro v τ ⟨r3, I3, J3, rfl, rfl, h3⟩
        refine mm_r1' ⟨rfl, ?_⟩
        show mm_b _ _ _ _ _ [some (.ref 1), none, none] [.int r3] ((fl, n1, n2, p, false, ad), I3, J3)
        show (r3 = 0 ∨ r3 = 1) ∧ _
        refine ⟨h3.1, ?_⟩
        exact h3.2
      · show mm_b _ _ _ _ _ [some (.ref 1), some (.int r2), none] [] ((fl, n1, n2, p, false, ad), I2, J2)
        show vp_in r2 23 ∧ _
        refine ⟨(h2.2 c1).1, ?_⟩
        show mm_b _ _ _ _ _ [some (.ref 1), some (.int r2), none] [.int (I2 4 r2.toNatClampNeg)] ((fl, n1, n2, p, false, ad), I2, J2)
        show ((I2 4 r2.toNatClampNeg) = (nI 0) → _) ∧ (¬ (I2 4 r2.toNatClampNeg) = (nI 0) → _)
        refine ⟨fun c2 => ?_, fun c2 => ?_⟩
        · show mm_u _ _ _ _ _ _ [some (.ref 1), some (.int r2), none] [] ((fl, n1, n2, p, false, ad), I2, J2)
          show vp_in r2 23 ∧ _
          refine ⟨((h2.2 c1).2.1 c2).1, ?_⟩
          show mm_b _ _ _ _ _ [some (.ref 1), some (.int r2), none] [.int (I2 5 r2.toNatClampNeg), .int (nI 1)] ((fl, n1, n2, p, false, ad), I2, J2)
          show (((I2 32 11) &&& ((nI 1) <<< ((I2 5 r2.toNatClampNeg) &&& 31))) = (nI 0) → _) ∧ (¬ ((I2 32 11) &&& ((nI 1) <<< ((I2 5 r2.toNatClampNeg) &&& 31))) = (nI 0) → _)
          refine ⟨fun c3 => ?_, fun c3 => ?_⟩
          · show mm_u _ _ _ _ _ _ [some (.ref 1), some (.int r2), some (.int ((nI 1) <<< ((I2 5 r2.toNatClampNeg) &&& 31)))] [] ((fl, n1, n2, p, false, ad), I2, J2)
            show mm_wc d 77 [.ref 1] ((fl, 0, 0, p, false, ad), (mm_up I2 32 11 ((I2 32 11) ||| ((nI 1) <<< ((I2 5 r2.toNatClampNeg) &&& 31)))), J2) _
            refine mm_wcm (((h2.2 c1).2.1 c2).2.1 c3) ?_
            rintro v τ ⟨I4, J4, rfl, rfl, h4⟩
            refine mm_r0' ⟨rfl, ?_⟩
            show mm_b _ _ _ _ _ [some (.ref 1), none, some (.int ((nI 1) <<< ((I2 5 r2.toNatClampNeg) &&& 31)))] [] ((fl, n1, n2, p, false, ad), I4, J4)
            show (((nI 1) : Int32) = 0 ∨ ((nI 1) : Int32) = 1) ∧ _
            refine ⟨(by decide), ?_⟩
            exact h4
          · show mm_b _ _ _ _ _ [some (.ref 1), some (.int r2), some (.int ((nI 1) <<< ((I2 5 r2.toNatClampNeg) &&& 31)))] [] ((fl, n1, n2, p, false, ad), I2, J2)
            show mm_wc d 60 [.ref 1, .int (nI 3)] ((fl, 0, 0, p, false, ad), I2, J2) _
            refine mm_wcm (((h2.2 c1).2.1 c2).2.2 c3) ?_
            rintro v τ ⟨r5, I5, J5, rfl, rfl, h5⟩
            refine mm_r1' ⟨rfl, ?_⟩
            show mm_b _ _ _ _ _ [some (.ref 1), some (.int r2), some (.int ((nI 1) <<< ((I2 5 r2.toNatClampNeg) &&& 31)))] [.int r5] ((fl, n1, n2, p, false, ad), I5, J5)
            show (r5 = 0 ∨ r5 = 1) ∧ _
            refine ⟨h5.1, ?_⟩
            exact h5.2
        · show mm_b _ _ _ _ _ [some (.ref 1), some (.int r2), none] [] ((fl, n1, n2, p, false, ad), I2, J2)
          show mm_wc d 60 [.ref 1, .int (nI 2)] ((fl, 0, 0, p, false, ad), I2, J2) _
          refine mm_wcm ((h2.2 c1).2.2 c2) ?_
          rintro v τ ⟨r6, I6, J6, rfl, rfl, h6⟩
          refine mm_r1' ⟨rfl, ?_⟩
          show mm_b _ _ _ _ _ [some (.ref 1), none, none] [.int r6] ((fl, n1, n2, p, false, ad), I6, J6)
          show (r6 = 0 ∨ r6 = 1) ∧ _
          refine ⟨h6.1, ?_⟩
          exact h6.2
    · show mm_b _ _ _ _ _ [some (.ref 1), none, none] [] ((fl, n1, n2, p, false, ad), I1, J1)
      show mm_wc d 60 [.ref 1, .int (nI 1)] ((fl, 0, 0, p, false, ad), I1, J1) _
      refine mm_wcm (h1.2 c0) ?_
      rintro v τ ⟨r7, I7, J7, rfl, rfl, h7⟩
      refine mm_r1' ⟨rfl, ?_⟩
      show mm_b _ _ _ _ _ [some (.ref 1), none, none] [.int r7] ((fl, n1, n2, p, false, ad), I7, J7)
      show (r7 = 0 ∨ r7 = 1) ∧ _
      refine ⟨h7.1, ?_⟩
      exact h7.2
  · refine mm_call (c := 69) rfl rfl ?_
    refine mm_go [] 80 ?_
    show mm_wc d 72 [.ref 1] ((fl, 0, 0, p, true, ad), I, J) _
    refine mm_wcm h ?_
    rintro v τ ⟨r1, I1, J1, rfl, rfl, h1⟩
    refine mm_r1' ⟨rfl, ?_⟩
    show mm_b _ _ _ _ _ [some (.ref 1), none, none] [.int r1] ((fl, n1, n2, p, true, ad), I1, J1)
    show (¬ r1 = (nI 0) → _) ∧ (r1 = (nI 0) → _)
    refine ⟨fun c0 => ?_, fun c0 => ?_⟩
    · show mm_u _ _ _ _ _ _ [some (.ref 1), none, none] [] ((fl, n1, n2, p, true, ad), I1, J1)
      show mm_wc d 71 [.ref 1, .long (J1 1 6)] ((fl, 0, 0, p, true, ad), I1, J1) _
      refine mm_wcm (h1.1 c0) ?_
      rintro v τ ⟨r2, I2, J2, rfl, rfl, h2⟩
      refine mm_r1' ⟨rfl, ?_⟩
      show mm_b _ _ _ _ _ [some (.ref 1), none, none] [.int r2] ((fl, n1, n2, p, true, ad), I2, J2)
      show (r2 = (-1) → _) ∧ (¬ r2 = (-1) → _)
      refine ⟨fun c1 => ?_, fun c1 => ?_⟩
      · show mm_u _ _ _ _ _ _ [some (.ref 1), some (.int r2), none] [] ((fl, n1, n2, p, true, ad), I2, J2)
        show mm_wc d 60 [.ref 1, .int (nI 2)] ((fl, 0, 0, p, true, ad), I2, J2) _
        refine mm_wcm (h2.1 c1) ?_
        rintro v τ ⟨r3, I3, J3, rfl, rfl, h3⟩
        refine mm_r1' ⟨rfl, ?_⟩
        show mm_b _ _ _ _ _ [some (.ref 1), none, none] [.int r3] ((fl, n1, n2, p, true, ad), I3, J3)
        show (r3 = 0 ∨ r3 = 1) ∧ _
        refine ⟨h3.1, ?_⟩
        exact h3.2
      · show mm_b _ _ _ _ _ [some (.ref 1), some (.int r2), none] [] ((fl, n1, n2, p, true, ad), I2, J2)
        show vp_in r2 23 ∧ _
        refine ⟨(h2.2 c1).1, ?_⟩
        show mm_b _ _ _ _ _ [some (.ref 1), some (.int r2), none] [.int (I2 4 r2.toNatClampNeg)] ((fl, n1, n2, p, true, ad), I2, J2)
        show ((I2 4 r2.toNatClampNeg) = (nI 0) → _) ∧ (¬ (I2 4 r2.toNatClampNeg) = (nI 0) → _)
        refine ⟨fun c2 => ?_, fun c2 => ?_⟩
        · show mm_u _ _ _ _ _ _ [some (.ref 1), some (.int r2), none] [] ((fl, n1, n2, p, true, ad), I2, J2)
          show vp_in r2 23 ∧ _
          refine ⟨((h2.2 c1).2.1 c2).1, ?_⟩
          show mm_b _ _ _ _ _ [some (.ref 1), some (.int r2), none] [.int (I2 5 r2.toNatClampNeg), .int (nI 1)] ((fl, n1, n2, p, true, ad), I2, J2)
          show (((I2 18 11) &&& ((nI 1) <<< ((I2 5 r2.toNatClampNeg) &&& 31))) = (nI 0) → _) ∧ (¬ ((I2 18 11) &&& ((nI 1) <<< ((I2 5 r2.toNatClampNeg) &&& 31))) = (nI 0) → _)
          refine ⟨fun c3 => ?_, fun c3 => ?_⟩
          · show mm_u _ _ _ _ _ _ [some (.ref 1), some (.int r2), some (.int ((nI 1) <<< ((I2 5 r2.toNatClampNeg) &&& 31)))] [] ((fl, n1, n2, p, true, ad), I2, J2)
            show mm_wc d 77 [.ref 1] ((fl, 0, 0, p, true, ad), (mm_up I2 18 11 ((I2 18 11) ||| ((nI 1) <<< ((I2 5 r2.toNatClampNeg) &&& 31)))), J2) _
            refine mm_wcm (((h2.2 c1).2.1 c2).2.1 c3) ?_
            rintro v τ ⟨I4, J4, rfl, rfl, h4⟩
            refine mm_r0' ⟨rfl, ?_⟩
            show mm_b _ _ _ _ _ [some (.ref 1), none, some (.int ((nI 1) <<< ((I2 5 r2.toNatClampNeg) &&& 31)))] [] ((fl, n1, n2, p, true, ad), I4, J4)
            show (((nI 1) : Int32) = 0 ∨ ((nI 1) : Int32) = 1) ∧ _
            refine ⟨(by decide), ?_⟩
            exact h4
          · show mm_b _ _ _ _ _ [some (.ref 1), some (.int r2), some (.int ((nI 1) <<< ((I2 5 r2.toNatClampNeg) &&& 31)))] [] ((fl, n1, n2, p, true, ad), I2, J2)
            show mm_wc d 60 [.ref 1, .int (nI 3)] ((fl, 0, 0, p, true, ad), I2, J2) _
            refine mm_wcm (((h2.2 c1).2.1 c2).2.2 c3) ?_
            rintro v τ ⟨r5, I5, J5, rfl, rfl, h5⟩
            refine mm_r1' ⟨rfl, ?_⟩
            show mm_b _ _ _ _ _ [some (.ref 1), some (.int r2), some (.int ((nI 1) <<< ((I2 5 r2.toNatClampNeg) &&& 31)))] [.int r5] ((fl, n1, n2, p, true, ad), I5, J5)
            show (r5 = 0 ∨ r5 = 1) ∧ _
            refine ⟨h5.1, ?_⟩
            exact h5.2
        · show mm_b _ _ _ _ _ [some (.ref 1), some (.int r2), none] [] ((fl, n1, n2, p, true, ad), I2, J2)
          show mm_wc d 60 [.ref 1, .int (nI 2)] ((fl, 0, 0, p, true, ad), I2, J2) _
          refine mm_wcm ((h2.2 c1).2.2 c2) ?_
          rintro v τ ⟨r6, I6, J6, rfl, rfl, h6⟩
          refine mm_r1' ⟨rfl, ?_⟩
          show mm_b _ _ _ _ _ [some (.ref 1), none, none] [.int r6] ((fl, n1, n2, p, true, ad), I6, J6)
          show (r6 = 0 ∨ r6 = 1) ∧ _
          refine ⟨h6.1, ?_⟩
          exact h6.2
    · show mm_b _ _ _ _ _ [some (.ref 1), none, none] [] ((fl, n1, n2, p, true, ad), I1, J1)
      show mm_wc d 60 [.ref 1, .int (nI 1)] ((fl, 0, 0, p, true, ad), I1, J1) _
      refine mm_wcm (h1.2 c0) ?_
      rintro v τ ⟨r7, I7, J7, rfl, rfl, h7⟩
      refine mm_r1' ⟨rfl, ?_⟩
      show mm_b _ _ _ _ _ [some (.ref 1), none, none] [.int r7] ((fl, n1, n2, p, true, ad), I7, J7)
      show (r7 = 0 ∨ r7 = 1) ∧ _
      refine ⟨h7.1, ?_⟩
      exact h7.2
/- 70 ThreeBreaths$Reader takeNewName -/
theorem fx_70 {d : Nat} {x0 : Int32} {x1 : Int32} {fl : Nat → Bool} {n1 n2 : Nat} {p q : Bool} {ad : Nat → Nat} {I : mmI} {J : mmJ} {Q : mmQ} (h : mm_wc d 72 [.ref 1] ((fl, 0, 0, p, q, ad), I, J) (fun v τ => ∃ r1 I1 J1, v = some (.int r1) ∧ τ = ((fl, 0, 0, p, q, ad), I1, J1) ∧ ((¬ r1 = (nI 0) → mm_wc d 71 [.ref 1, .long (J1 1 6)] ((fl, 0, 0, p, q, ad), I1, J1) (fun v τ => ∃ r2 I2 J2, v = some (.int r2) ∧ τ = ((fl, 0, 0, p, q, ad), I2, J2) ∧ ((r2 = (-1) → (((I2 1 12) < (nI 23) → (vp_in (I2 1 12) 23 ∧ (vp_in (I2 1 12) 23 ∧ (vp_in (I2 1 12) 23 ∧ mm_wc d 77 [.ref 1] ((fl, 0, 0, p, q, ad), (mm_up (mm_up (mm_up I2 4 ((I2 1 12)).toNatClampNeg x0) 5 ((I2 1 12)).toNatClampNeg x1) 1 12 ((I2 1 12) + (nI 1))), (mm_upJ J2 3 ((I2 1 12)).toNatClampNeg (J2 1 6))) (fun v τ => ∃ I3 J3, v = none ∧ τ = ((fl, 0, 0, p, q, ad), I3, J3) ∧ Q (some (.int (nI 1))) ((fl, n1, n2, p, q, ad), I3, J3)))))) ∧ (¬ (I2 1 12) < (nI 23) → mm_wc d 60 [.ref 1, .int (nI 5)] ((fl, 0, 0, p, q, ad), I2, J2) (fun v τ => ∃ r4 I4 J4, v = some (.int r4) ∧ τ = ((fl, 0, 0, p, q, ad), I4, J4) ∧ ((r4 = 0 ∨ r4 = 1) ∧ Q (some (.int r4)) ((fl, n1, n2, p, q, ad), I4, J4)))))) ∧ (¬ r2 = (-1) → mm_wc d 60 [.ref 1, .int (nI 3)] ((fl, 0, 0, p, q, ad), I2, J2) (fun v τ => ∃ r5 I5 J5, v = some (.int r5) ∧ τ = ((fl, 0, 0, p, q, ad), I5, J5) ∧ ((r5 = 0 ∨ r5 = 1) ∧ Q (some (.int r5)) ((fl, n1, n2, p, q, ad), I5, J5))))))) ∧ (r1 = (nI 0) → mm_wc d 60 [.ref 1, .int (nI 1)] ((fl, 0, 0, p, q, ad), I1, J1) (fun v τ => ∃ r6 I6 J6, v = some (.int r6) ∧ τ = ((fl, 0, 0, p, q, ad), I6, J6) ∧ ((r6 = 0 ∨ r6 = 1) ∧ Q (some (.int r6)) ((fl, n1, n2, p, q, ad), I6, J6))))))) : mm_wc (d + 1) 70 [.ref 1, .int x0, .int x1] ((fl, n1, n2, p, q, ad), I, J) Q := by
  refine mm_call (c := 70) rfl rfl ?_
  refine mm_go [] 80 ?_
  show mm_wc d 72 [.ref 1] ((fl, 0, 0, p, q, ad), I, J) _
  refine mm_wcm h ?_
  rintro v τ ⟨r1, I1, J1, rfl, rfl, h1⟩
  refine mm_r1' ⟨rfl, ?_⟩
  show mm_b _ _ _ _ _ [some (.ref 1), some (.int x0), some (.int x1)] [.int r1] ((fl, n1, n2, p, q, ad), I1, J1)
  show (¬ r1 = (nI 0) → _) ∧ (r1 = (nI 0) → _)
  refine ⟨fun c0 => ?_, fun c0 => ?_⟩
  · show mm_u _ _ _ _ _ _ [some (.ref 1), some (.int x0), some (.int x1)] [] ((fl, n1, n2, p, q, ad), I1, J1)
    show mm_wc d 71 [.ref 1, .long (J1 1 6)] ((fl, 0, 0, p, q, ad), I1, J1) _
    refine mm_wcm (h1.1 c0) ?_
    rintro v τ ⟨r2, I2, J2, rfl, rfl, h2⟩
    refine mm_r1' ⟨rfl, ?_⟩
    show mm_b _ _ _ _ _ [some (.ref 1), some (.int x0), some (.int x1)] [.int r2] ((fl, n1, n2, p, q, ad), I2, J2)
    show (r2 = (-1) → _) ∧ (¬ r2 = (-1) → _)
    refine ⟨fun c1 => ?_, fun c1 => ?_⟩
    · show mm_u _ _ _ _ _ _ [some (.ref 1), some (.int x0), some (.int x1)] [] ((fl, n1, n2, p, q, ad), I2, J2)
      show ((I2 1 12) < (nI 23) → _) ∧ (¬ (I2 1 12) < (nI 23) → _)
      refine ⟨fun c2 => ?_, fun c2 => ?_⟩
      · show mm_u _ _ _ _ _ _ [some (.ref 1), some (.int x0), some (.int x1)] [] ((fl, n1, n2, p, q, ad), I2, J2)
        show vp_in (I2 1 12) 23 ∧ _
        refine ⟨((h2.1 c1).1 c2).1, ?_⟩
        show mm_b _ _ _ _ _ [some (.ref 1), some (.int x0), some (.int x1)] [] ((fl, n1, n2, p, q, ad), I2, (mm_upJ J2 3 ((I2 1 12)).toNatClampNeg (J2 1 6)))
        show vp_in (I2 1 12) 23 ∧ _
        refine ⟨((h2.1 c1).1 c2).2.1, ?_⟩
        show mm_b _ _ _ _ _ [some (.ref 1), some (.int x0), some (.int x1)] [] ((fl, n1, n2, p, q, ad), (mm_up I2 4 ((I2 1 12)).toNatClampNeg x0), (mm_upJ J2 3 ((I2 1 12)).toNatClampNeg (J2 1 6)))
        show vp_in (I2 1 12) 23 ∧ _
        refine ⟨((h2.1 c1).1 c2).2.2.1, ?_⟩
        show mm_b _ _ _ _ _ [some (.ref 1), some (.int x0), some (.int x1)] [] ((fl, n1, n2, p, q, ad), (mm_up (mm_up I2 4 ((I2 1 12)).toNatClampNeg x0) 5 ((I2 1 12)).toNatClampNeg x1), (mm_upJ J2 3 ((I2 1 12)).toNatClampNeg (J2 1 6)))
        show mm_wc d 77 [.ref 1] ((fl, 0, 0, p, q, ad), (mm_up (mm_up (mm_up I2 4 ((I2 1 12)).toNatClampNeg x0) 5 ((I2 1 12)).toNatClampNeg x1) 1 12 ((I2 1 12) + (nI 1))), (mm_upJ J2 3 ((I2 1 12)).toNatClampNeg (J2 1 6))) _
        refine mm_wcm (((h2.1 c1).1 c2).2.2.2) ?_
        rintro v τ ⟨I3, J3, rfl, rfl, h3⟩
        refine mm_r0' ⟨rfl, ?_⟩
        show mm_b _ _ _ _ _ [some (.ref 1), some (.int x0), some (.int x1)] [] ((fl, n1, n2, p, q, ad), I3, J3)
        show (((nI 1) : Int32) = 0 ∨ ((nI 1) : Int32) = 1) ∧ _
        refine ⟨(by decide), ?_⟩
        exact h3
      · show mm_b _ _ _ _ _ [some (.ref 1), some (.int x0), some (.int x1)] [] ((fl, n1, n2, p, q, ad), I2, J2)
        show mm_wc d 60 [.ref 1, .int (nI 5)] ((fl, 0, 0, p, q, ad), I2, J2) _
        refine mm_wcm ((h2.1 c1).2 c2) ?_
        rintro v τ ⟨r4, I4, J4, rfl, rfl, h4⟩
        refine mm_r1' ⟨rfl, ?_⟩
        show mm_b _ _ _ _ _ [some (.ref 1), some (.int x0), some (.int x1)] [.int r4] ((fl, n1, n2, p, q, ad), I4, J4)
        show (r4 = 0 ∨ r4 = 1) ∧ _
        refine ⟨h4.1, ?_⟩
        exact h4.2
    · show mm_b _ _ _ _ _ [some (.ref 1), some (.int x0), some (.int x1)] [] ((fl, n1, n2, p, q, ad), I2, J2)
      show mm_wc d 60 [.ref 1, .int (nI 3)] ((fl, 0, 0, p, q, ad), I2, J2) _
      refine mm_wcm (h2.2 c1) ?_
      rintro v τ ⟨r5, I5, J5, rfl, rfl, h5⟩
      refine mm_r1' ⟨rfl, ?_⟩
      show mm_b _ _ _ _ _ [some (.ref 1), some (.int x0), some (.int x1)] [.int r5] ((fl, n1, n2, p, q, ad), I5, J5)
      show (r5 = 0 ∨ r5 = 1) ∧ _
      refine ⟨h5.1, ?_⟩
      exact h5.2
  · show mm_b _ _ _ _ _ [some (.ref 1), some (.int x0), some (.int x1)] [] ((fl, n1, n2, p, q, ad), I1, J1)
    show mm_wc d 60 [.ref 1, .int (nI 1)] ((fl, 0, 0, p, q, ad), I1, J1) _
    refine mm_wcm (h1.2 c0) ?_
    rintro v τ ⟨r6, I6, J6, rfl, rfl, h6⟩
    refine mm_r1' ⟨rfl, ?_⟩
    show mm_b _ _ _ _ _ [some (.ref 1), some (.int x0), some (.int x1)] [.int r6] ((fl, n1, n2, p, q, ad), I6, J6)
    show (r6 = 0 ∨ r6 = 1) ∧ _
    refine ⟨h6.1, ?_⟩
    exact h6.2
/- 71 ThreeBreaths$Reader find -/
theorem fx_71 {d : Nat} {x0 : Int64} {fl : Nat → Bool} {n1 n2 : Nat} {p q : Bool} {ad : Nat → Nat} {I : mmI} {J : mmJ} {Q : mmQ} (h : mm_w Q (mm_wc d) bk_71 2 [some (.ref 1), some (.long x0), none, some (.int (nI 0))] [] ((fl, n1, n2, p, q, ad), I, J)) : mm_wc (d + 1) 71 [.ref 1, .long x0] ((fl, n1, n2, p, q, ad), I, J) Q := by
  refine mm_call (c := 71) rfl rfl ?_
  refine mm_go [2] 80 ?_
  exact h
theorem fx_71_2 {d : Nat} {a1 : Int64} {a3 : Int32} {fl : Nat → Bool} {n1 n2 : Nat} {p q : Bool} {ad : Nat → Nat} {I : mmI} {J : mmJ} {Q : mmQ} (h : (((I 1 12) ≤ a3 → Q (some (.int (-1))) ((fl, n1, n2, p, q, ad), I, J)) ∧ (¬ (I 1 12) ≤ a3 → (vp_in a3 23 ∧ ((¬ (lg_cmp (J 3 a3.toNatClampNeg) a1) = (nI 0) → mm_w Q (mm_wc d) bk_71 2 [some (.ref 1), some (.long a1), none, some (.int (a3 + (nI 1)))] [] ((fl, n1, n2, p, q, ad), I, J)) ∧ ((lg_cmp (J 3 a3.toNatClampNeg) a1) = (nI 0) → Q (some (.int a3)) ((fl, n1, n2, p, q, ad), I, J))))))) : mm_w Q (mm_wc (d)) bk_71 2 [some (.ref 1), some (.long a1), none, some (.int a3)] [] ((fl, n1, n2, p, q, ad), I, J) := by
  refine mm_go [2] 80 ?_
  show ((I 1 12) ≤ a3 → _) ∧ (¬ (I 1 12) ≤ a3 → _)
  refine ⟨fun c0 => ?_, fun c0 => ?_⟩
  · exact (h.1 c0)
  · show mm_b _ _ _ _ _ [some (.ref 1), some (.long a1), none, some (.int a3)] [] ((fl, n1, n2, p, q, ad), I, J)
    show vp_in a3 23 ∧ _
    refine ⟨(h.2 c0).1, ?_⟩
    show mm_b _ _ _ _ _ [some (.ref 1), some (.long a1), none, some (.int a3)] [.long (J 3 a3.toNatClampNeg)] ((fl, n1, n2, p, q, ad), I, J)
    show (¬ (lg_cmp (J 3 a3.toNatClampNeg) a1) = (nI 0) → _) ∧ ((lg_cmp (J 3 a3.toNatClampNeg) a1) = (nI 0) → _)
    refine ⟨fun c1 => ?_, fun c1 => ?_⟩
    · exact ((h.2 c0).2.1 c1)
    · exact ((h.2 c0).2.2 c1)
/- 72 ThreeBreaths$Reader isName -/
theorem fx_72 {d : Nat} {fl : Nat → Bool} {n1 n2 : Nat} {p q : Bool} {ad : Nat → Nat} {I : mmI} {J : mmJ} {Q : mmQ} (h : mm_wc d 73 [.ref 1, .ref 98] ((fl, 0, 0, p, q, ad), I, J) (fun v τ => ∃ r1 I1 J1, v = some (.int r1) ∧ τ = ((fl, 0, 0, p, q, ad), I1, J1) ∧ ((¬ r1 = (nI 0) → ((¬ (I1 1 3) = (nI 1) → Q (some (.int (nI 0))) ((fl, n1, n2, p, q, ad), I1, J1)) ∧ ((I1 1 3) = (nI 1) → Q (some (.int (nI 0))) ((fl, n1, n2, p, q, ad), I1, J1)))) ∧ (r1 = (nI 0) → mm_wc d 73 [.ref 1, .ref 101] ((fl, 0, 0, p, q, ad), I1, J1) (fun v τ => ∃ r2 I2 J2, v = some (.int r2) ∧ τ = ((fl, 0, 0, p, q, ad), I2, J2) ∧ ((¬ r2 = (nI 0) → ((¬ (I2 1 3) = (nI 1) → Q (some (.int (nI 0))) ((fl, n1, n2, p, q, ad), I2, J2)) ∧ ((I2 1 3) = (nI 1) → Q (some (.int (nI 0))) ((fl, n1, n2, p, q, ad), I2, J2)))) ∧ (r2 = (nI 0) → mm_wc d 73 [.ref 1, .ref 102] ((fl, 0, 0, p, q, ad), I2, J2) (fun v τ => ∃ r3 I3 J3, v = some (.int r3) ∧ τ = ((fl, 0, 0, p, q, ad), I3, J3) ∧ ((¬ r3 = (nI 0) → ((¬ (I3 1 3) = (nI 1) → Q (some (.int (nI 0))) ((fl, n1, n2, p, q, ad), I3, J3)) ∧ ((I3 1 3) = (nI 1) → Q (some (.int (nI 0))) ((fl, n1, n2, p, q, ad), I3, J3)))) ∧ (r3 = (nI 0) → mm_wc d 73 [.ref 1, .ref 103] ((fl, 0, 0, p, q, ad), I3, J3) (fun v τ => ∃ r4 I4 J4, v = some (.int r4) ∧ τ = ((fl, 0, 0, p, q, ad), I4, J4) ∧ ((¬ r4 = (nI 0) → ((¬ (I4 1 3) = (nI 1) → Q (some (.int (nI 0))) ((fl, n1, n2, p, q, ad), I4, J4)) ∧ ((I4 1 3) = (nI 1) → Q (some (.int (nI 0))) ((fl, n1, n2, p, q, ad), I4, J4)))) ∧ (r4 = (nI 0) → mm_wc d 73 [.ref 1, .ref 104] ((fl, 0, 0, p, q, ad), I4, J4) (fun v τ => ∃ r5 I5 J5, v = some (.int r5) ∧ τ = ((fl, 0, 0, p, q, ad), I5, J5) ∧ ((r5 = (nI 0) → ((¬ (I5 1 3) = (nI 1) → Q (some (.int (nI 0))) ((fl, n1, n2, p, q, ad), I5, J5)) ∧ ((I5 1 3) = (nI 1) → mm_wc d 73 [.ref 1, .ref 105] ((fl, 0, 0, p, q, ad), I5, J5) (fun v τ => ∃ r6 I6 J6, v = some (.int r6) ∧ τ = ((fl, 0, 0, p, q, ad), I6, J6) ∧ ((¬ r6 = (nI 0) → Q (some (.int (nI 0))) ((fl, n1, n2, p, q, ad), I6, J6)) ∧ (r6 = (nI 0) → mm_wc d 73 [.ref 1, .ref 106] ((fl, 0, 0, p, q, ad), I6, J6) (fun v τ => ∃ r7 I7 J7, v = some (.int r7) ∧ τ = ((fl, 0, 0, p, q, ad), I7, J7) ∧ ((¬ r7 = (nI 0) → Q (some (.int (nI 0))) ((fl, n1, n2, p, q, ad), I7, J7)) ∧ (r7 = (nI 0) → mm_wc d 73 [.ref 1, .ref 107] ((fl, 0, 0, p, q, ad), I7, J7) (fun v τ => ∃ r8 I8 J8, v = some (.int r8) ∧ τ = ((fl, 0, 0, p, q, ad), I8, J8) ∧ ((¬ r8 = (nI 0) → Q (some (.int (nI 0))) ((fl, n1, n2, p, q, ad), I8, J8)) ∧ (r8 = (nI 0) → Q (some (.int (nI 1))) ((fl, n1, n2, p, q, ad), I8, J8))))))))))))) ∧ (¬ r5 = (nI 0) → ((¬ (I5 1 3) = (nI 1) → Q (some (.int (nI 0))) ((fl, n1, n2, p, q, ad), I5, J5)) ∧ ((I5 1 3) = (nI 1) → Q (some (.int (nI 0))) ((fl, n1, n2, p, q, ad), I5, J5))))))))))))))))))) : mm_wc (d + 1) 72 [.ref 1] ((fl, n1, n2, p, q, ad), I, J) Q := by
  refine mm_call (c := 72) rfl rfl ?_
  refine mm_go [] 80 ?_
  show mm_wc d 73 [.ref 1, .ref 98] ((fl, 0, 0, p, q, ad), I, J) _
  refine mm_wcm h ?_
  rintro v τ ⟨r1, I1, J1, rfl, rfl, h1⟩
  refine mm_r1' ⟨rfl, ?_⟩
  show mm_b _ _ _ _ _ [some (.ref 1), none] [.int r1] ((fl, n1, n2, p, q, ad), I1, J1)
  show (¬ r1 = (nI 0) → _) ∧ (r1 = (nI 0) → _)
  refine ⟨fun c0 => ?_, fun c0 => ?_⟩
  · show mm_u _ _ _ _ _ _ [some (.ref 1), none] [] ((fl, n1, n2, p, q, ad), I1, J1)
    show (¬ (I1 1 3) = (nI 1) → _) ∧ ((I1 1 3) = (nI 1) → _)
    refine ⟨fun c1 => ?_, fun c1 => ?_⟩
    · show mm_u _ _ _ _ _ _ [some (.ref 1), some (.int (nI 1))] [] ((fl, n1, n2, p, q, ad), I1, J1)
      show (((nI 0) : Int32) = 0 ∨ ((nI 0) : Int32) = 1) ∧ _
      refine ⟨(by decide), ?_⟩
      exact ((h1.1 c0).1 c1)
    · show mm_b _ _ _ _ _ [some (.ref 1), some (.int (nI 1))] [] ((fl, n1, n2, p, q, ad), I1, J1)
      show (¬ ((nI 1) : Int32) = (nI 0) → _) ∧ (((nI 1) : Int32) = (nI 0) → _)
      refine ⟨fun _ => ?_, fun q => absurd q (by decide)⟩
      show mm_u _ _ _ _ _ _ [some (.ref 1), some (.int (nI 1))] [] ((fl, n1, n2, p, q, ad), I1, J1)
      show (((nI 0) : Int32) = 0 ∨ ((nI 0) : Int32) = 1) ∧ _
      refine ⟨(by decide), ?_⟩
      exact ((h1.1 c0).2 c1)
  · show mm_b _ _ _ _ _ [some (.ref 1), none] [] ((fl, n1, n2, p, q, ad), I1, J1)
    show mm_wc d 73 [.ref 1, .ref 101] ((fl, 0, 0, p, q, ad), I1, J1) _
    refine mm_wcm (h1.2 c0) ?_
    rintro v τ ⟨r2, I2, J2, rfl, rfl, h2⟩
    refine mm_r1' ⟨rfl, ?_⟩
    show mm_b _ _ _ _ _ [some (.ref 1), none] [.int r2] ((fl, n1, n2, p, q, ad), I2, J2)
    show (¬ r2 = (nI 0) → _) ∧ (r2 = (nI 0) → _)
    refine ⟨fun c1 => ?_, fun c1 => ?_⟩
    · show mm_u _ _ _ _ _ _ [some (.ref 1), none] [] ((fl, n1, n2, p, q, ad), I2, J2)
      show (¬ (I2 1 3) = (nI 1) → _) ∧ ((I2 1 3) = (nI 1) → _)
      refine ⟨fun c2 => ?_, fun c2 => ?_⟩
      · show mm_u _ _ _ _ _ _ [some (.ref 1), some (.int (nI 1))] [] ((fl, n1, n2, p, q, ad), I2, J2)
        show (((nI 0) : Int32) = 0 ∨ ((nI 0) : Int32) = 1) ∧ _
        refine ⟨(by decide), ?_⟩
        exact ((h2.1 c1).1 c2)
      · show mm_b _ _ _ _ _ [some (.ref 1), some (.int (nI 1))] [] ((fl, n1, n2, p, q, ad), I2, J2)
        show (¬ ((nI 1) : Int32) = (nI 0) → _) ∧ (((nI 1) : Int32) = (nI 0) → _)
        refine ⟨fun _ => ?_, fun q => absurd q (by decide)⟩
        show mm_u _ _ _ _ _ _ [some (.ref 1), some (.int (nI 1))] [] ((fl, n1, n2, p, q, ad), I2, J2)
        show (((nI 0) : Int32) = 0 ∨ ((nI 0) : Int32) = 1) ∧ _
        refine ⟨(by decide), ?_⟩
        exact ((h2.1 c1).2 c2)
    · show mm_b _ _ _ _ _ [some (.ref 1), none] [] ((fl, n1, n2, p, q, ad), I2, J2)
      show mm_wc d 73 [.ref 1, .ref 102] ((fl, 0, 0, p, q, ad), I2, J2) _
      refine mm_wcm (h2.2 c1) ?_
      rintro v τ ⟨r3, I3, J3, rfl, rfl, h3⟩
      refine mm_r1' ⟨rfl, ?_⟩
      show mm_b _ _ _ _ _ [some (.ref 1), none] [.int r3] ((fl, n1, n2, p, q, ad), I3, J3)
      show (¬ r3 = (nI 0) → _) ∧ (r3 = (nI 0) → _)
      refine ⟨fun c2 => ?_, fun c2 => ?_⟩
      · show mm_u _ _ _ _ _ _ [some (.ref 1), none] [] ((fl, n1, n2, p, q, ad), I3, J3)
        show (¬ (I3 1 3) = (nI 1) → _) ∧ ((I3 1 3) = (nI 1) → _)
        refine ⟨fun c3 => ?_, fun c3 => ?_⟩
        · show mm_u _ _ _ _ _ _ [some (.ref 1), some (.int (nI 1))] [] ((fl, n1, n2, p, q, ad), I3, J3)
          show (((nI 0) : Int32) = 0 ∨ ((nI 0) : Int32) = 1) ∧ _
          refine ⟨(by decide), ?_⟩
          exact ((h3.1 c2).1 c3)
        · show mm_b _ _ _ _ _ [some (.ref 1), some (.int (nI 1))] [] ((fl, n1, n2, p, q, ad), I3, J3)
          show (¬ ((nI 1) : Int32) = (nI 0) → _) ∧ (((nI 1) : Int32) = (nI 0) → _)
          refine ⟨fun _ => ?_, fun q => absurd q (by decide)⟩
          show mm_u _ _ _ _ _ _ [some (.ref 1), some (.int (nI 1))] [] ((fl, n1, n2, p, q, ad), I3, J3)
          show (((nI 0) : Int32) = 0 ∨ ((nI 0) : Int32) = 1) ∧ _
          refine ⟨(by decide), ?_⟩
          exact ((h3.1 c2).2 c3)
      · show mm_b _ _ _ _ _ [some (.ref 1), none] [] ((fl, n1, n2, p, q, ad), I3, J3)
        show mm_wc d 73 [.ref 1, .ref 103] ((fl, 0, 0, p, q, ad), I3, J3) _
        refine mm_wcm (h3.2 c2) ?_
        rintro v τ ⟨r4, I4, J4, rfl, rfl, h4⟩
        refine mm_r1' ⟨rfl, ?_⟩
        show mm_b _ _ _ _ _ [some (.ref 1), none] [.int r4] ((fl, n1, n2, p, q, ad), I4, J4)
        show (¬ r4 = (nI 0) → _) ∧ (r4 = (nI 0) → _)
        refine ⟨fun c3 => ?_, fun c3 => ?_⟩
        · show mm_u _ _ _ _ _ _ [some (.ref 1), none] [] ((fl, n1, n2, p, q, ad), I4, J4)
          show (¬ (I4 1 3) = (nI 1) → _) ∧ ((I4 1 3) = (nI 1) → _)
          refine ⟨fun c4 => ?_, fun c4 => ?_⟩
          · show mm_u _ _ _ _ _ _ [some (.ref 1), some (.int (nI 1))] [] ((fl, n1, n2, p, q, ad), I4, J4)
            show (((nI 0) : Int32) = 0 ∨ ((nI 0) : Int32) = 1) ∧ _
            refine ⟨(by decide), ?_⟩
            exact ((h4.1 c3).1 c4)
          · show mm_b _ _ _ _ _ [some (.ref 1), some (.int (nI 1))] [] ((fl, n1, n2, p, q, ad), I4, J4)
            show (¬ ((nI 1) : Int32) = (nI 0) → _) ∧ (((nI 1) : Int32) = (nI 0) → _)
            refine ⟨fun _ => ?_, fun q => absurd q (by decide)⟩
            show mm_u _ _ _ _ _ _ [some (.ref 1), some (.int (nI 1))] [] ((fl, n1, n2, p, q, ad), I4, J4)
            show (((nI 0) : Int32) = 0 ∨ ((nI 0) : Int32) = 1) ∧ _
            refine ⟨(by decide), ?_⟩
            exact ((h4.1 c3).2 c4)
        · show mm_b _ _ _ _ _ [some (.ref 1), none] [] ((fl, n1, n2, p, q, ad), I4, J4)
          show mm_wc d 73 [.ref 1, .ref 104] ((fl, 0, 0, p, q, ad), I4, J4) _
          refine mm_wcm (h4.2 c3) ?_
          rintro v τ ⟨r5, I5, J5, rfl, rfl, h5⟩
          refine mm_r1' ⟨rfl, ?_⟩
          show mm_b _ _ _ _ _ [some (.ref 1), none] [.int r5] ((fl, n1, n2, p, q, ad), I5, J5)
          show (r5 = (nI 0) → _) ∧ (¬ r5 = (nI 0) → _)
          refine ⟨fun c4 => ?_, fun c4 => ?_⟩
          · show mm_u _ _ _ _ _ _ [some (.ref 1), none] [] ((fl, n1, n2, p, q, ad), I5, J5)
            show (¬ (I5 1 3) = (nI 1) → _) ∧ ((I5 1 3) = (nI 1) → _)
            refine ⟨fun c5 => ?_, fun c5 => ?_⟩
            · show mm_u _ _ _ _ _ _ [some (.ref 1), some (.int (nI 0))] [] ((fl, n1, n2, p, q, ad), I5, J5)
              show (((nI 0) : Int32) = 0 ∨ ((nI 0) : Int32) = 1) ∧ _
              refine ⟨(by decide), ?_⟩
              exact ((h5.1 c4).1 c5)
            · show mm_b _ _ _ _ _ [some (.ref 1), some (.int (nI 0))] [] ((fl, n1, n2, p, q, ad), I5, J5)
              show (¬ ((nI 0) : Int32) = (nI 0) → _) ∧ (((nI 0) : Int32) = (nI 0) → _)
              refine ⟨fun q => absurd q (by decide), fun _ => ?_⟩
              show mm_b _ _ _ _ _ [some (.ref 1), some (.int (nI 0))] [] ((fl, n1, n2, p, q, ad), I5, J5)
              show mm_wc d 73 [.ref 1, .ref 105] ((fl, 0, 0, p, q, ad), I5, J5) _
              refine mm_wcm ((h5.1 c4).2 c5) ?_
              rintro v τ ⟨r6, I6, J6, rfl, rfl, h6⟩
              refine mm_r1' ⟨rfl, ?_⟩
              show mm_b _ _ _ _ _ [some (.ref 1), some (.int (nI 0))] [.int r6] ((fl, n1, n2, p, q, ad), I6, J6)
              show (¬ r6 = (nI 0) → _) ∧ (r6 = (nI 0) → _)
              refine ⟨fun c6 => ?_, fun c6 => ?_⟩
              · show mm_u _ _ _ _ _ _ [some (.ref 1), some (.int (nI 0))] [] ((fl, n1, n2, p, q, ad), I6, J6)
                show (((nI 0) : Int32) = 0 ∨ ((nI 0) : Int32) = 1) ∧ _
                refine ⟨(by decide), ?_⟩
                exact (h6.1 c6)
              · show mm_b _ _ _ _ _ [some (.ref 1), some (.int (nI 0))] [] ((fl, n1, n2, p, q, ad), I6, J6)
                show mm_wc d 73 [.ref 1, .ref 106] ((fl, 0, 0, p, q, ad), I6, J6) _
                refine mm_wcm (h6.2 c6) ?_
                rintro v τ ⟨r7, I7, J7, rfl, rfl, h7⟩
                refine mm_r1' ⟨rfl, ?_⟩
                show mm_b _ _ _ _ _ [some (.ref 1), some (.int (nI 0))] [.int r7] ((fl, n1, n2, p, q, ad), I7, J7)
                show (¬ r7 = (nI 0) → _) ∧ (r7 = (nI 0) → _)
                refine ⟨fun c7 => ?_, fun c7 => ?_⟩
                · show mm_u _ _ _ _ _ _ [some (.ref 1), some (.int (nI 0))] [] ((fl, n1, n2, p, q, ad), I7, J7)
                  show (((nI 0) : Int32) = 0 ∨ ((nI 0) : Int32) = 1) ∧ _
                  refine ⟨(by decide), ?_⟩
                  exact (h7.1 c7)
                · show mm_b _ _ _ _ _ [some (.ref 1), some (.int (nI 0))] [] ((fl, n1, n2, p, q, ad), I7, J7)
                  show mm_wc d 73 [.ref 1, .ref 107] ((fl, 0, 0, p, q, ad), I7, J7) _
                  refine mm_wcm (h7.2 c7) ?_
                  rintro v τ ⟨r8, I8, J8, rfl, rfl, h8⟩
                  refine mm_r1' ⟨rfl, ?_⟩
                  show mm_b _ _ _ _ _ [some (.ref 1), some (.int (nI 0))] [.int r8] ((fl, n1, n2, p, q, ad), I8, J8)
                  show (¬ r8 = (nI 0) → _) ∧ (r8 = (nI 0) → _)
                  refine ⟨fun c8 => ?_, fun c8 => ?_⟩
                  · show mm_u _ _ _ _ _ _ [some (.ref 1), some (.int (nI 0))] [] ((fl, n1, n2, p, q, ad), I8, J8)
                    show (((nI 0) : Int32) = 0 ∨ ((nI 0) : Int32) = 1) ∧ _
                    refine ⟨(by decide), ?_⟩
                    exact (h8.1 c8)
                  · show mm_b _ _ _ _ _ [some (.ref 1), some (.int (nI 0))] [] ((fl, n1, n2, p, q, ad), I8, J8)
                    show (((nI 1) : Int32) = 0 ∨ ((nI 1) : Int32) = 1) ∧ _
                    refine ⟨(by decide), ?_⟩
                    exact (h8.2 c8)
          · show mm_b _ _ _ _ _ [some (.ref 1), none] [] ((fl, n1, n2, p, q, ad), I5, J5)
            show (¬ (I5 1 3) = (nI 1) → _) ∧ ((I5 1 3) = (nI 1) → _)
            refine ⟨fun c5 => ?_, fun c5 => ?_⟩
            · show mm_u _ _ _ _ _ _ [some (.ref 1), some (.int (nI 1))] [] ((fl, n1, n2, p, q, ad), I5, J5)
              show (((nI 0) : Int32) = 0 ∨ ((nI 0) : Int32) = 1) ∧ _
              refine ⟨(by decide), ?_⟩
              exact ((h5.2 c4).1 c5)
            · show mm_b _ _ _ _ _ [some (.ref 1), some (.int (nI 1))] [] ((fl, n1, n2, p, q, ad), I5, J5)
              show (¬ ((nI 1) : Int32) = (nI 0) → _) ∧ (((nI 1) : Int32) = (nI 0) → _)
              refine ⟨fun _ => ?_, fun q => absurd q (by decide)⟩
              show mm_u _ _ _ _ _ _ [some (.ref 1), some (.int (nI 1))] [] ((fl, n1, n2, p, q, ad), I5, J5)
              show (((nI 0) : Int32) = 0 ∨ ((nI 0) : Int32) = 1) ∧ _
              refine ⟨(by decide), ?_⟩
              exact ((h5.2 c4).2 c5)
/- 73 ThreeBreaths$Reader says -/
theorem fx_73_cake {d : Nat} {fl : Nat → Bool} {n1 n2 : Nat} {p q : Bool} {ad : Nat → Nat} {I : mmI} {J : mmJ} {Q : mmQ} (h : ((¬ (I 1 3) = (nI 1) → Q (some (.int (nI 0))) ((fl, n1, n2, p, q, ad), I, J)) ∧ ((I 1 3) = (nI 1) → mm_wc d 1004 [.ref 98] ((fl, 0, 0, p, q, ad), I, J) (fun v τ => ∃ r1 I1 J1, v = some (.int r1) ∧ τ = ((fl, 0, 0, p, q, ad), I1, J1) ∧ ((((I 1 5) - (I 1 4)) = r1 → mm_w Q (mm_wc d) bk_73 28 [some (.ref 1), some (.ref 98), some (.int (nI 0))] [] ((fl, n1, n2, p, q, ad), I1, J1)) ∧ (¬ ((I 1 5) - (I 1 4)) = r1 → Q (some (.int (nI 0))) ((fl, n1, n2, p, q, ad), I1, J1))))))) : mm_wc (d + 1) 73 [.ref 1, .ref 98] ((fl, n1, n2, p, q, ad), I, J) Q := by
  refine mm_call (c := 73) rfl rfl ?_
  refine mm_go [28] 80 ?_
  show (¬ (I 1 3) = (nI 1) → _) ∧ ((I 1 3) = (nI 1) → _)
  refine ⟨fun c0 => ?_, fun c0 => ?_⟩
  · show mm_u _ _ _ _ _ _ [some (.ref 1), some (.ref 98), none] [] ((fl, n1, n2, p, q, ad), I, J)
    show (((nI 0) : Int32) = 0 ∨ ((nI 0) : Int32) = 1) ∧ _
    refine ⟨(by decide), ?_⟩
    exact (h.1 c0)
  · show mm_b _ _ _ _ _ [some (.ref 1), some (.ref 98), none] [] ((fl, n1, n2, p, q, ad), I, J)
    show mm_wc d 1004 [.ref 98] ((fl, 0, 0, p, q, ad), I, J) _
    refine mm_wcm (h.2 c0) ?_
    rintro v τ ⟨r1, I1, J1, rfl, rfl, h1⟩
    refine mm_r1' ⟨rfl, ?_⟩
    show mm_b _ _ _ _ _ [some (.ref 1), some (.ref 98), none] [.int r1, .int ((I 1 5) - (I 1 4))] ((fl, n1, n2, p, q, ad), I1, J1)
    show (((I 1 5) - (I 1 4)) = r1 → _) ∧ (¬ ((I 1 5) - (I 1 4)) = r1 → _)
    refine ⟨fun c1 => ?_, fun c1 => ?_⟩
    · exact (h1.1 c1)
    · show mm_b _ _ _ _ _ [some (.ref 1), some (.ref 98), none] [] ((fl, n1, n2, p, q, ad), I1, J1)
      show (((nI 0) : Int32) = 0 ∨ ((nI 0) : Int32) = 1) ∧ _
      refine ⟨(by decide), ?_⟩
      exact (h1.2 c1)
theorem fx_73_cake_28 {d : Nat} {a2 : Int32} {fl : Nat → Bool} {n1 n2 : Nat} {p q : Bool} {ad : Nat → Nat} {I : mmI} {J : mmJ} {Q : mmQ} (h : mm_wc d 1004 [.ref 98] ((fl, 0, 0, p, q, ad), I, J) (fun v τ => ∃ r1 I1 J1, v = some (.int r1) ∧ τ = ((fl, 0, 0, p, q, ad), I1, J1) ∧ ((r1 ≤ a2 → Q (some (.int (nI 1))) ((fl, n1, n2, p, q, ad), I1, J1)) ∧ (¬ r1 ≤ a2 → (vp_in ((I1 1 4) + a2) 900 ∧ mm_wc d 1005 [.ref 98, .int a2] ((fl, 0, 0, p, q, ad), I1, J1) (fun v τ => ∃ r2 I2 J2, v = some (.int r2) ∧ τ = ((fl, 0, 0, p, q, ad), I2, J2) ∧ (((I1 2 (((I1 1 4) + a2)).toNatClampNeg) = r2 → mm_w Q (mm_wc d) bk_73 28 [some (.ref 1), some (.ref 98), some (.int (a2 + (nI 1)))] [] ((fl, n1, n2, p, q, ad), I2, J2)) ∧ (¬ (I1 2 (((I1 1 4) + a2)).toNatClampNeg) = r2 → Q (some (.int (nI 0))) ((fl, n1, n2, p, q, ad), I2, J2))))))))) : mm_w Q (mm_wc (d)) bk_73 28 [some (.ref 1), some (.ref 98), some (.int a2)] [] ((fl, n1, n2, p, q, ad), I, J) := by
  refine mm_go [28] 80 ?_
  show mm_wc d 1004 [.ref 98] ((fl, 0, 0, p, q, ad), I, J) _
  refine mm_wcm h ?_
  rintro v τ ⟨r1, I1, J1, rfl, rfl, h1⟩
  refine mm_r1' ⟨rfl, ?_⟩
  show mm_b _ _ _ _ _ [some (.ref 1), some (.ref 98), some (.int a2)] [.int r1, .int a2] ((fl, n1, n2, p, q, ad), I1, J1)
  show (r1 ≤ a2 → _) ∧ (¬ r1 ≤ a2 → _)
  refine ⟨fun c0 => ?_, fun c0 => ?_⟩
  · show mm_u _ _ _ _ _ _ [some (.ref 1), some (.ref 98), some (.int a2)] [] ((fl, n1, n2, p, q, ad), I1, J1)
    show (((nI 1) : Int32) = 0 ∨ ((nI 1) : Int32) = 1) ∧ _
    refine ⟨(by decide), ?_⟩
    exact (h1.1 c0)
  · show mm_b _ _ _ _ _ [some (.ref 1), some (.ref 98), some (.int a2)] [] ((fl, n1, n2, p, q, ad), I1, J1)
    show vp_in ((I1 1 4) + a2) 900 ∧ _
    refine ⟨(h1.2 c0).1, ?_⟩
    show mm_b _ _ _ _ _ [some (.ref 1), some (.ref 98), some (.int a2)] [.int (I1 2 (((I1 1 4) + a2)).toNatClampNeg)] ((fl, n1, n2, p, q, ad), I1, J1)
    show mm_wc d 1005 [.ref 98, .int a2] ((fl, 0, 0, p, q, ad), I1, J1) _
    refine mm_wcm ((h1.2 c0).2) ?_
    rintro v τ ⟨r2, I2, J2, rfl, rfl, h2⟩
    refine mm_r1' ⟨rfl, ?_⟩
    show mm_b _ _ _ _ _ [some (.ref 1), some (.ref 98), some (.int a2)] [.int r2, .int (I1 2 (((I1 1 4) + a2)).toNatClampNeg)] ((fl, n1, n2, p, q, ad), I2, J2)
    show ((I1 2 (((I1 1 4) + a2)).toNatClampNeg) = r2 → _) ∧ (¬ (I1 2 (((I1 1 4) + a2)).toNatClampNeg) = r2 → _)
    refine ⟨fun c1 => ?_, fun c1 => ?_⟩
    · exact (h2.1 c1)
    · show mm_b _ _ _ _ _ [some (.ref 1), some (.ref 98), some (.int a2)] [] ((fl, n1, n2, p, q, ad), I2, J2)
      show (((nI 0) : Int32) = 0 ∨ ((nI 0) : Int32) = 1) ∧ _
      refine ⟨(by decide), ?_⟩
      exact (h2.2 c1)
/- 73 ThreeBreaths$Reader says -/
theorem fx_73_near {d : Nat} {fl : Nat → Bool} {n1 n2 : Nat} {p q : Bool} {ad : Nat → Nat} {I : mmI} {J : mmJ} {Q : mmQ} (h : ((¬ (I 1 3) = (nI 1) → Q (some (.int (nI 0))) ((fl, n1, n2, p, q, ad), I, J)) ∧ ((I 1 3) = (nI 1) → mm_wc d 1004 [.ref 99] ((fl, 0, 0, p, q, ad), I, J) (fun v τ => ∃ r1 I1 J1, v = some (.int r1) ∧ τ = ((fl, 0, 0, p, q, ad), I1, J1) ∧ ((((I 1 5) - (I 1 4)) = r1 → mm_w Q (mm_wc d) bk_73 28 [some (.ref 1), some (.ref 99), some (.int (nI 0))] [] ((fl, n1, n2, p, q, ad), I1, J1)) ∧ (¬ ((I 1 5) - (I 1 4)) = r1 → Q (some (.int (nI 0))) ((fl, n1, n2, p, q, ad), I1, J1))))))) : mm_wc (d + 1) 73 [.ref 1, .ref 99] ((fl, n1, n2, p, q, ad), I, J) Q := by
  refine mm_call (c := 73) rfl rfl ?_
  refine mm_go [28] 80 ?_
  show (¬ (I 1 3) = (nI 1) → _) ∧ ((I 1 3) = (nI 1) → _)
  refine ⟨fun c0 => ?_, fun c0 => ?_⟩
  · show mm_u _ _ _ _ _ _ [some (.ref 1), some (.ref 99), none] [] ((fl, n1, n2, p, q, ad), I, J)
    show (((nI 0) : Int32) = 0 ∨ ((nI 0) : Int32) = 1) ∧ _
    refine ⟨(by decide), ?_⟩
    exact (h.1 c0)
  · show mm_b _ _ _ _ _ [some (.ref 1), some (.ref 99), none] [] ((fl, n1, n2, p, q, ad), I, J)
    show mm_wc d 1004 [.ref 99] ((fl, 0, 0, p, q, ad), I, J) _
    refine mm_wcm (h.2 c0) ?_
    rintro v τ ⟨r1, I1, J1, rfl, rfl, h1⟩
    refine mm_r1' ⟨rfl, ?_⟩
    show mm_b _ _ _ _ _ [some (.ref 1), some (.ref 99), none] [.int r1, .int ((I 1 5) - (I 1 4))] ((fl, n1, n2, p, q, ad), I1, J1)
    show (((I 1 5) - (I 1 4)) = r1 → _) ∧ (¬ ((I 1 5) - (I 1 4)) = r1 → _)
    refine ⟨fun c1 => ?_, fun c1 => ?_⟩
    · exact (h1.1 c1)
    · show mm_b _ _ _ _ _ [some (.ref 1), some (.ref 99), none] [] ((fl, n1, n2, p, q, ad), I1, J1)
      show (((nI 0) : Int32) = 0 ∨ ((nI 0) : Int32) = 1) ∧ _
      refine ⟨(by decide), ?_⟩
      exact (h1.2 c1)
theorem fx_73_near_28 {d : Nat} {a2 : Int32} {fl : Nat → Bool} {n1 n2 : Nat} {p q : Bool} {ad : Nat → Nat} {I : mmI} {J : mmJ} {Q : mmQ} (h : mm_wc d 1004 [.ref 99] ((fl, 0, 0, p, q, ad), I, J) (fun v τ => ∃ r1 I1 J1, v = some (.int r1) ∧ τ = ((fl, 0, 0, p, q, ad), I1, J1) ∧ ((r1 ≤ a2 → Q (some (.int (nI 1))) ((fl, n1, n2, p, q, ad), I1, J1)) ∧ (¬ r1 ≤ a2 → (vp_in ((I1 1 4) + a2) 900 ∧ mm_wc d 1005 [.ref 99, .int a2] ((fl, 0, 0, p, q, ad), I1, J1) (fun v τ => ∃ r2 I2 J2, v = some (.int r2) ∧ τ = ((fl, 0, 0, p, q, ad), I2, J2) ∧ (((I1 2 (((I1 1 4) + a2)).toNatClampNeg) = r2 → mm_w Q (mm_wc d) bk_73 28 [some (.ref 1), some (.ref 99), some (.int (a2 + (nI 1)))] [] ((fl, n1, n2, p, q, ad), I2, J2)) ∧ (¬ (I1 2 (((I1 1 4) + a2)).toNatClampNeg) = r2 → Q (some (.int (nI 0))) ((fl, n1, n2, p, q, ad), I2, J2))))))))) : mm_w Q (mm_wc (d)) bk_73 28 [some (.ref 1), some (.ref 99), some (.int a2)] [] ((fl, n1, n2, p, q, ad), I, J) := by
  refine mm_go [28] 80 ?_
  show mm_wc d 1004 [.ref 99] ((fl, 0, 0, p, q, ad), I, J) _
  refine mm_wcm h ?_
  rintro v τ ⟨r1, I1, J1, rfl, rfl, h1⟩
  refine mm_r1' ⟨rfl, ?_⟩
  show mm_b _ _ _ _ _ [some (.ref 1), some (.ref 99), some (.int a2)] [.int r1, .int a2] ((fl, n1, n2, p, q, ad), I1, J1)
  show (r1 ≤ a2 → _) ∧ (¬ r1 ≤ a2 → _)
  refine ⟨fun c0 => ?_, fun c0 => ?_⟩
  · show mm_u _ _ _ _ _ _ [some (.ref 1), some (.ref 99), some (.int a2)] [] ((fl, n1, n2, p, q, ad), I1, J1)
    show (((nI 1) : Int32) = 0 ∨ ((nI 1) : Int32) = 1) ∧ _
    refine ⟨(by decide), ?_⟩
    exact (h1.1 c0)
  · show mm_b _ _ _ _ _ [some (.ref 1), some (.ref 99), some (.int a2)] [] ((fl, n1, n2, p, q, ad), I1, J1)
    show vp_in ((I1 1 4) + a2) 900 ∧ _
    refine ⟨(h1.2 c0).1, ?_⟩
    show mm_b _ _ _ _ _ [some (.ref 1), some (.ref 99), some (.int a2)] [.int (I1 2 (((I1 1 4) + a2)).toNatClampNeg)] ((fl, n1, n2, p, q, ad), I1, J1)
    show mm_wc d 1005 [.ref 99, .int a2] ((fl, 0, 0, p, q, ad), I1, J1) _
    refine mm_wcm ((h1.2 c0).2) ?_
    rintro v τ ⟨r2, I2, J2, rfl, rfl, h2⟩
    refine mm_r1' ⟨rfl, ?_⟩
    show mm_b _ _ _ _ _ [some (.ref 1), some (.ref 99), some (.int a2)] [.int r2, .int (I1 2 (((I1 1 4) + a2)).toNatClampNeg)] ((fl, n1, n2, p, q, ad), I2, J2)
    show ((I1 2 (((I1 1 4) + a2)).toNatClampNeg) = r2 → _) ∧ (¬ (I1 2 (((I1 1 4) + a2)).toNatClampNeg) = r2 → _)
    refine ⟨fun c1 => ?_, fun c1 => ?_⟩
    · exact (h2.1 c1)
    · show mm_b _ _ _ _ _ [some (.ref 1), some (.ref 99), some (.int a2)] [] ((fl, n1, n2, p, q, ad), I2, J2)
      show (((nI 0) : Int32) = 0 ∨ ((nI 0) : Int32) = 1) ∧ _
      refine ⟨(by decide), ?_⟩
      exact (h2.2 c1)
/- 73 ThreeBreaths$Reader says -/
theorem fx_73_wax {d : Nat} {fl : Nat → Bool} {n1 n2 : Nat} {p q : Bool} {ad : Nat → Nat} {I : mmI} {J : mmJ} {Q : mmQ} (h : ((¬ (I 1 3) = (nI 1) → Q (some (.int (nI 0))) ((fl, n1, n2, p, q, ad), I, J)) ∧ ((I 1 3) = (nI 1) → mm_wc d 1004 [.ref 100] ((fl, 0, 0, p, q, ad), I, J) (fun v τ => ∃ r1 I1 J1, v = some (.int r1) ∧ τ = ((fl, 0, 0, p, q, ad), I1, J1) ∧ ((((I 1 5) - (I 1 4)) = r1 → mm_w Q (mm_wc d) bk_73 28 [some (.ref 1), some (.ref 100), some (.int (nI 0))] [] ((fl, n1, n2, p, q, ad), I1, J1)) ∧ (¬ ((I 1 5) - (I 1 4)) = r1 → Q (some (.int (nI 0))) ((fl, n1, n2, p, q, ad), I1, J1))))))) : mm_wc (d + 1) 73 [.ref 1, .ref 100] ((fl, n1, n2, p, q, ad), I, J) Q := by
  refine mm_call (c := 73) rfl rfl ?_
  refine mm_go [28] 80 ?_
  show (¬ (I 1 3) = (nI 1) → _) ∧ ((I 1 3) = (nI 1) → _)
  refine ⟨fun c0 => ?_, fun c0 => ?_⟩
  · show mm_u _ _ _ _ _ _ [some (.ref 1), some (.ref 100), none] [] ((fl, n1, n2, p, q, ad), I, J)
    show (((nI 0) : Int32) = 0 ∨ ((nI 0) : Int32) = 1) ∧ _
    refine ⟨(by decide), ?_⟩
    exact (h.1 c0)
  · show mm_b _ _ _ _ _ [some (.ref 1), some (.ref 100), none] [] ((fl, n1, n2, p, q, ad), I, J)
    show mm_wc d 1004 [.ref 100] ((fl, 0, 0, p, q, ad), I, J) _
    refine mm_wcm (h.2 c0) ?_
    rintro v τ ⟨r1, I1, J1, rfl, rfl, h1⟩
    refine mm_r1' ⟨rfl, ?_⟩
    show mm_b _ _ _ _ _ [some (.ref 1), some (.ref 100), none] [.int r1, .int ((I 1 5) - (I 1 4))] ((fl, n1, n2, p, q, ad), I1, J1)
    show (((I 1 5) - (I 1 4)) = r1 → _) ∧ (¬ ((I 1 5) - (I 1 4)) = r1 → _)
    refine ⟨fun c1 => ?_, fun c1 => ?_⟩
    · exact (h1.1 c1)
    · show mm_b _ _ _ _ _ [some (.ref 1), some (.ref 100), none] [] ((fl, n1, n2, p, q, ad), I1, J1)
      show (((nI 0) : Int32) = 0 ∨ ((nI 0) : Int32) = 1) ∧ _
      refine ⟨(by decide), ?_⟩
      exact (h1.2 c1)
theorem fx_73_wax_28 {d : Nat} {a2 : Int32} {fl : Nat → Bool} {n1 n2 : Nat} {p q : Bool} {ad : Nat → Nat} {I : mmI} {J : mmJ} {Q : mmQ} (h : mm_wc d 1004 [.ref 100] ((fl, 0, 0, p, q, ad), I, J) (fun v τ => ∃ r1 I1 J1, v = some (.int r1) ∧ τ = ((fl, 0, 0, p, q, ad), I1, J1) ∧ ((r1 ≤ a2 → Q (some (.int (nI 1))) ((fl, n1, n2, p, q, ad), I1, J1)) ∧ (¬ r1 ≤ a2 → (vp_in ((I1 1 4) + a2) 900 ∧ mm_wc d 1005 [.ref 100, .int a2] ((fl, 0, 0, p, q, ad), I1, J1) (fun v τ => ∃ r2 I2 J2, v = some (.int r2) ∧ τ = ((fl, 0, 0, p, q, ad), I2, J2) ∧ (((I1 2 (((I1 1 4) + a2)).toNatClampNeg) = r2 → mm_w Q (mm_wc d) bk_73 28 [some (.ref 1), some (.ref 100), some (.int (a2 + (nI 1)))] [] ((fl, n1, n2, p, q, ad), I2, J2)) ∧ (¬ (I1 2 (((I1 1 4) + a2)).toNatClampNeg) = r2 → Q (some (.int (nI 0))) ((fl, n1, n2, p, q, ad), I2, J2))))))))) : mm_w Q (mm_wc (d)) bk_73 28 [some (.ref 1), some (.ref 100), some (.int a2)] [] ((fl, n1, n2, p, q, ad), I, J) := by
  refine mm_go [28] 80 ?_
  show mm_wc d 1004 [.ref 100] ((fl, 0, 0, p, q, ad), I, J) _
  refine mm_wcm h ?_
  rintro v τ ⟨r1, I1, J1, rfl, rfl, h1⟩
  refine mm_r1' ⟨rfl, ?_⟩
  show mm_b _ _ _ _ _ [some (.ref 1), some (.ref 100), some (.int a2)] [.int r1, .int a2] ((fl, n1, n2, p, q, ad), I1, J1)
  show (r1 ≤ a2 → _) ∧ (¬ r1 ≤ a2 → _)
  refine ⟨fun c0 => ?_, fun c0 => ?_⟩
  · show mm_u _ _ _ _ _ _ [some (.ref 1), some (.ref 100), some (.int a2)] [] ((fl, n1, n2, p, q, ad), I1, J1)
    show (((nI 1) : Int32) = 0 ∨ ((nI 1) : Int32) = 1) ∧ _
    refine ⟨(by decide), ?_⟩
    exact (h1.1 c0)
  · show mm_b _ _ _ _ _ [some (.ref 1), some (.ref 100), some (.int a2)] [] ((fl, n1, n2, p, q, ad), I1, J1)
    show vp_in ((I1 1 4) + a2) 900 ∧ _
    refine ⟨(h1.2 c0).1, ?_⟩
    show mm_b _ _ _ _ _ [some (.ref 1), some (.ref 100), some (.int a2)] [.int (I1 2 (((I1 1 4) + a2)).toNatClampNeg)] ((fl, n1, n2, p, q, ad), I1, J1)
    show mm_wc d 1005 [.ref 100, .int a2] ((fl, 0, 0, p, q, ad), I1, J1) _
    refine mm_wcm ((h1.2 c0).2) ?_
    rintro v τ ⟨r2, I2, J2, rfl, rfl, h2⟩
    refine mm_r1' ⟨rfl, ?_⟩
    show mm_b _ _ _ _ _ [some (.ref 1), some (.ref 100), some (.int a2)] [.int r2, .int (I1 2 (((I1 1 4) + a2)).toNatClampNeg)] ((fl, n1, n2, p, q, ad), I2, J2)
    show ((I1 2 (((I1 1 4) + a2)).toNatClampNeg) = r2 → _) ∧ (¬ (I1 2 (((I1 1 4) + a2)).toNatClampNeg) = r2 → _)
    refine ⟨fun c1 => ?_, fun c1 => ?_⟩
    · exact (h2.1 c1)
    · show mm_b _ _ _ _ _ [some (.ref 1), some (.ref 100), some (.int a2)] [] ((fl, n1, n2, p, q, ad), I2, J2)
      show (((nI 0) : Int32) = 0 ∨ ((nI 0) : Int32) = 1) ∧ _
      refine ⟨(by decide), ?_⟩
      exact (h2.2 c1)
/- 73 ThreeBreaths$Reader says -/
theorem fx_73_candle {d : Nat} {fl : Nat → Bool} {n1 n2 : Nat} {p q : Bool} {ad : Nat → Nat} {I : mmI} {J : mmJ} {Q : mmQ} (h : ((¬ (I 1 3) = (nI 1) → Q (some (.int (nI 0))) ((fl, n1, n2, p, q, ad), I, J)) ∧ ((I 1 3) = (nI 1) → mm_wc d 1004 [.ref 101] ((fl, 0, 0, p, q, ad), I, J) (fun v τ => ∃ r1 I1 J1, v = some (.int r1) ∧ τ = ((fl, 0, 0, p, q, ad), I1, J1) ∧ ((((I 1 5) - (I 1 4)) = r1 → mm_w Q (mm_wc d) bk_73 28 [some (.ref 1), some (.ref 101), some (.int (nI 0))] [] ((fl, n1, n2, p, q, ad), I1, J1)) ∧ (¬ ((I 1 5) - (I 1 4)) = r1 → Q (some (.int (nI 0))) ((fl, n1, n2, p, q, ad), I1, J1))))))) : mm_wc (d + 1) 73 [.ref 1, .ref 101] ((fl, n1, n2, p, q, ad), I, J) Q := by
  refine mm_call (c := 73) rfl rfl ?_
  refine mm_go [28] 80 ?_
  show (¬ (I 1 3) = (nI 1) → _) ∧ ((I 1 3) = (nI 1) → _)
  refine ⟨fun c0 => ?_, fun c0 => ?_⟩
  · show mm_u _ _ _ _ _ _ [some (.ref 1), some (.ref 101), none] [] ((fl, n1, n2, p, q, ad), I, J)
    show (((nI 0) : Int32) = 0 ∨ ((nI 0) : Int32) = 1) ∧ _
    refine ⟨(by decide), ?_⟩
    exact (h.1 c0)
  · show mm_b _ _ _ _ _ [some (.ref 1), some (.ref 101), none] [] ((fl, n1, n2, p, q, ad), I, J)
    show mm_wc d 1004 [.ref 101] ((fl, 0, 0, p, q, ad), I, J) _
    refine mm_wcm (h.2 c0) ?_
    rintro v τ ⟨r1, I1, J1, rfl, rfl, h1⟩
    refine mm_r1' ⟨rfl, ?_⟩
    show mm_b _ _ _ _ _ [some (.ref 1), some (.ref 101), none] [.int r1, .int ((I 1 5) - (I 1 4))] ((fl, n1, n2, p, q, ad), I1, J1)
    show (((I 1 5) - (I 1 4)) = r1 → _) ∧ (¬ ((I 1 5) - (I 1 4)) = r1 → _)
    refine ⟨fun c1 => ?_, fun c1 => ?_⟩
    · exact (h1.1 c1)
    · show mm_b _ _ _ _ _ [some (.ref 1), some (.ref 101), none] [] ((fl, n1, n2, p, q, ad), I1, J1)
      show (((nI 0) : Int32) = 0 ∨ ((nI 0) : Int32) = 1) ∧ _
      refine ⟨(by decide), ?_⟩
      exact (h1.2 c1)
theorem fx_73_candle_28 {d : Nat} {a2 : Int32} {fl : Nat → Bool} {n1 n2 : Nat} {p q : Bool} {ad : Nat → Nat} {I : mmI} {J : mmJ} {Q : mmQ} (h : mm_wc d 1004 [.ref 101] ((fl, 0, 0, p, q, ad), I, J) (fun v τ => ∃ r1 I1 J1, v = some (.int r1) ∧ τ = ((fl, 0, 0, p, q, ad), I1, J1) ∧ ((r1 ≤ a2 → Q (some (.int (nI 1))) ((fl, n1, n2, p, q, ad), I1, J1)) ∧ (¬ r1 ≤ a2 → (vp_in ((I1 1 4) + a2) 900 ∧ mm_wc d 1005 [.ref 101, .int a2] ((fl, 0, 0, p, q, ad), I1, J1) (fun v τ => ∃ r2 I2 J2, v = some (.int r2) ∧ τ = ((fl, 0, 0, p, q, ad), I2, J2) ∧ (((I1 2 (((I1 1 4) + a2)).toNatClampNeg) = r2 → mm_w Q (mm_wc d) bk_73 28 [some (.ref 1), some (.ref 101), some (.int (a2 + (nI 1)))] [] ((fl, n1, n2, p, q, ad), I2, J2)) ∧ (¬ (I1 2 (((I1 1 4) + a2)).toNatClampNeg) = r2 → Q (some (.int (nI 0))) ((fl, n1, n2, p, q, ad), I2, J2))))))))) : mm_w Q (mm_wc (d)) bk_73 28 [some (.ref 1), some (.ref 101), some (.int a2)] [] ((fl, n1, n2, p, q, ad), I, J) := by
  refine mm_go [28] 80 ?_
  show mm_wc d 1004 [.ref 101] ((fl, 0, 0, p, q, ad), I, J) _
  refine mm_wcm h ?_
  rintro v τ ⟨r1, I1, J1, rfl, rfl, h1⟩
  refine mm_r1' ⟨rfl, ?_⟩
  show mm_b _ _ _ _ _ [some (.ref 1), some (.ref 101), some (.int a2)] [.int r1, .int a2] ((fl, n1, n2, p, q, ad), I1, J1)
  show (r1 ≤ a2 → _) ∧ (¬ r1 ≤ a2 → _)
  refine ⟨fun c0 => ?_, fun c0 => ?_⟩
  · show mm_u _ _ _ _ _ _ [some (.ref 1), some (.ref 101), some (.int a2)] [] ((fl, n1, n2, p, q, ad), I1, J1)
    show (((nI 1) : Int32) = 0 ∨ ((nI 1) : Int32) = 1) ∧ _
    refine ⟨(by decide), ?_⟩
    exact (h1.1 c0)
  · show mm_b _ _ _ _ _ [some (.ref 1), some (.ref 101), some (.int a2)] [] ((fl, n1, n2, p, q, ad), I1, J1)
    show vp_in ((I1 1 4) + a2) 900 ∧ _
    refine ⟨(h1.2 c0).1, ?_⟩
    show mm_b _ _ _ _ _ [some (.ref 1), some (.ref 101), some (.int a2)] [.int (I1 2 (((I1 1 4) + a2)).toNatClampNeg)] ((fl, n1, n2, p, q, ad), I1, J1)
    show mm_wc d 1005 [.ref 101, .int a2] ((fl, 0, 0, p, q, ad), I1, J1) _
    refine mm_wcm ((h1.2 c0).2) ?_
    rintro v τ ⟨r2, I2, J2, rfl, rfl, h2⟩
    refine mm_r1' ⟨rfl, ?_⟩
    show mm_b _ _ _ _ _ [some (.ref 1), some (.ref 101), some (.int a2)] [.int r2, .int (I1 2 (((I1 1 4) + a2)).toNatClampNeg)] ((fl, n1, n2, p, q, ad), I2, J2)
    show ((I1 2 (((I1 1 4) + a2)).toNatClampNeg) = r2 → _) ∧ (¬ (I1 2 (((I1 1 4) + a2)).toNatClampNeg) = r2 → _)
    refine ⟨fun c1 => ?_, fun c1 => ?_⟩
    · exact (h2.1 c1)
    · show mm_b _ _ _ _ _ [some (.ref 1), some (.ref 101), some (.int a2)] [] ((fl, n1, n2, p, q, ad), I2, J2)
      show (((nI 0) : Int32) = 0 ∨ ((nI 0) : Int32) = 1) ∧ _
      refine ⟨(by decide), ?_⟩
      exact (h2.2 c1)
/- 73 ThreeBreaths$Reader says -/
theorem fx_73_place {d : Nat} {fl : Nat → Bool} {n1 n2 : Nat} {p q : Bool} {ad : Nat → Nat} {I : mmI} {J : mmJ} {Q : mmQ} (h : ((¬ (I 1 3) = (nI 1) → Q (some (.int (nI 0))) ((fl, n1, n2, p, q, ad), I, J)) ∧ ((I 1 3) = (nI 1) → mm_wc d 1004 [.ref 102] ((fl, 0, 0, p, q, ad), I, J) (fun v τ => ∃ r1 I1 J1, v = some (.int r1) ∧ τ = ((fl, 0, 0, p, q, ad), I1, J1) ∧ ((((I 1 5) - (I 1 4)) = r1 → mm_w Q (mm_wc d) bk_73 28 [some (.ref 1), some (.ref 102), some (.int (nI 0))] [] ((fl, n1, n2, p, q, ad), I1, J1)) ∧ (¬ ((I 1 5) - (I 1 4)) = r1 → Q (some (.int (nI 0))) ((fl, n1, n2, p, q, ad), I1, J1))))))) : mm_wc (d + 1) 73 [.ref 1, .ref 102] ((fl, n1, n2, p, q, ad), I, J) Q := by
  refine mm_call (c := 73) rfl rfl ?_
  refine mm_go [28] 80 ?_
  show (¬ (I 1 3) = (nI 1) → _) ∧ ((I 1 3) = (nI 1) → _)
  refine ⟨fun c0 => ?_, fun c0 => ?_⟩
  · show mm_u _ _ _ _ _ _ [some (.ref 1), some (.ref 102), none] [] ((fl, n1, n2, p, q, ad), I, J)
    show (((nI 0) : Int32) = 0 ∨ ((nI 0) : Int32) = 1) ∧ _
    refine ⟨(by decide), ?_⟩
    exact (h.1 c0)
  · show mm_b _ _ _ _ _ [some (.ref 1), some (.ref 102), none] [] ((fl, n1, n2, p, q, ad), I, J)
    show mm_wc d 1004 [.ref 102] ((fl, 0, 0, p, q, ad), I, J) _
    refine mm_wcm (h.2 c0) ?_
    rintro v τ ⟨r1, I1, J1, rfl, rfl, h1⟩
    refine mm_r1' ⟨rfl, ?_⟩
    show mm_b _ _ _ _ _ [some (.ref 1), some (.ref 102), none] [.int r1, .int ((I 1 5) - (I 1 4))] ((fl, n1, n2, p, q, ad), I1, J1)
    show (((I 1 5) - (I 1 4)) = r1 → _) ∧ (¬ ((I 1 5) - (I 1 4)) = r1 → _)
    refine ⟨fun c1 => ?_, fun c1 => ?_⟩
    · exact (h1.1 c1)
    · show mm_b _ _ _ _ _ [some (.ref 1), some (.ref 102), none] [] ((fl, n1, n2, p, q, ad), I1, J1)
      show (((nI 0) : Int32) = 0 ∨ ((nI 0) : Int32) = 1) ∧ _
      refine ⟨(by decide), ?_⟩
      exact (h1.2 c1)
theorem fx_73_place_28 {d : Nat} {a2 : Int32} {fl : Nat → Bool} {n1 n2 : Nat} {p q : Bool} {ad : Nat → Nat} {I : mmI} {J : mmJ} {Q : mmQ} (h : mm_wc d 1004 [.ref 102] ((fl, 0, 0, p, q, ad), I, J) (fun v τ => ∃ r1 I1 J1, v = some (.int r1) ∧ τ = ((fl, 0, 0, p, q, ad), I1, J1) ∧ ((r1 ≤ a2 → Q (some (.int (nI 1))) ((fl, n1, n2, p, q, ad), I1, J1)) ∧ (¬ r1 ≤ a2 → (vp_in ((I1 1 4) + a2) 900 ∧ mm_wc d 1005 [.ref 102, .int a2] ((fl, 0, 0, p, q, ad), I1, J1) (fun v τ => ∃ r2 I2 J2, v = some (.int r2) ∧ τ = ((fl, 0, 0, p, q, ad), I2, J2) ∧ (((I1 2 (((I1 1 4) + a2)).toNatClampNeg) = r2 → mm_w Q (mm_wc d) bk_73 28 [some (.ref 1), some (.ref 102), some (.int (a2 + (nI 1)))] [] ((fl, n1, n2, p, q, ad), I2, J2)) ∧ (¬ (I1 2 (((I1 1 4) + a2)).toNatClampNeg) = r2 → Q (some (.int (nI 0))) ((fl, n1, n2, p, q, ad), I2, J2))))))))) : mm_w Q (mm_wc (d)) bk_73 28 [some (.ref 1), some (.ref 102), some (.int a2)] [] ((fl, n1, n2, p, q, ad), I, J) := by
  refine mm_go [28] 80 ?_
  show mm_wc d 1004 [.ref 102] ((fl, 0, 0, p, q, ad), I, J) _
  refine mm_wcm h ?_
  rintro v τ ⟨r1, I1, J1, rfl, rfl, h1⟩
  refine mm_r1' ⟨rfl, ?_⟩
  show mm_b _ _ _ _ _ [some (.ref 1), some (.ref 102), some (.int a2)] [.int r1, .int a2] ((fl, n1, n2, p, q, ad), I1, J1)
  show (r1 ≤ a2 → _) ∧ (¬ r1 ≤ a2 → _)
  refine ⟨fun c0 => ?_, fun c0 => ?_⟩
  · show mm_u _ _ _ _ _ _ [some (.ref 1), some (.ref 102), some (.int a2)] [] ((fl, n1, n2, p, q, ad), I1, J1)
    show (((nI 1) : Int32) = 0 ∨ ((nI 1) : Int32) = 1) ∧ _
    refine ⟨(by decide), ?_⟩
    exact (h1.1 c0)
  · show mm_b _ _ _ _ _ [some (.ref 1), some (.ref 102), some (.int a2)] [] ((fl, n1, n2, p, q, ad), I1, J1)
    show vp_in ((I1 1 4) + a2) 900 ∧ _
    refine ⟨(h1.2 c0).1, ?_⟩
    show mm_b _ _ _ _ _ [some (.ref 1), some (.ref 102), some (.int a2)] [.int (I1 2 (((I1 1 4) + a2)).toNatClampNeg)] ((fl, n1, n2, p, q, ad), I1, J1)
    show mm_wc d 1005 [.ref 102, .int a2] ((fl, 0, 0, p, q, ad), I1, J1) _
    refine mm_wcm ((h1.2 c0).2) ?_
    rintro v τ ⟨r2, I2, J2, rfl, rfl, h2⟩
    refine mm_r1' ⟨rfl, ?_⟩
    show mm_b _ _ _ _ _ [some (.ref 1), some (.ref 102), some (.int a2)] [.int r2, .int (I1 2 (((I1 1 4) + a2)).toNatClampNeg)] ((fl, n1, n2, p, q, ad), I2, J2)
    show ((I1 2 (((I1 1 4) + a2)).toNatClampNeg) = r2 → _) ∧ (¬ (I1 2 (((I1 1 4) + a2)).toNatClampNeg) = r2 → _)
    refine ⟨fun c1 => ?_, fun c1 => ?_⟩
    · exact (h2.1 c1)
    · show mm_b _ _ _ _ _ [some (.ref 1), some (.ref 102), some (.int a2)] [] ((fl, n1, n2, p, q, ad), I2, J2)
      show (((nI 0) : Int32) = 0 ∨ ((nI 0) : Int32) = 1) ∧ _
      refine ⟨(by decide), ?_⟩
      exact (h2.2 c1)
/- 73 ThreeBreaths$Reader says -/
theorem fx_73_spot {d : Nat} {fl : Nat → Bool} {n1 n2 : Nat} {p q : Bool} {ad : Nat → Nat} {I : mmI} {J : mmJ} {Q : mmQ} (h : ((¬ (I 1 3) = (nI 1) → Q (some (.int (nI 0))) ((fl, n1, n2, p, q, ad), I, J)) ∧ ((I 1 3) = (nI 1) → mm_wc d 1004 [.ref 103] ((fl, 0, 0, p, q, ad), I, J) (fun v τ => ∃ r1 I1 J1, v = some (.int r1) ∧ τ = ((fl, 0, 0, p, q, ad), I1, J1) ∧ ((((I 1 5) - (I 1 4)) = r1 → mm_w Q (mm_wc d) bk_73 28 [some (.ref 1), some (.ref 103), some (.int (nI 0))] [] ((fl, n1, n2, p, q, ad), I1, J1)) ∧ (¬ ((I 1 5) - (I 1 4)) = r1 → Q (some (.int (nI 0))) ((fl, n1, n2, p, q, ad), I1, J1))))))) : mm_wc (d + 1) 73 [.ref 1, .ref 103] ((fl, n1, n2, p, q, ad), I, J) Q := by
  refine mm_call (c := 73) rfl rfl ?_
  refine mm_go [28] 80 ?_
  show (¬ (I 1 3) = (nI 1) → _) ∧ ((I 1 3) = (nI 1) → _)
  refine ⟨fun c0 => ?_, fun c0 => ?_⟩
  · show mm_u _ _ _ _ _ _ [some (.ref 1), some (.ref 103), none] [] ((fl, n1, n2, p, q, ad), I, J)
    show (((nI 0) : Int32) = 0 ∨ ((nI 0) : Int32) = 1) ∧ _
    refine ⟨(by decide), ?_⟩
    exact (h.1 c0)
  · show mm_b _ _ _ _ _ [some (.ref 1), some (.ref 103), none] [] ((fl, n1, n2, p, q, ad), I, J)
    show mm_wc d 1004 [.ref 103] ((fl, 0, 0, p, q, ad), I, J) _
    refine mm_wcm (h.2 c0) ?_
    rintro v τ ⟨r1, I1, J1, rfl, rfl, h1⟩
    refine mm_r1' ⟨rfl, ?_⟩
    show mm_b _ _ _ _ _ [some (.ref 1), some (.ref 103), none] [.int r1, .int ((I 1 5) - (I 1 4))] ((fl, n1, n2, p, q, ad), I1, J1)
    show (((I 1 5) - (I 1 4)) = r1 → _) ∧ (¬ ((I 1 5) - (I 1 4)) = r1 → _)
    refine ⟨fun c1 => ?_, fun c1 => ?_⟩
    · exact (h1.1 c1)
    · show mm_b _ _ _ _ _ [some (.ref 1), some (.ref 103), none] [] ((fl, n1, n2, p, q, ad), I1, J1)
      show (((nI 0) : Int32) = 0 ∨ ((nI 0) : Int32) = 1) ∧ _
      refine ⟨(by decide), ?_⟩
      exact (h1.2 c1)
theorem fx_73_spot_28 {d : Nat} {a2 : Int32} {fl : Nat → Bool} {n1 n2 : Nat} {p q : Bool} {ad : Nat → Nat} {I : mmI} {J : mmJ} {Q : mmQ} (h : mm_wc d 1004 [.ref 103] ((fl, 0, 0, p, q, ad), I, J) (fun v τ => ∃ r1 I1 J1, v = some (.int r1) ∧ τ = ((fl, 0, 0, p, q, ad), I1, J1) ∧ ((r1 ≤ a2 → Q (some (.int (nI 1))) ((fl, n1, n2, p, q, ad), I1, J1)) ∧ (¬ r1 ≤ a2 → (vp_in ((I1 1 4) + a2) 900 ∧ mm_wc d 1005 [.ref 103, .int a2] ((fl, 0, 0, p, q, ad), I1, J1) (fun v τ => ∃ r2 I2 J2, v = some (.int r2) ∧ τ = ((fl, 0, 0, p, q, ad), I2, J2) ∧ (((I1 2 (((I1 1 4) + a2)).toNatClampNeg) = r2 → mm_w Q (mm_wc d) bk_73 28 [some (.ref 1), some (.ref 103), some (.int (a2 + (nI 1)))] [] ((fl, n1, n2, p, q, ad), I2, J2)) ∧ (¬ (I1 2 (((I1 1 4) + a2)).toNatClampNeg) = r2 → Q (some (.int (nI 0))) ((fl, n1, n2, p, q, ad), I2, J2))))))))) : mm_w Q (mm_wc (d)) bk_73 28 [some (.ref 1), some (.ref 103), some (.int a2)] [] ((fl, n1, n2, p, q, ad), I, J) := by
  refine mm_go [28] 80 ?_
  show mm_wc d 1004 [.ref 103] ((fl, 0, 0, p, q, ad), I, J) _
  refine mm_wcm h ?_
  rintro v τ ⟨r1, I1, J1, rfl, rfl, h1⟩
  refine mm_r1' ⟨rfl, ?_⟩
  show mm_b _ _ _ _ _ [some (.ref 1), some (.ref 103), some (.int a2)] [.int r1, .int a2] ((fl, n1, n2, p, q, ad), I1, J1)
  show (r1 ≤ a2 → _) ∧ (¬ r1 ≤ a2 → _)
  refine ⟨fun c0 => ?_, fun c0 => ?_⟩
  · show mm_u _ _ _ _ _ _ [some (.ref 1), some (.ref 103), some (.int a2)] [] ((fl, n1, n2, p, q, ad), I1, J1)
    show (((nI 1) : Int32) = 0 ∨ ((nI 1) : Int32) = 1) ∧ _
    refine ⟨(by decide), ?_⟩
    exact (h1.1 c0)
  · show mm_b _ _ _ _ _ [some (.ref 1), some (.ref 103), some (.int a2)] [] ((fl, n1, n2, p, q, ad), I1, J1)
    show vp_in ((I1 1 4) + a2) 900 ∧ _
    refine ⟨(h1.2 c0).1, ?_⟩
    show mm_b _ _ _ _ _ [some (.ref 1), some (.ref 103), some (.int a2)] [.int (I1 2 (((I1 1 4) + a2)).toNatClampNeg)] ((fl, n1, n2, p, q, ad), I1, J1)
    show mm_wc d 1005 [.ref 103, .int a2] ((fl, 0, 0, p, q, ad), I1, J1) _
    refine mm_wcm ((h1.2 c0).2) ?_
    rintro v τ ⟨r2, I2, J2, rfl, rfl, h2⟩
    refine mm_r1' ⟨rfl, ?_⟩
    show mm_b _ _ _ _ _ [some (.ref 1), some (.ref 103), some (.int a2)] [.int r2, .int (I1 2 (((I1 1 4) + a2)).toNatClampNeg)] ((fl, n1, n2, p, q, ad), I2, J2)
    show ((I1 2 (((I1 1 4) + a2)).toNatClampNeg) = r2 → _) ∧ (¬ (I1 2 (((I1 1 4) + a2)).toNatClampNeg) = r2 → _)
    refine ⟨fun c1 => ?_, fun c1 => ?_⟩
    · exact (h2.1 c1)
    · show mm_b _ _ _ _ _ [some (.ref 1), some (.ref 103), some (.int a2)] [] ((fl, n1, n2, p, q, ad), I2, J2)
      show (((nI 0) : Int32) = 0 ∨ ((nI 0) : Int32) = 1) ∧ _
      refine ⟨(by decide), ?_⟩
      exact (h2.2 c1)
/- 73 ThreeBreaths$Reader says -/
theorem fx_73_person {d : Nat} {fl : Nat → Bool} {n1 n2 : Nat} {p q : Bool} {ad : Nat → Nat} {I : mmI} {J : mmJ} {Q : mmQ} (h : ((¬ (I 1 3) = (nI 1) → Q (some (.int (nI 0))) ((fl, n1, n2, p, q, ad), I, J)) ∧ ((I 1 3) = (nI 1) → mm_wc d 1004 [.ref 104] ((fl, 0, 0, p, q, ad), I, J) (fun v τ => ∃ r1 I1 J1, v = some (.int r1) ∧ τ = ((fl, 0, 0, p, q, ad), I1, J1) ∧ ((((I 1 5) - (I 1 4)) = r1 → mm_w Q (mm_wc d) bk_73 28 [some (.ref 1), some (.ref 104), some (.int (nI 0))] [] ((fl, n1, n2, p, q, ad), I1, J1)) ∧ (¬ ((I 1 5) - (I 1 4)) = r1 → Q (some (.int (nI 0))) ((fl, n1, n2, p, q, ad), I1, J1))))))) : mm_wc (d + 1) 73 [.ref 1, .ref 104] ((fl, n1, n2, p, q, ad), I, J) Q := by
  refine mm_call (c := 73) rfl rfl ?_
  refine mm_go [28] 80 ?_
  show (¬ (I 1 3) = (nI 1) → _) ∧ ((I 1 3) = (nI 1) → _)
  refine ⟨fun c0 => ?_, fun c0 => ?_⟩
  · show mm_u _ _ _ _ _ _ [some (.ref 1), some (.ref 104), none] [] ((fl, n1, n2, p, q, ad), I, J)
    show (((nI 0) : Int32) = 0 ∨ ((nI 0) : Int32) = 1) ∧ _
    refine ⟨(by decide), ?_⟩
    exact (h.1 c0)
  · show mm_b _ _ _ _ _ [some (.ref 1), some (.ref 104), none] [] ((fl, n1, n2, p, q, ad), I, J)
    show mm_wc d 1004 [.ref 104] ((fl, 0, 0, p, q, ad), I, J) _
    refine mm_wcm (h.2 c0) ?_
    rintro v τ ⟨r1, I1, J1, rfl, rfl, h1⟩
    refine mm_r1' ⟨rfl, ?_⟩
    show mm_b _ _ _ _ _ [some (.ref 1), some (.ref 104), none] [.int r1, .int ((I 1 5) - (I 1 4))] ((fl, n1, n2, p, q, ad), I1, J1)
    show (((I 1 5) - (I 1 4)) = r1 → _) ∧ (¬ ((I 1 5) - (I 1 4)) = r1 → _)
    refine ⟨fun c1 => ?_, fun c1 => ?_⟩
    · exact (h1.1 c1)
    · show mm_b _ _ _ _ _ [some (.ref 1), some (.ref 104), none] [] ((fl, n1, n2, p, q, ad), I1, J1)
      show (((nI 0) : Int32) = 0 ∨ ((nI 0) : Int32) = 1) ∧ _
      refine ⟨(by decide), ?_⟩
      exact (h1.2 c1)
theorem fx_73_person_28 {d : Nat} {a2 : Int32} {fl : Nat → Bool} {n1 n2 : Nat} {p q : Bool} {ad : Nat → Nat} {I : mmI} {J : mmJ} {Q : mmQ} (h : mm_wc d 1004 [.ref 104] ((fl, 0, 0, p, q, ad), I, J) (fun v τ => ∃ r1 I1 J1, v = some (.int r1) ∧ τ = ((fl, 0, 0, p, q, ad), I1, J1) ∧ ((r1 ≤ a2 → Q (some (.int (nI 1))) ((fl, n1, n2, p, q, ad), I1, J1)) ∧ (¬ r1 ≤ a2 → (vp_in ((I1 1 4) + a2) 900 ∧ mm_wc d 1005 [.ref 104, .int a2] ((fl, 0, 0, p, q, ad), I1, J1) (fun v τ => ∃ r2 I2 J2, v = some (.int r2) ∧ τ = ((fl, 0, 0, p, q, ad), I2, J2) ∧ (((I1 2 (((I1 1 4) + a2)).toNatClampNeg) = r2 → mm_w Q (mm_wc d) bk_73 28 [some (.ref 1), some (.ref 104), some (.int (a2 + (nI 1)))] [] ((fl, n1, n2, p, q, ad), I2, J2)) ∧ (¬ (I1 2 (((I1 1 4) + a2)).toNatClampNeg) = r2 → Q (some (.int (nI 0))) ((fl, n1, n2, p, q, ad), I2, J2))))))))) : mm_w Q (mm_wc (d)) bk_73 28 [some (.ref 1), some (.ref 104), some (.int a2)] [] ((fl, n1, n2, p, q, ad), I, J) := by
  refine mm_go [28] 80 ?_
  show mm_wc d 1004 [.ref 104] ((fl, 0, 0, p, q, ad), I, J) _
  refine mm_wcm h ?_
  rintro v τ ⟨r1, I1, J1, rfl, rfl, h1⟩
  refine mm_r1' ⟨rfl, ?_⟩
  show mm_b _ _ _ _ _ [some (.ref 1), some (.ref 104), some (.int a2)] [.int r1, .int a2] ((fl, n1, n2, p, q, ad), I1, J1)
  show (r1 ≤ a2 → _) ∧ (¬ r1 ≤ a2 → _)
  refine ⟨fun c0 => ?_, fun c0 => ?_⟩
  · show mm_u _ _ _ _ _ _ [some (.ref 1), some (.ref 104), some (.int a2)] [] ((fl, n1, n2, p, q, ad), I1, J1)
    show (((nI 1) : Int32) = 0 ∨ ((nI 1) : Int32) = 1) ∧ _
    refine ⟨(by decide), ?_⟩
    exact (h1.1 c0)
  · show mm_b _ _ _ _ _ [some (.ref 1), some (.ref 104), some (.int a2)] [] ((fl, n1, n2, p, q, ad), I1, J1)
    show vp_in ((I1 1 4) + a2) 900 ∧ _
    refine ⟨(h1.2 c0).1, ?_⟩
    show mm_b _ _ _ _ _ [some (.ref 1), some (.ref 104), some (.int a2)] [.int (I1 2 (((I1 1 4) + a2)).toNatClampNeg)] ((fl, n1, n2, p, q, ad), I1, J1)
    show mm_wc d 1005 [.ref 104, .int a2] ((fl, 0, 0, p, q, ad), I1, J1) _
    refine mm_wcm ((h1.2 c0).2) ?_
    rintro v τ ⟨r2, I2, J2, rfl, rfl, h2⟩
    refine mm_r1' ⟨rfl, ?_⟩
    show mm_b _ _ _ _ _ [some (.ref 1), some (.ref 104), some (.int a2)] [.int r2, .int (I1 2 (((I1 1 4) + a2)).toNatClampNeg)] ((fl, n1, n2, p, q, ad), I2, J2)
    show ((I1 2 (((I1 1 4) + a2)).toNatClampNeg) = r2 → _) ∧ (¬ (I1 2 (((I1 1 4) + a2)).toNatClampNeg) = r2 → _)
    refine ⟨fun c1 => ?_, fun c1 => ?_⟩
    · exact (h2.1 c1)
    · show mm_b _ _ _ _ _ [some (.ref 1), some (.ref 104), some (.int a2)] [] ((fl, n1, n2, p, q, ad), I2, J2)
      show (((nI 0) : Int32) = 0 ∨ ((nI 0) : Int32) = 1) ∧ _
      refine ⟨(by decide), ?_⟩
      exact (h2.2 c1)
/- 73 ThreeBreaths$Reader says -/
theorem fx_73_shaky {d : Nat} {fl : Nat → Bool} {n1 n2 : Nat} {p q : Bool} {ad : Nat → Nat} {I : mmI} {J : mmJ} {Q : mmQ} (h : ((¬ (I 1 3) = (nI 1) → Q (some (.int (nI 0))) ((fl, n1, n2, p, q, ad), I, J)) ∧ ((I 1 3) = (nI 1) → mm_wc d 1004 [.ref 105] ((fl, 0, 0, p, q, ad), I, J) (fun v τ => ∃ r1 I1 J1, v = some (.int r1) ∧ τ = ((fl, 0, 0, p, q, ad), I1, J1) ∧ ((((I 1 5) - (I 1 4)) = r1 → mm_w Q (mm_wc d) bk_73 28 [some (.ref 1), some (.ref 105), some (.int (nI 0))] [] ((fl, n1, n2, p, q, ad), I1, J1)) ∧ (¬ ((I 1 5) - (I 1 4)) = r1 → Q (some (.int (nI 0))) ((fl, n1, n2, p, q, ad), I1, J1))))))) : mm_wc (d + 1) 73 [.ref 1, .ref 105] ((fl, n1, n2, p, q, ad), I, J) Q := by
  refine mm_call (c := 73) rfl rfl ?_
  refine mm_go [28] 80 ?_
  show (¬ (I 1 3) = (nI 1) → _) ∧ ((I 1 3) = (nI 1) → _)
  refine ⟨fun c0 => ?_, fun c0 => ?_⟩
  · show mm_u _ _ _ _ _ _ [some (.ref 1), some (.ref 105), none] [] ((fl, n1, n2, p, q, ad), I, J)
    show (((nI 0) : Int32) = 0 ∨ ((nI 0) : Int32) = 1) ∧ _
    refine ⟨(by decide), ?_⟩
    exact (h.1 c0)
  · show mm_b _ _ _ _ _ [some (.ref 1), some (.ref 105), none] [] ((fl, n1, n2, p, q, ad), I, J)
    show mm_wc d 1004 [.ref 105] ((fl, 0, 0, p, q, ad), I, J) _
    refine mm_wcm (h.2 c0) ?_
    rintro v τ ⟨r1, I1, J1, rfl, rfl, h1⟩
    refine mm_r1' ⟨rfl, ?_⟩
    show mm_b _ _ _ _ _ [some (.ref 1), some (.ref 105), none] [.int r1, .int ((I 1 5) - (I 1 4))] ((fl, n1, n2, p, q, ad), I1, J1)
    show (((I 1 5) - (I 1 4)) = r1 → _) ∧ (¬ ((I 1 5) - (I 1 4)) = r1 → _)
    refine ⟨fun c1 => ?_, fun c1 => ?_⟩
    · exact (h1.1 c1)
    · show mm_b _ _ _ _ _ [some (.ref 1), some (.ref 105), none] [] ((fl, n1, n2, p, q, ad), I1, J1)
      show (((nI 0) : Int32) = 0 ∨ ((nI 0) : Int32) = 1) ∧ _
      refine ⟨(by decide), ?_⟩
      exact (h1.2 c1)
theorem fx_73_shaky_28 {d : Nat} {a2 : Int32} {fl : Nat → Bool} {n1 n2 : Nat} {p q : Bool} {ad : Nat → Nat} {I : mmI} {J : mmJ} {Q : mmQ} (h : mm_wc d 1004 [.ref 105] ((fl, 0, 0, p, q, ad), I, J) (fun v τ => ∃ r1 I1 J1, v = some (.int r1) ∧ τ = ((fl, 0, 0, p, q, ad), I1, J1) ∧ ((r1 ≤ a2 → Q (some (.int (nI 1))) ((fl, n1, n2, p, q, ad), I1, J1)) ∧ (¬ r1 ≤ a2 → (vp_in ((I1 1 4) + a2) 900 ∧ mm_wc d 1005 [.ref 105, .int a2] ((fl, 0, 0, p, q, ad), I1, J1) (fun v τ => ∃ r2 I2 J2, v = some (.int r2) ∧ τ = ((fl, 0, 0, p, q, ad), I2, J2) ∧ (((I1 2 (((I1 1 4) + a2)).toNatClampNeg) = r2 → mm_w Q (mm_wc d) bk_73 28 [some (.ref 1), some (.ref 105), some (.int (a2 + (nI 1)))] [] ((fl, n1, n2, p, q, ad), I2, J2)) ∧ (¬ (I1 2 (((I1 1 4) + a2)).toNatClampNeg) = r2 → Q (some (.int (nI 0))) ((fl, n1, n2, p, q, ad), I2, J2))))))))) : mm_w Q (mm_wc (d)) bk_73 28 [some (.ref 1), some (.ref 105), some (.int a2)] [] ((fl, n1, n2, p, q, ad), I, J) := by
  refine mm_go [28] 80 ?_
  show mm_wc d 1004 [.ref 105] ((fl, 0, 0, p, q, ad), I, J) _
  refine mm_wcm h ?_
  rintro v τ ⟨r1, I1, J1, rfl, rfl, h1⟩
  refine mm_r1' ⟨rfl, ?_⟩
  show mm_b _ _ _ _ _ [some (.ref 1), some (.ref 105), some (.int a2)] [.int r1, .int a2] ((fl, n1, n2, p, q, ad), I1, J1)
  show (r1 ≤ a2 → _) ∧ (¬ r1 ≤ a2 → _)
  refine ⟨fun c0 => ?_, fun c0 => ?_⟩
  · show mm_u _ _ _ _ _ _ [some (.ref 1), some (.ref 105), some (.int a2)] [] ((fl, n1, n2, p, q, ad), I1, J1)
    show (((nI 1) : Int32) = 0 ∨ ((nI 1) : Int32) = 1) ∧ _
    refine ⟨(by decide), ?_⟩
    exact (h1.1 c0)
  · show mm_b _ _ _ _ _ [some (.ref 1), some (.ref 105), some (.int a2)] [] ((fl, n1, n2, p, q, ad), I1, J1)
    show vp_in ((I1 1 4) + a2) 900 ∧ _
    refine ⟨(h1.2 c0).1, ?_⟩
    show mm_b _ _ _ _ _ [some (.ref 1), some (.ref 105), some (.int a2)] [.int (I1 2 (((I1 1 4) + a2)).toNatClampNeg)] ((fl, n1, n2, p, q, ad), I1, J1)
    show mm_wc d 1005 [.ref 105, .int a2] ((fl, 0, 0, p, q, ad), I1, J1) _
    refine mm_wcm ((h1.2 c0).2) ?_
    rintro v τ ⟨r2, I2, J2, rfl, rfl, h2⟩
    refine mm_r1' ⟨rfl, ?_⟩
    show mm_b _ _ _ _ _ [some (.ref 1), some (.ref 105), some (.int a2)] [.int r2, .int (I1 2 (((I1 1 4) + a2)).toNatClampNeg)] ((fl, n1, n2, p, q, ad), I2, J2)
    show ((I1 2 (((I1 1 4) + a2)).toNatClampNeg) = r2 → _) ∧ (¬ (I1 2 (((I1 1 4) + a2)).toNatClampNeg) = r2 → _)
    refine ⟨fun c1 => ?_, fun c1 => ?_⟩
    · exact (h2.1 c1)
    · show mm_b _ _ _ _ _ [some (.ref 1), some (.ref 105), some (.int a2)] [] ((fl, n1, n2, p, q, ad), I2, J2)
      show (((nI 0) : Int32) = 0 ∨ ((nI 0) : Int32) = 1) ∧ _
      refine ⟨(by decide), ?_⟩
      exact (h2.2 c1)
/- 73 ThreeBreaths$Reader says -/
theorem fx_73_left {d : Nat} {fl : Nat → Bool} {n1 n2 : Nat} {p q : Bool} {ad : Nat → Nat} {I : mmI} {J : mmJ} {Q : mmQ} (h : ((¬ (I 1 3) = (nI 1) → Q (some (.int (nI 0))) ((fl, n1, n2, p, q, ad), I, J)) ∧ ((I 1 3) = (nI 1) → mm_wc d 1004 [.ref 106] ((fl, 0, 0, p, q, ad), I, J) (fun v τ => ∃ r1 I1 J1, v = some (.int r1) ∧ τ = ((fl, 0, 0, p, q, ad), I1, J1) ∧ ((((I 1 5) - (I 1 4)) = r1 → mm_w Q (mm_wc d) bk_73 28 [some (.ref 1), some (.ref 106), some (.int (nI 0))] [] ((fl, n1, n2, p, q, ad), I1, J1)) ∧ (¬ ((I 1 5) - (I 1 4)) = r1 → Q (some (.int (nI 0))) ((fl, n1, n2, p, q, ad), I1, J1))))))) : mm_wc (d + 1) 73 [.ref 1, .ref 106] ((fl, n1, n2, p, q, ad), I, J) Q := by
  refine mm_call (c := 73) rfl rfl ?_
  refine mm_go [28] 80 ?_
  show (¬ (I 1 3) = (nI 1) → _) ∧ ((I 1 3) = (nI 1) → _)
  refine ⟨fun c0 => ?_, fun c0 => ?_⟩
  · show mm_u _ _ _ _ _ _ [some (.ref 1), some (.ref 106), none] [] ((fl, n1, n2, p, q, ad), I, J)
    show (((nI 0) : Int32) = 0 ∨ ((nI 0) : Int32) = 1) ∧ _
    refine ⟨(by decide), ?_⟩
    exact (h.1 c0)
  · show mm_b _ _ _ _ _ [some (.ref 1), some (.ref 106), none] [] ((fl, n1, n2, p, q, ad), I, J)
    show mm_wc d 1004 [.ref 106] ((fl, 0, 0, p, q, ad), I, J) _
    refine mm_wcm (h.2 c0) ?_
    rintro v τ ⟨r1, I1, J1, rfl, rfl, h1⟩
    refine mm_r1' ⟨rfl, ?_⟩
    show mm_b _ _ _ _ _ [some (.ref 1), some (.ref 106), none] [.int r1, .int ((I 1 5) - (I 1 4))] ((fl, n1, n2, p, q, ad), I1, J1)
    show (((I 1 5) - (I 1 4)) = r1 → _) ∧ (¬ ((I 1 5) - (I 1 4)) = r1 → _)
    refine ⟨fun c1 => ?_, fun c1 => ?_⟩
    · exact (h1.1 c1)
    · show mm_b _ _ _ _ _ [some (.ref 1), some (.ref 106), none] [] ((fl, n1, n2, p, q, ad), I1, J1)
      show (((nI 0) : Int32) = 0 ∨ ((nI 0) : Int32) = 1) ∧ _
      refine ⟨(by decide), ?_⟩
      exact (h1.2 c1)
theorem fx_73_left_28 {d : Nat} {a2 : Int32} {fl : Nat → Bool} {n1 n2 : Nat} {p q : Bool} {ad : Nat → Nat} {I : mmI} {J : mmJ} {Q : mmQ} (h : mm_wc d 1004 [.ref 106] ((fl, 0, 0, p, q, ad), I, J) (fun v τ => ∃ r1 I1 J1, v = some (.int r1) ∧ τ = ((fl, 0, 0, p, q, ad), I1, J1) ∧ ((r1 ≤ a2 → Q (some (.int (nI 1))) ((fl, n1, n2, p, q, ad), I1, J1)) ∧ (¬ r1 ≤ a2 → (vp_in ((I1 1 4) + a2) 900 ∧ mm_wc d 1005 [.ref 106, .int a2] ((fl, 0, 0, p, q, ad), I1, J1) (fun v τ => ∃ r2 I2 J2, v = some (.int r2) ∧ τ = ((fl, 0, 0, p, q, ad), I2, J2) ∧ (((I1 2 (((I1 1 4) + a2)).toNatClampNeg) = r2 → mm_w Q (mm_wc d) bk_73 28 [some (.ref 1), some (.ref 106), some (.int (a2 + (nI 1)))] [] ((fl, n1, n2, p, q, ad), I2, J2)) ∧ (¬ (I1 2 (((I1 1 4) + a2)).toNatClampNeg) = r2 → Q (some (.int (nI 0))) ((fl, n1, n2, p, q, ad), I2, J2))))))))) : mm_w Q (mm_wc (d)) bk_73 28 [some (.ref 1), some (.ref 106), some (.int a2)] [] ((fl, n1, n2, p, q, ad), I, J) := by
  refine mm_go [28] 80 ?_
  show mm_wc d 1004 [.ref 106] ((fl, 0, 0, p, q, ad), I, J) _
  refine mm_wcm h ?_
  rintro v τ ⟨r1, I1, J1, rfl, rfl, h1⟩
  refine mm_r1' ⟨rfl, ?_⟩
  show mm_b _ _ _ _ _ [some (.ref 1), some (.ref 106), some (.int a2)] [.int r1, .int a2] ((fl, n1, n2, p, q, ad), I1, J1)
  show (r1 ≤ a2 → _) ∧ (¬ r1 ≤ a2 → _)
  refine ⟨fun c0 => ?_, fun c0 => ?_⟩
  · show mm_u _ _ _ _ _ _ [some (.ref 1), some (.ref 106), some (.int a2)] [] ((fl, n1, n2, p, q, ad), I1, J1)
    show (((nI 1) : Int32) = 0 ∨ ((nI 1) : Int32) = 1) ∧ _
    refine ⟨(by decide), ?_⟩
    exact (h1.1 c0)
  · show mm_b _ _ _ _ _ [some (.ref 1), some (.ref 106), some (.int a2)] [] ((fl, n1, n2, p, q, ad), I1, J1)
    show vp_in ((I1 1 4) + a2) 900 ∧ _
    refine ⟨(h1.2 c0).1, ?_⟩
    show mm_b _ _ _ _ _ [some (.ref 1), some (.ref 106), some (.int a2)] [.int (I1 2 (((I1 1 4) + a2)).toNatClampNeg)] ((fl, n1, n2, p, q, ad), I1, J1)
    show mm_wc d 1005 [.ref 106, .int a2] ((fl, 0, 0, p, q, ad), I1, J1) _
    refine mm_wcm ((h1.2 c0).2) ?_
    rintro v τ ⟨r2, I2, J2, rfl, rfl, h2⟩
    refine mm_r1' ⟨rfl, ?_⟩
    show mm_b _ _ _ _ _ [some (.ref 1), some (.ref 106), some (.int a2)] [.int r2, .int (I1 2 (((I1 1 4) + a2)).toNatClampNeg)] ((fl, n1, n2, p, q, ad), I2, J2)
    show ((I1 2 (((I1 1 4) + a2)).toNatClampNeg) = r2 → _) ∧ (¬ (I1 2 (((I1 1 4) + a2)).toNatClampNeg) = r2 → _)
    refine ⟨fun c1 => ?_, fun c1 => ?_⟩
    · exact (h2.1 c1)
    · show mm_b _ _ _ _ _ [some (.ref 1), some (.ref 106), some (.int a2)] [] ((fl, n1, n2, p, q, ad), I2, J2)
      show (((nI 0) : Int32) = 0 ∨ ((nI 0) : Int32) = 1) ∧ _
      refine ⟨(by decide), ?_⟩
      exact (h2.2 c1)
/- 73 ThreeBreaths$Reader says -/
theorem fx_73_none {d : Nat} {fl : Nat → Bool} {n1 n2 : Nat} {p q : Bool} {ad : Nat → Nat} {I : mmI} {J : mmJ} {Q : mmQ} (h : ((¬ (I 1 3) = (nI 1) → Q (some (.int (nI 0))) ((fl, n1, n2, p, q, ad), I, J)) ∧ ((I 1 3) = (nI 1) → mm_wc d 1004 [.ref 107] ((fl, 0, 0, p, q, ad), I, J) (fun v τ => ∃ r1 I1 J1, v = some (.int r1) ∧ τ = ((fl, 0, 0, p, q, ad), I1, J1) ∧ ((((I 1 5) - (I 1 4)) = r1 → mm_w Q (mm_wc d) bk_73 28 [some (.ref 1), some (.ref 107), some (.int (nI 0))] [] ((fl, n1, n2, p, q, ad), I1, J1)) ∧ (¬ ((I 1 5) - (I 1 4)) = r1 → Q (some (.int (nI 0))) ((fl, n1, n2, p, q, ad), I1, J1))))))) : mm_wc (d + 1) 73 [.ref 1, .ref 107] ((fl, n1, n2, p, q, ad), I, J) Q := by
  refine mm_call (c := 73) rfl rfl ?_
  refine mm_go [28] 80 ?_
  show (¬ (I 1 3) = (nI 1) → _) ∧ ((I 1 3) = (nI 1) → _)
  refine ⟨fun c0 => ?_, fun c0 => ?_⟩
  · show mm_u _ _ _ _ _ _ [some (.ref 1), some (.ref 107), none] [] ((fl, n1, n2, p, q, ad), I, J)
    show (((nI 0) : Int32) = 0 ∨ ((nI 0) : Int32) = 1) ∧ _
    refine ⟨(by decide), ?_⟩
    exact (h.1 c0)
  · show mm_b _ _ _ _ _ [some (.ref 1), some (.ref 107), none] [] ((fl, n1, n2, p, q, ad), I, J)
    show mm_wc d 1004 [.ref 107] ((fl, 0, 0, p, q, ad), I, J) _
    refine mm_wcm (h.2 c0) ?_
    rintro v τ ⟨r1, I1, J1, rfl, rfl, h1⟩
    refine mm_r1' ⟨rfl, ?_⟩
    show mm_b _ _ _ _ _ [some (.ref 1), some (.ref 107), none] [.int r1, .int ((I 1 5) - (I 1 4))] ((fl, n1, n2, p, q, ad), I1, J1)
    show (((I 1 5) - (I 1 4)) = r1 → _) ∧ (¬ ((I 1 5) - (I 1 4)) = r1 → _)
    refine ⟨fun c1 => ?_, fun c1 => ?_⟩
    · exact (h1.1 c1)
    · show mm_b _ _ _ _ _ [some (.ref 1), some (.ref 107), none] [] ((fl, n1, n2, p, q, ad), I1, J1)
      show (((nI 0) : Int32) = 0 ∨ ((nI 0) : Int32) = 1) ∧ _
      refine ⟨(by decide), ?_⟩
      exact (h1.2 c1)
theorem fx_73_none_28 {d : Nat} {a2 : Int32} {fl : Nat → Bool} {n1 n2 : Nat} {p q : Bool} {ad : Nat → Nat} {I : mmI} {J : mmJ} {Q : mmQ} (h : mm_wc d 1004 [.ref 107] ((fl, 0, 0, p, q, ad), I, J) (fun v τ => ∃ r1 I1 J1, v = some (.int r1) ∧ τ = ((fl, 0, 0, p, q, ad), I1, J1) ∧ ((r1 ≤ a2 → Q (some (.int (nI 1))) ((fl, n1, n2, p, q, ad), I1, J1)) ∧ (¬ r1 ≤ a2 → (vp_in ((I1 1 4) + a2) 900 ∧ mm_wc d 1005 [.ref 107, .int a2] ((fl, 0, 0, p, q, ad), I1, J1) (fun v τ => ∃ r2 I2 J2, v = some (.int r2) ∧ τ = ((fl, 0, 0, p, q, ad), I2, J2) ∧ (((I1 2 (((I1 1 4) + a2)).toNatClampNeg) = r2 → mm_w Q (mm_wc d) bk_73 28 [some (.ref 1), some (.ref 107), some (.int (a2 + (nI 1)))] [] ((fl, n1, n2, p, q, ad), I2, J2)) ∧ (¬ (I1 2 (((I1 1 4) + a2)).toNatClampNeg) = r2 → Q (some (.int (nI 0))) ((fl, n1, n2, p, q, ad), I2, J2))))))))) : mm_w Q (mm_wc (d)) bk_73 28 [some (.ref 1), some (.ref 107), some (.int a2)] [] ((fl, n1, n2, p, q, ad), I, J) := by
  refine mm_go [28] 80 ?_
  show mm_wc d 1004 [.ref 107] ((fl, 0, 0, p, q, ad), I, J) _
  refine mm_wcm h ?_
  rintro v τ ⟨r1, I1, J1, rfl, rfl, h1⟩
  refine mm_r1' ⟨rfl, ?_⟩
  show mm_b _ _ _ _ _ [some (.ref 1), some (.ref 107), some (.int a2)] [.int r1, .int a2] ((fl, n1, n2, p, q, ad), I1, J1)
  show (r1 ≤ a2 → _) ∧ (¬ r1 ≤ a2 → _)
  refine ⟨fun c0 => ?_, fun c0 => ?_⟩
  · show mm_u _ _ _ _ _ _ [some (.ref 1), some (.ref 107), some (.int a2)] [] ((fl, n1, n2, p, q, ad), I1, J1)
    show (((nI 1) : Int32) = 0 ∨ ((nI 1) : Int32) = 1) ∧ _
    refine ⟨(by decide), ?_⟩
    exact (h1.1 c0)
  · show mm_b _ _ _ _ _ [some (.ref 1), some (.ref 107), some (.int a2)] [] ((fl, n1, n2, p, q, ad), I1, J1)
    show vp_in ((I1 1 4) + a2) 900 ∧ _
    refine ⟨(h1.2 c0).1, ?_⟩
    show mm_b _ _ _ _ _ [some (.ref 1), some (.ref 107), some (.int a2)] [.int (I1 2 (((I1 1 4) + a2)).toNatClampNeg)] ((fl, n1, n2, p, q, ad), I1, J1)
    show mm_wc d 1005 [.ref 107, .int a2] ((fl, 0, 0, p, q, ad), I1, J1) _
    refine mm_wcm ((h1.2 c0).2) ?_
    rintro v τ ⟨r2, I2, J2, rfl, rfl, h2⟩
    refine mm_r1' ⟨rfl, ?_⟩
    show mm_b _ _ _ _ _ [some (.ref 1), some (.ref 107), some (.int a2)] [.int r2, .int (I1 2 (((I1 1 4) + a2)).toNatClampNeg)] ((fl, n1, n2, p, q, ad), I2, J2)
    show ((I1 2 (((I1 1 4) + a2)).toNatClampNeg) = r2 → _) ∧ (¬ (I1 2 (((I1 1 4) + a2)).toNatClampNeg) = r2 → _)
    refine ⟨fun c1 => ?_, fun c1 => ?_⟩
    · exact (h2.1 c1)
    · show mm_b _ _ _ _ _ [some (.ref 1), some (.ref 107), some (.int a2)] [] ((fl, n1, n2, p, q, ad), I2, J2)
      show (((nI 0) : Int32) = 0 ∨ ((nI 0) : Int32) = 1) ∧ _
      refine ⟨(by decide), ?_⟩
      exact (h2.2 c1)
/- 73 ThreeBreaths$Reader says -/
theorem fx_73_at {d : Nat} {fl : Nat → Bool} {n1 n2 : Nat} {p q : Bool} {ad : Nat → Nat} {I : mmI} {J : mmJ} {Q : mmQ} (h : ((¬ (I 1 3) = (nI 1) → Q (some (.int (nI 0))) ((fl, n1, n2, p, q, ad), I, J)) ∧ ((I 1 3) = (nI 1) → mm_wc d 1004 [.ref 108] ((fl, 0, 0, p, q, ad), I, J) (fun v τ => ∃ r1 I1 J1, v = some (.int r1) ∧ τ = ((fl, 0, 0, p, q, ad), I1, J1) ∧ ((((I 1 5) - (I 1 4)) = r1 → mm_w Q (mm_wc d) bk_73 28 [some (.ref 1), some (.ref 108), some (.int (nI 0))] [] ((fl, n1, n2, p, q, ad), I1, J1)) ∧ (¬ ((I 1 5) - (I 1 4)) = r1 → Q (some (.int (nI 0))) ((fl, n1, n2, p, q, ad), I1, J1))))))) : mm_wc (d + 1) 73 [.ref 1, .ref 108] ((fl, n1, n2, p, q, ad), I, J) Q := by
  refine mm_call (c := 73) rfl rfl ?_
  refine mm_go [28] 80 ?_
  show (¬ (I 1 3) = (nI 1) → _) ∧ ((I 1 3) = (nI 1) → _)
  refine ⟨fun c0 => ?_, fun c0 => ?_⟩
  · show mm_u _ _ _ _ _ _ [some (.ref 1), some (.ref 108), none] [] ((fl, n1, n2, p, q, ad), I, J)
    show (((nI 0) : Int32) = 0 ∨ ((nI 0) : Int32) = 1) ∧ _
    refine ⟨(by decide), ?_⟩
    exact (h.1 c0)
  · show mm_b _ _ _ _ _ [some (.ref 1), some (.ref 108), none] [] ((fl, n1, n2, p, q, ad), I, J)
    show mm_wc d 1004 [.ref 108] ((fl, 0, 0, p, q, ad), I, J) _
    refine mm_wcm (h.2 c0) ?_
    rintro v τ ⟨r1, I1, J1, rfl, rfl, h1⟩
    refine mm_r1' ⟨rfl, ?_⟩
    show mm_b _ _ _ _ _ [some (.ref 1), some (.ref 108), none] [.int r1, .int ((I 1 5) - (I 1 4))] ((fl, n1, n2, p, q, ad), I1, J1)
    show (((I 1 5) - (I 1 4)) = r1 → _) ∧ (¬ ((I 1 5) - (I 1 4)) = r1 → _)
    refine ⟨fun c1 => ?_, fun c1 => ?_⟩
    · exact (h1.1 c1)
    · show mm_b _ _ _ _ _ [some (.ref 1), some (.ref 108), none] [] ((fl, n1, n2, p, q, ad), I1, J1)
      show (((nI 0) : Int32) = 0 ∨ ((nI 0) : Int32) = 1) ∧ _
      refine ⟨(by decide), ?_⟩
      exact (h1.2 c1)
theorem fx_73_at_28 {d : Nat} {a2 : Int32} {fl : Nat → Bool} {n1 n2 : Nat} {p q : Bool} {ad : Nat → Nat} {I : mmI} {J : mmJ} {Q : mmQ} (h : mm_wc d 1004 [.ref 108] ((fl, 0, 0, p, q, ad), I, J) (fun v τ => ∃ r1 I1 J1, v = some (.int r1) ∧ τ = ((fl, 0, 0, p, q, ad), I1, J1) ∧ ((r1 ≤ a2 → Q (some (.int (nI 1))) ((fl, n1, n2, p, q, ad), I1, J1)) ∧ (¬ r1 ≤ a2 → (vp_in ((I1 1 4) + a2) 900 ∧ mm_wc d 1005 [.ref 108, .int a2] ((fl, 0, 0, p, q, ad), I1, J1) (fun v τ => ∃ r2 I2 J2, v = some (.int r2) ∧ τ = ((fl, 0, 0, p, q, ad), I2, J2) ∧ (((I1 2 (((I1 1 4) + a2)).toNatClampNeg) = r2 → mm_w Q (mm_wc d) bk_73 28 [some (.ref 1), some (.ref 108), some (.int (a2 + (nI 1)))] [] ((fl, n1, n2, p, q, ad), I2, J2)) ∧ (¬ (I1 2 (((I1 1 4) + a2)).toNatClampNeg) = r2 → Q (some (.int (nI 0))) ((fl, n1, n2, p, q, ad), I2, J2))))))))) : mm_w Q (mm_wc (d)) bk_73 28 [some (.ref 1), some (.ref 108), some (.int a2)] [] ((fl, n1, n2, p, q, ad), I, J) := by
  refine mm_go [28] 80 ?_
  show mm_wc d 1004 [.ref 108] ((fl, 0, 0, p, q, ad), I, J) _
  refine mm_wcm h ?_
  rintro v τ ⟨r1, I1, J1, rfl, rfl, h1⟩
  refine mm_r1' ⟨rfl, ?_⟩
  show mm_b _ _ _ _ _ [some (.ref 1), some (.ref 108), some (.int a2)] [.int r1, .int a2] ((fl, n1, n2, p, q, ad), I1, J1)
  show (r1 ≤ a2 → _) ∧ (¬ r1 ≤ a2 → _)
  refine ⟨fun c0 => ?_, fun c0 => ?_⟩
  · show mm_u _ _ _ _ _ _ [some (.ref 1), some (.ref 108), some (.int a2)] [] ((fl, n1, n2, p, q, ad), I1, J1)
    show (((nI 1) : Int32) = 0 ∨ ((nI 1) : Int32) = 1) ∧ _
    refine ⟨(by decide), ?_⟩
    exact (h1.1 c0)
  · show mm_b _ _ _ _ _ [some (.ref 1), some (.ref 108), some (.int a2)] [] ((fl, n1, n2, p, q, ad), I1, J1)
    show vp_in ((I1 1 4) + a2) 900 ∧ _
    refine ⟨(h1.2 c0).1, ?_⟩
    show mm_b _ _ _ _ _ [some (.ref 1), some (.ref 108), some (.int a2)] [.int (I1 2 (((I1 1 4) + a2)).toNatClampNeg)] ((fl, n1, n2, p, q, ad), I1, J1)
    show mm_wc d 1005 [.ref 108, .int a2] ((fl, 0, 0, p, q, ad), I1, J1) _
    refine mm_wcm ((h1.2 c0).2) ?_
    rintro v τ ⟨r2, I2, J2, rfl, rfl, h2⟩
    refine mm_r1' ⟨rfl, ?_⟩
    show mm_b _ _ _ _ _ [some (.ref 1), some (.ref 108), some (.int a2)] [.int r2, .int (I1 2 (((I1 1 4) + a2)).toNatClampNeg)] ((fl, n1, n2, p, q, ad), I2, J2)
    show ((I1 2 (((I1 1 4) + a2)).toNatClampNeg) = r2 → _) ∧ (¬ (I1 2 (((I1 1 4) + a2)).toNatClampNeg) = r2 → _)
    refine ⟨fun c1 => ?_, fun c1 => ?_⟩
    · exact (h2.1 c1)
    · show mm_b _ _ _ _ _ [some (.ref 1), some (.ref 108), some (.int a2)] [] ((fl, n1, n2, p, q, ad), I2, J2)
      show (((nI 0) : Int32) = 0 ∨ ((nI 0) : Int32) = 1) ∧ _
      refine ⟨(by decide), ?_⟩
      exact (h2.2 c1)
/- 73 ThreeBreaths$Reader says -/
theorem fx_73_plain {d : Nat} {fl : Nat → Bool} {n1 n2 : Nat} {p q : Bool} {ad : Nat → Nat} {I : mmI} {J : mmJ} {Q : mmQ} (h : ((¬ (I 1 3) = (nI 1) → Q (some (.int (nI 0))) ((fl, n1, n2, p, q, ad), I, J)) ∧ ((I 1 3) = (nI 1) → mm_wc d 1004 [.ref 109] ((fl, 0, 0, p, q, ad), I, J) (fun v τ => ∃ r1 I1 J1, v = some (.int r1) ∧ τ = ((fl, 0, 0, p, q, ad), I1, J1) ∧ ((((I 1 5) - (I 1 4)) = r1 → mm_w Q (mm_wc d) bk_73 28 [some (.ref 1), some (.ref 109), some (.int (nI 0))] [] ((fl, n1, n2, p, q, ad), I1, J1)) ∧ (¬ ((I 1 5) - (I 1 4)) = r1 → Q (some (.int (nI 0))) ((fl, n1, n2, p, q, ad), I1, J1))))))) : mm_wc (d + 1) 73 [.ref 1, .ref 109] ((fl, n1, n2, p, q, ad), I, J) Q := by
  refine mm_call (c := 73) rfl rfl ?_
  refine mm_go [28] 80 ?_
  show (¬ (I 1 3) = (nI 1) → _) ∧ ((I 1 3) = (nI 1) → _)
  refine ⟨fun c0 => ?_, fun c0 => ?_⟩
  · show mm_u _ _ _ _ _ _ [some (.ref 1), some (.ref 109), none] [] ((fl, n1, n2, p, q, ad), I, J)
    show (((nI 0) : Int32) = 0 ∨ ((nI 0) : Int32) = 1) ∧ _
    refine ⟨(by decide), ?_⟩
    exact (h.1 c0)
  · show mm_b _ _ _ _ _ [some (.ref 1), some (.ref 109), none] [] ((fl, n1, n2, p, q, ad), I, J)
    show mm_wc d 1004 [.ref 109] ((fl, 0, 0, p, q, ad), I, J) _
    refine mm_wcm (h.2 c0) ?_
    rintro v τ ⟨r1, I1, J1, rfl, rfl, h1⟩
    refine mm_r1' ⟨rfl, ?_⟩
    show mm_b _ _ _ _ _ [some (.ref 1), some (.ref 109), none] [.int r1, .int ((I 1 5) - (I 1 4))] ((fl, n1, n2, p, q, ad), I1, J1)
    show (((I 1 5) - (I 1 4)) = r1 → _) ∧ (¬ ((I 1 5) - (I 1 4)) = r1 → _)
    refine ⟨fun c1 => ?_, fun c1 => ?_⟩
    · exact (h1.1 c1)
    · show mm_b _ _ _ _ _ [some (.ref 1), some (.ref 109), none] [] ((fl, n1, n2, p, q, ad), I1, J1)
      show (((nI 0) : Int32) = 0 ∨ ((nI 0) : Int32) = 1) ∧ _
      refine ⟨(by decide), ?_⟩
      exact (h1.2 c1)
theorem fx_73_plain_28 {d : Nat} {a2 : Int32} {fl : Nat → Bool} {n1 n2 : Nat} {p q : Bool} {ad : Nat → Nat} {I : mmI} {J : mmJ} {Q : mmQ} (h : mm_wc d 1004 [.ref 109] ((fl, 0, 0, p, q, ad), I, J) (fun v τ => ∃ r1 I1 J1, v = some (.int r1) ∧ τ = ((fl, 0, 0, p, q, ad), I1, J1) ∧ ((r1 ≤ a2 → Q (some (.int (nI 1))) ((fl, n1, n2, p, q, ad), I1, J1)) ∧ (¬ r1 ≤ a2 → (vp_in ((I1 1 4) + a2) 900 ∧ mm_wc d 1005 [.ref 109, .int a2] ((fl, 0, 0, p, q, ad), I1, J1) (fun v τ => ∃ r2 I2 J2, v = some (.int r2) ∧ τ = ((fl, 0, 0, p, q, ad), I2, J2) ∧ (((I1 2 (((I1 1 4) + a2)).toNatClampNeg) = r2 → mm_w Q (mm_wc d) bk_73 28 [some (.ref 1), some (.ref 109), some (.int (a2 + (nI 1)))] [] ((fl, n1, n2, p, q, ad), I2, J2)) ∧ (¬ (I1 2 (((I1 1 4) + a2)).toNatClampNeg) = r2 → Q (some (.int (nI 0))) ((fl, n1, n2, p, q, ad), I2, J2))))))))) : mm_w Q (mm_wc (d)) bk_73 28 [some (.ref 1), some (.ref 109), some (.int a2)] [] ((fl, n1, n2, p, q, ad), I, J) := by
  refine mm_go [28] 80 ?_
  show mm_wc d 1004 [.ref 109] ((fl, 0, 0, p, q, ad), I, J) _
  refine mm_wcm h ?_
  rintro v τ ⟨r1, I1, J1, rfl, rfl, h1⟩
  refine mm_r1' ⟨rfl, ?_⟩
  show mm_b _ _ _ _ _ [some (.ref 1), some (.ref 109), some (.int a2)] [.int r1, .int a2] ((fl, n1, n2, p, q, ad), I1, J1)
  show (r1 ≤ a2 → _) ∧ (¬ r1 ≤ a2 → _)
  refine ⟨fun c0 => ?_, fun c0 => ?_⟩
  · show mm_u _ _ _ _ _ _ [some (.ref 1), some (.ref 109), some (.int a2)] [] ((fl, n1, n2, p, q, ad), I1, J1)
    show (((nI 1) : Int32) = 0 ∨ ((nI 1) : Int32) = 1) ∧ _
    refine ⟨(by decide), ?_⟩
    exact (h1.1 c0)
  · show mm_b _ _ _ _ _ [some (.ref 1), some (.ref 109), some (.int a2)] [] ((fl, n1, n2, p, q, ad), I1, J1)
    show vp_in ((I1 1 4) + a2) 900 ∧ _
    refine ⟨(h1.2 c0).1, ?_⟩
    show mm_b _ _ _ _ _ [some (.ref 1), some (.ref 109), some (.int a2)] [.int (I1 2 (((I1 1 4) + a2)).toNatClampNeg)] ((fl, n1, n2, p, q, ad), I1, J1)
    show mm_wc d 1005 [.ref 109, .int a2] ((fl, 0, 0, p, q, ad), I1, J1) _
    refine mm_wcm ((h1.2 c0).2) ?_
    rintro v τ ⟨r2, I2, J2, rfl, rfl, h2⟩
    refine mm_r1' ⟨rfl, ?_⟩
    show mm_b _ _ _ _ _ [some (.ref 1), some (.ref 109), some (.int a2)] [.int r2, .int (I1 2 (((I1 1 4) + a2)).toNatClampNeg)] ((fl, n1, n2, p, q, ad), I2, J2)
    show ((I1 2 (((I1 1 4) + a2)).toNatClampNeg) = r2 → _) ∧ (¬ (I1 2 (((I1 1 4) + a2)).toNatClampNeg) = r2 → _)
    refine ⟨fun c1 => ?_, fun c1 => ?_⟩
    · exact (h2.1 c1)
    · show mm_b _ _ _ _ _ [some (.ref 1), some (.ref 109), some (.int a2)] [] ((fl, n1, n2, p, q, ad), I2, J2)
      show (((nI 0) : Int32) = 0 ∨ ((nI 0) : Int32) = 1) ∧ _
      refine ⟨(by decide), ?_⟩
      exact (h2.2 c1)
/- 73 ThreeBreaths$Reader says -/
theorem fx_73_tall {d : Nat} {fl : Nat → Bool} {n1 n2 : Nat} {p q : Bool} {ad : Nat → Nat} {I : mmI} {J : mmJ} {Q : mmQ} (h : ((¬ (I 1 3) = (nI 1) → Q (some (.int (nI 0))) ((fl, n1, n2, p, q, ad), I, J)) ∧ ((I 1 3) = (nI 1) → mm_wc d 1004 [.ref 110] ((fl, 0, 0, p, q, ad), I, J) (fun v τ => ∃ r1 I1 J1, v = some (.int r1) ∧ τ = ((fl, 0, 0, p, q, ad), I1, J1) ∧ ((((I 1 5) - (I 1 4)) = r1 → mm_w Q (mm_wc d) bk_73 28 [some (.ref 1), some (.ref 110), some (.int (nI 0))] [] ((fl, n1, n2, p, q, ad), I1, J1)) ∧ (¬ ((I 1 5) - (I 1 4)) = r1 → Q (some (.int (nI 0))) ((fl, n1, n2, p, q, ad), I1, J1))))))) : mm_wc (d + 1) 73 [.ref 1, .ref 110] ((fl, n1, n2, p, q, ad), I, J) Q := by
  refine mm_call (c := 73) rfl rfl ?_
  refine mm_go [28] 80 ?_
  show (¬ (I 1 3) = (nI 1) → _) ∧ ((I 1 3) = (nI 1) → _)
  refine ⟨fun c0 => ?_, fun c0 => ?_⟩
  · show mm_u _ _ _ _ _ _ [some (.ref 1), some (.ref 110), none] [] ((fl, n1, n2, p, q, ad), I, J)
    show (((nI 0) : Int32) = 0 ∨ ((nI 0) : Int32) = 1) ∧ _
    refine ⟨(by decide), ?_⟩
    exact (h.1 c0)
  · show mm_b _ _ _ _ _ [some (.ref 1), some (.ref 110), none] [] ((fl, n1, n2, p, q, ad), I, J)
    show mm_wc d 1004 [.ref 110] ((fl, 0, 0, p, q, ad), I, J) _
    refine mm_wcm (h.2 c0) ?_
    rintro v τ ⟨r1, I1, J1, rfl, rfl, h1⟩
    refine mm_r1' ⟨rfl, ?_⟩
    show mm_b _ _ _ _ _ [some (.ref 1), some (.ref 110), none] [.int r1, .int ((I 1 5) - (I 1 4))] ((fl, n1, n2, p, q, ad), I1, J1)
    show (((I 1 5) - (I 1 4)) = r1 → _) ∧ (¬ ((I 1 5) - (I 1 4)) = r1 → _)
    refine ⟨fun c1 => ?_, fun c1 => ?_⟩
    · exact (h1.1 c1)
    · show mm_b _ _ _ _ _ [some (.ref 1), some (.ref 110), none] [] ((fl, n1, n2, p, q, ad), I1, J1)
      show (((nI 0) : Int32) = 0 ∨ ((nI 0) : Int32) = 1) ∧ _
      refine ⟨(by decide), ?_⟩
      exact (h1.2 c1)
theorem fx_73_tall_28 {d : Nat} {a2 : Int32} {fl : Nat → Bool} {n1 n2 : Nat} {p q : Bool} {ad : Nat → Nat} {I : mmI} {J : mmJ} {Q : mmQ} (h : mm_wc d 1004 [.ref 110] ((fl, 0, 0, p, q, ad), I, J) (fun v τ => ∃ r1 I1 J1, v = some (.int r1) ∧ τ = ((fl, 0, 0, p, q, ad), I1, J1) ∧ ((r1 ≤ a2 → Q (some (.int (nI 1))) ((fl, n1, n2, p, q, ad), I1, J1)) ∧ (¬ r1 ≤ a2 → (vp_in ((I1 1 4) + a2) 900 ∧ mm_wc d 1005 [.ref 110, .int a2] ((fl, 0, 0, p, q, ad), I1, J1) (fun v τ => ∃ r2 I2 J2, v = some (.int r2) ∧ τ = ((fl, 0, 0, p, q, ad), I2, J2) ∧ (((I1 2 (((I1 1 4) + a2)).toNatClampNeg) = r2 → mm_w Q (mm_wc d) bk_73 28 [some (.ref 1), some (.ref 110), some (.int (a2 + (nI 1)))] [] ((fl, n1, n2, p, q, ad), I2, J2)) ∧ (¬ (I1 2 (((I1 1 4) + a2)).toNatClampNeg) = r2 → Q (some (.int (nI 0))) ((fl, n1, n2, p, q, ad), I2, J2))))))))) : mm_w Q (mm_wc (d)) bk_73 28 [some (.ref 1), some (.ref 110), some (.int a2)] [] ((fl, n1, n2, p, q, ad), I, J) := by
  refine mm_go [28] 80 ?_
  show mm_wc d 1004 [.ref 110] ((fl, 0, 0, p, q, ad), I, J) _
  refine mm_wcm h ?_
  rintro v τ ⟨r1, I1, J1, rfl, rfl, h1⟩
  refine mm_r1' ⟨rfl, ?_⟩
  show mm_b _ _ _ _ _ [some (.ref 1), some (.ref 110), some (.int a2)] [.int r1, .int a2] ((fl, n1, n2, p, q, ad), I1, J1)
  show (r1 ≤ a2 → _) ∧ (¬ r1 ≤ a2 → _)
  refine ⟨fun c0 => ?_, fun c0 => ?_⟩
  · show mm_u _ _ _ _ _ _ [some (.ref 1), some (.ref 110), some (.int a2)] [] ((fl, n1, n2, p, q, ad), I1, J1)
    show (((nI 1) : Int32) = 0 ∨ ((nI 1) : Int32) = 1) ∧ _
    refine ⟨(by decide), ?_⟩
    exact (h1.1 c0)
  · show mm_b _ _ _ _ _ [some (.ref 1), some (.ref 110), some (.int a2)] [] ((fl, n1, n2, p, q, ad), I1, J1)
    show vp_in ((I1 1 4) + a2) 900 ∧ _
    refine ⟨(h1.2 c0).1, ?_⟩
    show mm_b _ _ _ _ _ [some (.ref 1), some (.ref 110), some (.int a2)] [.int (I1 2 (((I1 1 4) + a2)).toNatClampNeg)] ((fl, n1, n2, p, q, ad), I1, J1)
    show mm_wc d 1005 [.ref 110, .int a2] ((fl, 0, 0, p, q, ad), I1, J1) _
    refine mm_wcm ((h1.2 c0).2) ?_
    rintro v τ ⟨r2, I2, J2, rfl, rfl, h2⟩
    refine mm_r1' ⟨rfl, ?_⟩
    show mm_b _ _ _ _ _ [some (.ref 1), some (.ref 110), some (.int a2)] [.int r2, .int (I1 2 (((I1 1 4) + a2)).toNatClampNeg)] ((fl, n1, n2, p, q, ad), I2, J2)
    show ((I1 2 (((I1 1 4) + a2)).toNatClampNeg) = r2 → _) ∧ (¬ (I1 2 (((I1 1 4) + a2)).toNatClampNeg) = r2 → _)
    refine ⟨fun c1 => ?_, fun c1 => ?_⟩
    · exact (h2.1 c1)
    · show mm_b _ _ _ _ _ [some (.ref 1), some (.ref 110), some (.int a2)] [] ((fl, n1, n2, p, q, ad), I2, J2)
      show (((nI 0) : Int32) = 0 ∨ ((nI 0) : Int32) = 1) ∧ _
      refine ⟨(by decide), ?_⟩
      exact (h2.2 c1)
/- 73 ThreeBreaths$Reader says -/
theorem fx_73_again {d : Nat} {fl : Nat → Bool} {n1 n2 : Nat} {p q : Bool} {ad : Nat → Nat} {I : mmI} {J : mmJ} {Q : mmQ} (h : ((¬ (I 1 3) = (nI 1) → Q (some (.int (nI 0))) ((fl, n1, n2, p, q, ad), I, J)) ∧ ((I 1 3) = (nI 1) → mm_wc d 1004 [.ref 111] ((fl, 0, 0, p, q, ad), I, J) (fun v τ => ∃ r1 I1 J1, v = some (.int r1) ∧ τ = ((fl, 0, 0, p, q, ad), I1, J1) ∧ ((((I 1 5) - (I 1 4)) = r1 → mm_w Q (mm_wc d) bk_73 28 [some (.ref 1), some (.ref 111), some (.int (nI 0))] [] ((fl, n1, n2, p, q, ad), I1, J1)) ∧ (¬ ((I 1 5) - (I 1 4)) = r1 → Q (some (.int (nI 0))) ((fl, n1, n2, p, q, ad), I1, J1))))))) : mm_wc (d + 1) 73 [.ref 1, .ref 111] ((fl, n1, n2, p, q, ad), I, J) Q := by
  refine mm_call (c := 73) rfl rfl ?_
  refine mm_go [28] 80 ?_
  show (¬ (I 1 3) = (nI 1) → _) ∧ ((I 1 3) = (nI 1) → _)
  refine ⟨fun c0 => ?_, fun c0 => ?_⟩
  · show mm_u _ _ _ _ _ _ [some (.ref 1), some (.ref 111), none] [] ((fl, n1, n2, p, q, ad), I, J)
    show (((nI 0) : Int32) = 0 ∨ ((nI 0) : Int32) = 1) ∧ _
    refine ⟨(by decide), ?_⟩
    exact (h.1 c0)
  · show mm_b _ _ _ _ _ [some (.ref 1), some (.ref 111), none] [] ((fl, n1, n2, p, q, ad), I, J)
    show mm_wc d 1004 [.ref 111] ((fl, 0, 0, p, q, ad), I, J) _
    refine mm_wcm (h.2 c0) ?_
    rintro v τ ⟨r1, I1, J1, rfl, rfl, h1⟩
    refine mm_r1' ⟨rfl, ?_⟩
    show mm_b _ _ _ _ _ [some (.ref 1), some (.ref 111), none] [.int r1, .int ((I 1 5) - (I 1 4))] ((fl, n1, n2, p, q, ad), I1, J1)
    show (((I 1 5) - (I 1 4)) = r1 → _) ∧ (¬ ((I 1 5) - (I 1 4)) = r1 → _)
    refine ⟨fun c1 => ?_, fun c1 => ?_⟩
    · exact (h1.1 c1)
    · show mm_b _ _ _ _ _ [some (.ref 1), some (.ref 111), none] [] ((fl, n1, n2, p, q, ad), I1, J1)
      show (((nI 0) : Int32) = 0 ∨ ((nI 0) : Int32) = 1) ∧ _
      refine ⟨(by decide), ?_⟩
      exact (h1.2 c1)
theorem fx_73_again_28 {d : Nat} {a2 : Int32} {fl : Nat → Bool} {n1 n2 : Nat} {p q : Bool} {ad : Nat → Nat} {I : mmI} {J : mmJ} {Q : mmQ} (h : mm_wc d 1004 [.ref 111] ((fl, 0, 0, p, q, ad), I, J) (fun v τ => ∃ r1 I1 J1, v = some (.int r1) ∧ τ = ((fl, 0, 0, p, q, ad), I1, J1) ∧ ((r1 ≤ a2 → Q (some (.int (nI 1))) ((fl, n1, n2, p, q, ad), I1, J1)) ∧ (¬ r1 ≤ a2 → (vp_in ((I1 1 4) + a2) 900 ∧ mm_wc d 1005 [.ref 111, .int a2] ((fl, 0, 0, p, q, ad), I1, J1) (fun v τ => ∃ r2 I2 J2, v = some (.int r2) ∧ τ = ((fl, 0, 0, p, q, ad), I2, J2) ∧ (((I1 2 (((I1 1 4) + a2)).toNatClampNeg) = r2 → mm_w Q (mm_wc d) bk_73 28 [some (.ref 1), some (.ref 111), some (.int (a2 + (nI 1)))] [] ((fl, n1, n2, p, q, ad), I2, J2)) ∧ (¬ (I1 2 (((I1 1 4) + a2)).toNatClampNeg) = r2 → Q (some (.int (nI 0))) ((fl, n1, n2, p, q, ad), I2, J2))))))))) : mm_w Q (mm_wc (d)) bk_73 28 [some (.ref 1), some (.ref 111), some (.int a2)] [] ((fl, n1, n2, p, q, ad), I, J) := by
  refine mm_go [28] 80 ?_
  show mm_wc d 1004 [.ref 111] ((fl, 0, 0, p, q, ad), I, J) _
  refine mm_wcm h ?_
  rintro v τ ⟨r1, I1, J1, rfl, rfl, h1⟩
  refine mm_r1' ⟨rfl, ?_⟩
  show mm_b _ _ _ _ _ [some (.ref 1), some (.ref 111), some (.int a2)] [.int r1, .int a2] ((fl, n1, n2, p, q, ad), I1, J1)
  show (r1 ≤ a2 → _) ∧ (¬ r1 ≤ a2 → _)
  refine ⟨fun c0 => ?_, fun c0 => ?_⟩
  · show mm_u _ _ _ _ _ _ [some (.ref 1), some (.ref 111), some (.int a2)] [] ((fl, n1, n2, p, q, ad), I1, J1)
    show (((nI 1) : Int32) = 0 ∨ ((nI 1) : Int32) = 1) ∧ _
    refine ⟨(by decide), ?_⟩
    exact (h1.1 c0)
  · show mm_b _ _ _ _ _ [some (.ref 1), some (.ref 111), some (.int a2)] [] ((fl, n1, n2, p, q, ad), I1, J1)
    show vp_in ((I1 1 4) + a2) 900 ∧ _
    refine ⟨(h1.2 c0).1, ?_⟩
    show mm_b _ _ _ _ _ [some (.ref 1), some (.ref 111), some (.int a2)] [.int (I1 2 (((I1 1 4) + a2)).toNatClampNeg)] ((fl, n1, n2, p, q, ad), I1, J1)
    show mm_wc d 1005 [.ref 111, .int a2] ((fl, 0, 0, p, q, ad), I1, J1) _
    refine mm_wcm ((h1.2 c0).2) ?_
    rintro v τ ⟨r2, I2, J2, rfl, rfl, h2⟩
    refine mm_r1' ⟨rfl, ?_⟩
    show mm_b _ _ _ _ _ [some (.ref 1), some (.ref 111), some (.int a2)] [.int r2, .int (I1 2 (((I1 1 4) + a2)).toNatClampNeg)] ((fl, n1, n2, p, q, ad), I2, J2)
    show ((I1 2 (((I1 1 4) + a2)).toNatClampNeg) = r2 → _) ∧ (¬ (I1 2 (((I1 1 4) + a2)).toNatClampNeg) = r2 → _)
    refine ⟨fun c1 => ?_, fun c1 => ?_⟩
    · exact (h2.1 c1)
    · show mm_b _ _ _ _ _ [some (.ref 1), some (.ref 111), some (.int a2)] [] ((fl, n1, n2, p, q, ad), I2, J2)
      show (((nI 0) : Int32) = 0 ∨ ((nI 0) : Int32) = 1) ∧ _
      refine ⟨(by decide), ?_⟩
      exact (h2.2 c1)
/- 73 ThreeBreaths$Reader says -/
theorem fx_73_trick {d : Nat} {fl : Nat → Bool} {n1 n2 : Nat} {p q : Bool} {ad : Nat → Nat} {I : mmI} {J : mmJ} {Q : mmQ} (h : ((¬ (I 1 3) = (nI 1) → Q (some (.int (nI 0))) ((fl, n1, n2, p, q, ad), I, J)) ∧ ((I 1 3) = (nI 1) → mm_wc d 1004 [.ref 112] ((fl, 0, 0, p, q, ad), I, J) (fun v τ => ∃ r1 I1 J1, v = some (.int r1) ∧ τ = ((fl, 0, 0, p, q, ad), I1, J1) ∧ ((((I 1 5) - (I 1 4)) = r1 → mm_w Q (mm_wc d) bk_73 28 [some (.ref 1), some (.ref 112), some (.int (nI 0))] [] ((fl, n1, n2, p, q, ad), I1, J1)) ∧ (¬ ((I 1 5) - (I 1 4)) = r1 → Q (some (.int (nI 0))) ((fl, n1, n2, p, q, ad), I1, J1))))))) : mm_wc (d + 1) 73 [.ref 1, .ref 112] ((fl, n1, n2, p, q, ad), I, J) Q := by
  refine mm_call (c := 73) rfl rfl ?_
  refine mm_go [28] 80 ?_
  show (¬ (I 1 3) = (nI 1) → _) ∧ ((I 1 3) = (nI 1) → _)
  refine ⟨fun c0 => ?_, fun c0 => ?_⟩
  · show mm_u _ _ _ _ _ _ [some (.ref 1), some (.ref 112), none] [] ((fl, n1, n2, p, q, ad), I, J)
    show (((nI 0) : Int32) = 0 ∨ ((nI 0) : Int32) = 1) ∧ _
    refine ⟨(by decide), ?_⟩
    exact (h.1 c0)
  · show mm_b _ _ _ _ _ [some (.ref 1), some (.ref 112), none] [] ((fl, n1, n2, p, q, ad), I, J)
    show mm_wc d 1004 [.ref 112] ((fl, 0, 0, p, q, ad), I, J) _
    refine mm_wcm (h.2 c0) ?_
    rintro v τ ⟨r1, I1, J1, rfl, rfl, h1⟩
    refine mm_r1' ⟨rfl, ?_⟩
    show mm_b _ _ _ _ _ [some (.ref 1), some (.ref 112), none] [.int r1, .int ((I 1 5) - (I 1 4))] ((fl, n1, n2, p, q, ad), I1, J1)
    show (((I 1 5) - (I 1 4)) = r1 → _) ∧ (¬ ((I 1 5) - (I 1 4)) = r1 → _)
    refine ⟨fun c1 => ?_, fun c1 => ?_⟩
    · exact (h1.1 c1)
    · show mm_b _ _ _ _ _ [some (.ref 1), some (.ref 112), none] [] ((fl, n1, n2, p, q, ad), I1, J1)
      show (((nI 0) : Int32) = 0 ∨ ((nI 0) : Int32) = 1) ∧ _
      refine ⟨(by decide), ?_⟩
      exact (h1.2 c1)
theorem fx_73_trick_28 {d : Nat} {a2 : Int32} {fl : Nat → Bool} {n1 n2 : Nat} {p q : Bool} {ad : Nat → Nat} {I : mmI} {J : mmJ} {Q : mmQ} (h : mm_wc d 1004 [.ref 112] ((fl, 0, 0, p, q, ad), I, J) (fun v τ => ∃ r1 I1 J1, v = some (.int r1) ∧ τ = ((fl, 0, 0, p, q, ad), I1, J1) ∧ ((r1 ≤ a2 → Q (some (.int (nI 1))) ((fl, n1, n2, p, q, ad), I1, J1)) ∧ (¬ r1 ≤ a2 → (vp_in ((I1 1 4) + a2) 900 ∧ mm_wc d 1005 [.ref 112, .int a2] ((fl, 0, 0, p, q, ad), I1, J1) (fun v τ => ∃ r2 I2 J2, v = some (.int r2) ∧ τ = ((fl, 0, 0, p, q, ad), I2, J2) ∧ (((I1 2 (((I1 1 4) + a2)).toNatClampNeg) = r2 → mm_w Q (mm_wc d) bk_73 28 [some (.ref 1), some (.ref 112), some (.int (a2 + (nI 1)))] [] ((fl, n1, n2, p, q, ad), I2, J2)) ∧ (¬ (I1 2 (((I1 1 4) + a2)).toNatClampNeg) = r2 → Q (some (.int (nI 0))) ((fl, n1, n2, p, q, ad), I2, J2))))))))) : mm_w Q (mm_wc (d)) bk_73 28 [some (.ref 1), some (.ref 112), some (.int a2)] [] ((fl, n1, n2, p, q, ad), I, J) := by
  refine mm_go [28] 80 ?_
  show mm_wc d 1004 [.ref 112] ((fl, 0, 0, p, q, ad), I, J) _
  refine mm_wcm h ?_
  rintro v τ ⟨r1, I1, J1, rfl, rfl, h1⟩
  refine mm_r1' ⟨rfl, ?_⟩
  show mm_b _ _ _ _ _ [some (.ref 1), some (.ref 112), some (.int a2)] [.int r1, .int a2] ((fl, n1, n2, p, q, ad), I1, J1)
  show (r1 ≤ a2 → _) ∧ (¬ r1 ≤ a2 → _)
  refine ⟨fun c0 => ?_, fun c0 => ?_⟩
  · show mm_u _ _ _ _ _ _ [some (.ref 1), some (.ref 112), some (.int a2)] [] ((fl, n1, n2, p, q, ad), I1, J1)
    show (((nI 1) : Int32) = 0 ∨ ((nI 1) : Int32) = 1) ∧ _
    refine ⟨(by decide), ?_⟩
    exact (h1.1 c0)
  · show mm_b _ _ _ _ _ [some (.ref 1), some (.ref 112), some (.int a2)] [] ((fl, n1, n2, p, q, ad), I1, J1)
    show vp_in ((I1 1 4) + a2) 900 ∧ _
    refine ⟨(h1.2 c0).1, ?_⟩
    show mm_b _ _ _ _ _ [some (.ref 1), some (.ref 112), some (.int a2)] [.int (I1 2 (((I1 1 4) + a2)).toNatClampNeg)] ((fl, n1, n2, p, q, ad), I1, J1)
    show mm_wc d 1005 [.ref 112, .int a2] ((fl, 0, 0, p, q, ad), I1, J1) _
    refine mm_wcm ((h1.2 c0).2) ?_
    rintro v τ ⟨r2, I2, J2, rfl, rfl, h2⟩
    refine mm_r1' ⟨rfl, ?_⟩
    show mm_b _ _ _ _ _ [some (.ref 1), some (.ref 112), some (.int a2)] [.int r2, .int (I1 2 (((I1 1 4) + a2)).toNatClampNeg)] ((fl, n1, n2, p, q, ad), I2, J2)
    show ((I1 2 (((I1 1 4) + a2)).toNatClampNeg) = r2 → _) ∧ (¬ (I1 2 (((I1 1 4) + a2)).toNatClampNeg) = r2 → _)
    refine ⟨fun c1 => ?_, fun c1 => ?_⟩
    · exact (h2.1 c1)
    · show mm_b _ _ _ _ _ [some (.ref 1), some (.ref 112), some (.int a2)] [] ((fl, n1, n2, p, q, ad), I2, J2)
      show (((nI 0) : Int32) = 0 ∨ ((nI 0) : Int32) = 1) ∧ _
      refine ⟨(by decide), ?_⟩
      exact (h2.2 c1)
/- 73 ThreeBreaths$Reader says -/
theorem fx_73_reach {d : Nat} {fl : Nat → Bool} {n1 n2 : Nat} {p q : Bool} {ad : Nat → Nat} {I : mmI} {J : mmJ} {Q : mmQ} (h : ((¬ (I 1 3) = (nI 1) → Q (some (.int (nI 0))) ((fl, n1, n2, p, q, ad), I, J)) ∧ ((I 1 3) = (nI 1) → mm_wc d 1004 [.ref 113] ((fl, 0, 0, p, q, ad), I, J) (fun v τ => ∃ r1 I1 J1, v = some (.int r1) ∧ τ = ((fl, 0, 0, p, q, ad), I1, J1) ∧ ((((I 1 5) - (I 1 4)) = r1 → mm_w Q (mm_wc d) bk_73 28 [some (.ref 1), some (.ref 113), some (.int (nI 0))] [] ((fl, n1, n2, p, q, ad), I1, J1)) ∧ (¬ ((I 1 5) - (I 1 4)) = r1 → Q (some (.int (nI 0))) ((fl, n1, n2, p, q, ad), I1, J1))))))) : mm_wc (d + 1) 73 [.ref 1, .ref 113] ((fl, n1, n2, p, q, ad), I, J) Q := by
  refine mm_call (c := 73) rfl rfl ?_
  refine mm_go [28] 80 ?_
  show (¬ (I 1 3) = (nI 1) → _) ∧ ((I 1 3) = (nI 1) → _)
  refine ⟨fun c0 => ?_, fun c0 => ?_⟩
  · show mm_u _ _ _ _ _ _ [some (.ref 1), some (.ref 113), none] [] ((fl, n1, n2, p, q, ad), I, J)
    show (((nI 0) : Int32) = 0 ∨ ((nI 0) : Int32) = 1) ∧ _
    refine ⟨(by decide), ?_⟩
    exact (h.1 c0)
  · show mm_b _ _ _ _ _ [some (.ref 1), some (.ref 113), none] [] ((fl, n1, n2, p, q, ad), I, J)
    show mm_wc d 1004 [.ref 113] ((fl, 0, 0, p, q, ad), I, J) _
    refine mm_wcm (h.2 c0) ?_
    rintro v τ ⟨r1, I1, J1, rfl, rfl, h1⟩
    refine mm_r1' ⟨rfl, ?_⟩
    show mm_b _ _ _ _ _ [some (.ref 1), some (.ref 113), none] [.int r1, .int ((I 1 5) - (I 1 4))] ((fl, n1, n2, p, q, ad), I1, J1)
    show (((I 1 5) - (I 1 4)) = r1 → _) ∧ (¬ ((I 1 5) - (I 1 4)) = r1 → _)
    refine ⟨fun c1 => ?_, fun c1 => ?_⟩
    · exact (h1.1 c1)
    · show mm_b _ _ _ _ _ [some (.ref 1), some (.ref 113), none] [] ((fl, n1, n2, p, q, ad), I1, J1)
      show (((nI 0) : Int32) = 0 ∨ ((nI 0) : Int32) = 1) ∧ _
      refine ⟨(by decide), ?_⟩
      exact (h1.2 c1)
theorem fx_73_reach_28 {d : Nat} {a2 : Int32} {fl : Nat → Bool} {n1 n2 : Nat} {p q : Bool} {ad : Nat → Nat} {I : mmI} {J : mmJ} {Q : mmQ} (h : mm_wc d 1004 [.ref 113] ((fl, 0, 0, p, q, ad), I, J) (fun v τ => ∃ r1 I1 J1, v = some (.int r1) ∧ τ = ((fl, 0, 0, p, q, ad), I1, J1) ∧ ((r1 ≤ a2 → Q (some (.int (nI 1))) ((fl, n1, n2, p, q, ad), I1, J1)) ∧ (¬ r1 ≤ a2 → (vp_in ((I1 1 4) + a2) 900 ∧ mm_wc d 1005 [.ref 113, .int a2] ((fl, 0, 0, p, q, ad), I1, J1) (fun v τ => ∃ r2 I2 J2, v = some (.int r2) ∧ τ = ((fl, 0, 0, p, q, ad), I2, J2) ∧ (((I1 2 (((I1 1 4) + a2)).toNatClampNeg) = r2 → mm_w Q (mm_wc d) bk_73 28 [some (.ref 1), some (.ref 113), some (.int (a2 + (nI 1)))] [] ((fl, n1, n2, p, q, ad), I2, J2)) ∧ (¬ (I1 2 (((I1 1 4) + a2)).toNatClampNeg) = r2 → Q (some (.int (nI 0))) ((fl, n1, n2, p, q, ad), I2, J2))))))))) : mm_w Q (mm_wc (d)) bk_73 28 [some (.ref 1), some (.ref 113), some (.int a2)] [] ((fl, n1, n2, p, q, ad), I, J) := by
  refine mm_go [28] 80 ?_
  show mm_wc d 1004 [.ref 113] ((fl, 0, 0, p, q, ad), I, J) _
  refine mm_wcm h ?_
  rintro v τ ⟨r1, I1, J1, rfl, rfl, h1⟩
  refine mm_r1' ⟨rfl, ?_⟩
  show mm_b _ _ _ _ _ [some (.ref 1), some (.ref 113), some (.int a2)] [.int r1, .int a2] ((fl, n1, n2, p, q, ad), I1, J1)
  show (r1 ≤ a2 → _) ∧ (¬ r1 ≤ a2 → _)
  refine ⟨fun c0 => ?_, fun c0 => ?_⟩
  · show mm_u _ _ _ _ _ _ [some (.ref 1), some (.ref 113), some (.int a2)] [] ((fl, n1, n2, p, q, ad), I1, J1)
    show (((nI 1) : Int32) = 0 ∨ ((nI 1) : Int32) = 1) ∧ _
    refine ⟨(by decide), ?_⟩
    exact (h1.1 c0)
  · show mm_b _ _ _ _ _ [some (.ref 1), some (.ref 113), some (.int a2)] [] ((fl, n1, n2, p, q, ad), I1, J1)
    show vp_in ((I1 1 4) + a2) 900 ∧ _
    refine ⟨(h1.2 c0).1, ?_⟩
    show mm_b _ _ _ _ _ [some (.ref 1), some (.ref 113), some (.int a2)] [.int (I1 2 (((I1 1 4) + a2)).toNatClampNeg)] ((fl, n1, n2, p, q, ad), I1, J1)
    show mm_wc d 1005 [.ref 113, .int a2] ((fl, 0, 0, p, q, ad), I1, J1) _
    refine mm_wcm ((h1.2 c0).2) ?_
    rintro v τ ⟨r2, I2, J2, rfl, rfl, h2⟩
    refine mm_r1' ⟨rfl, ?_⟩
    show mm_b _ _ _ _ _ [some (.ref 1), some (.ref 113), some (.int a2)] [.int r2, .int (I1 2 (((I1 1 4) + a2)).toNatClampNeg)] ((fl, n1, n2, p, q, ad), I2, J2)
    show ((I1 2 (((I1 1 4) + a2)).toNatClampNeg) = r2 → _) ∧ (¬ (I1 2 (((I1 1 4) + a2)).toNatClampNeg) = r2 → _)
    refine ⟨fun c1 => ?_, fun c1 => ?_⟩
    · exact (h2.1 c1)
    · show mm_b _ _ _ _ _ [some (.ref 1), some (.ref 113), some (.int a2)] [] ((fl, n1, n2, p, q, ad), I2, J2)
      show (((nI 0) : Int32) = 0 ∨ ((nI 0) : Int32) = 1) ∧ _
      refine ⟨(by decide), ?_⟩
      exact (h2.2 c1)
/- 73 ThreeBreaths$Reader says -/
theorem fx_73_spread {d : Nat} {fl : Nat → Bool} {n1 n2 : Nat} {p q : Bool} {ad : Nat → Nat} {I : mmI} {J : mmJ} {Q : mmQ} (h : ((¬ (I 1 3) = (nI 1) → Q (some (.int (nI 0))) ((fl, n1, n2, p, q, ad), I, J)) ∧ ((I 1 3) = (nI 1) → mm_wc d 1004 [.ref 114] ((fl, 0, 0, p, q, ad), I, J) (fun v τ => ∃ r1 I1 J1, v = some (.int r1) ∧ τ = ((fl, 0, 0, p, q, ad), I1, J1) ∧ ((((I 1 5) - (I 1 4)) = r1 → mm_w Q (mm_wc d) bk_73 28 [some (.ref 1), some (.ref 114), some (.int (nI 0))] [] ((fl, n1, n2, p, q, ad), I1, J1)) ∧ (¬ ((I 1 5) - (I 1 4)) = r1 → Q (some (.int (nI 0))) ((fl, n1, n2, p, q, ad), I1, J1))))))) : mm_wc (d + 1) 73 [.ref 1, .ref 114] ((fl, n1, n2, p, q, ad), I, J) Q := by
  refine mm_call (c := 73) rfl rfl ?_
  refine mm_go [28] 80 ?_
  show (¬ (I 1 3) = (nI 1) → _) ∧ ((I 1 3) = (nI 1) → _)
  refine ⟨fun c0 => ?_, fun c0 => ?_⟩
  · show mm_u _ _ _ _ _ _ [some (.ref 1), some (.ref 114), none] [] ((fl, n1, n2, p, q, ad), I, J)
    show (((nI 0) : Int32) = 0 ∨ ((nI 0) : Int32) = 1) ∧ _
    refine ⟨(by decide), ?_⟩
    exact (h.1 c0)
  · show mm_b _ _ _ _ _ [some (.ref 1), some (.ref 114), none] [] ((fl, n1, n2, p, q, ad), I, J)
    show mm_wc d 1004 [.ref 114] ((fl, 0, 0, p, q, ad), I, J) _
    refine mm_wcm (h.2 c0) ?_
    rintro v τ ⟨r1, I1, J1, rfl, rfl, h1⟩
    refine mm_r1' ⟨rfl, ?_⟩
    show mm_b _ _ _ _ _ [some (.ref 1), some (.ref 114), none] [.int r1, .int ((I 1 5) - (I 1 4))] ((fl, n1, n2, p, q, ad), I1, J1)
    show (((I 1 5) - (I 1 4)) = r1 → _) ∧ (¬ ((I 1 5) - (I 1 4)) = r1 → _)
    refine ⟨fun c1 => ?_, fun c1 => ?_⟩
    · exact (h1.1 c1)
    · show mm_b _ _ _ _ _ [some (.ref 1), some (.ref 114), none] [] ((fl, n1, n2, p, q, ad), I1, J1)
      show (((nI 0) : Int32) = 0 ∨ ((nI 0) : Int32) = 1) ∧ _
      refine ⟨(by decide), ?_⟩
      exact (h1.2 c1)
theorem fx_73_spread_28 {d : Nat} {a2 : Int32} {fl : Nat → Bool} {n1 n2 : Nat} {p q : Bool} {ad : Nat → Nat} {I : mmI} {J : mmJ} {Q : mmQ} (h : mm_wc d 1004 [.ref 114] ((fl, 0, 0, p, q, ad), I, J) (fun v τ => ∃ r1 I1 J1, v = some (.int r1) ∧ τ = ((fl, 0, 0, p, q, ad), I1, J1) ∧ ((r1 ≤ a2 → Q (some (.int (nI 1))) ((fl, n1, n2, p, q, ad), I1, J1)) ∧ (¬ r1 ≤ a2 → (vp_in ((I1 1 4) + a2) 900 ∧ mm_wc d 1005 [.ref 114, .int a2] ((fl, 0, 0, p, q, ad), I1, J1) (fun v τ => ∃ r2 I2 J2, v = some (.int r2) ∧ τ = ((fl, 0, 0, p, q, ad), I2, J2) ∧ (((I1 2 (((I1 1 4) + a2)).toNatClampNeg) = r2 → mm_w Q (mm_wc d) bk_73 28 [some (.ref 1), some (.ref 114), some (.int (a2 + (nI 1)))] [] ((fl, n1, n2, p, q, ad), I2, J2)) ∧ (¬ (I1 2 (((I1 1 4) + a2)).toNatClampNeg) = r2 → Q (some (.int (nI 0))) ((fl, n1, n2, p, q, ad), I2, J2))))))))) : mm_w Q (mm_wc (d)) bk_73 28 [some (.ref 1), some (.ref 114), some (.int a2)] [] ((fl, n1, n2, p, q, ad), I, J) := by
  refine mm_go [28] 80 ?_
  show mm_wc d 1004 [.ref 114] ((fl, 0, 0, p, q, ad), I, J) _
  refine mm_wcm h ?_
  rintro v τ ⟨r1, I1, J1, rfl, rfl, h1⟩
  refine mm_r1' ⟨rfl, ?_⟩
  show mm_b _ _ _ _ _ [some (.ref 1), some (.ref 114), some (.int a2)] [.int r1, .int a2] ((fl, n1, n2, p, q, ad), I1, J1)
  show (r1 ≤ a2 → _) ∧ (¬ r1 ≤ a2 → _)
  refine ⟨fun c0 => ?_, fun c0 => ?_⟩
  · show mm_u _ _ _ _ _ _ [some (.ref 1), some (.ref 114), some (.int a2)] [] ((fl, n1, n2, p, q, ad), I1, J1)
    show (((nI 1) : Int32) = 0 ∨ ((nI 1) : Int32) = 1) ∧ _
    refine ⟨(by decide), ?_⟩
    exact (h1.1 c0)
  · show mm_b _ _ _ _ _ [some (.ref 1), some (.ref 114), some (.int a2)] [] ((fl, n1, n2, p, q, ad), I1, J1)
    show vp_in ((I1 1 4) + a2) 900 ∧ _
    refine ⟨(h1.2 c0).1, ?_⟩
    show mm_b _ _ _ _ _ [some (.ref 1), some (.ref 114), some (.int a2)] [.int (I1 2 (((I1 1 4) + a2)).toNatClampNeg)] ((fl, n1, n2, p, q, ad), I1, J1)
    show mm_wc d 1005 [.ref 114, .int a2] ((fl, 0, 0, p, q, ad), I1, J1) _
    refine mm_wcm ((h1.2 c0).2) ?_
    rintro v τ ⟨r2, I2, J2, rfl, rfl, h2⟩
    refine mm_r1' ⟨rfl, ?_⟩
    show mm_b _ _ _ _ _ [some (.ref 1), some (.ref 114), some (.int a2)] [.int r2, .int (I1 2 (((I1 1 4) + a2)).toNatClampNeg)] ((fl, n1, n2, p, q, ad), I2, J2)
    show ((I1 2 (((I1 1 4) + a2)).toNatClampNeg) = r2 → _) ∧ (¬ (I1 2 (((I1 1 4) + a2)).toNatClampNeg) = r2 → _)
    refine ⟨fun c1 => ?_, fun c1 => ?_⟩
    · exact (h2.1 c1)
    · show mm_b _ _ _ _ _ [some (.ref 1), some (.ref 114), some (.int a2)] [] ((fl, n1, n2, p, q, ad), I2, J2)
      show (((nI 0) : Int32) = 0 ∨ ((nI 0) : Int32) = 1) ∧ _
      refine ⟨(by decide), ?_⟩
      exact (h2.2 c1)
/- 74 ThreeBreaths$Reader takeWord -/
theorem fx_74_near {d : Nat} {fl : Nat → Bool} {n1 n2 : Nat} {p q : Bool} {ad : Nat → Nat} {I : mmI} {J : mmJ} {Q : mmQ} (h : mm_wc d 73 [.ref 1, .ref 99] ((fl, 0, 0, p, q, ad), I, J) (fun v τ => ∃ r1 I1 J1, v = some (.int r1) ∧ τ = ((fl, 0, 0, p, q, ad), I1, J1) ∧ ((¬ r1 = (nI 0) → mm_wc d 77 [.ref 1] ((fl, 0, 0, p, q, ad), I1, J1) (fun v τ => ∃ I2 J2, v = none ∧ τ = ((fl, 0, 0, p, q, ad), I2, J2) ∧ Q (some (.int (nI 1))) ((fl, n1, n2, p, q, ad), I2, J2))) ∧ (r1 = (nI 0) → mm_wc d 60 [.ref 1, .int (nI 1)] ((fl, 0, 0, p, q, ad), I1, J1) (fun v τ => ∃ r3 I3 J3, v = some (.int r3) ∧ τ = ((fl, 0, 0, p, q, ad), I3, J3) ∧ ((r3 = 0 ∨ r3 = 1) ∧ Q (some (.int r3)) ((fl, n1, n2, p, q, ad), I3, J3))))))) : mm_wc (d + 1) 74 [.ref 1, .ref 99] ((fl, n1, n2, p, q, ad), I, J) Q := by
  refine mm_call (c := 74) rfl rfl ?_
  refine mm_go [] 80 ?_
  show mm_wc d 73 [.ref 1, .ref 99] ((fl, 0, 0, p, q, ad), I, J) _
  refine mm_wcm h ?_
  rintro v τ ⟨r1, I1, J1, rfl, rfl, h1⟩
  refine mm_r1' ⟨rfl, ?_⟩
  show mm_b _ _ _ _ _ [some (.ref 1), some (.ref 99)] [.int r1] ((fl, n1, n2, p, q, ad), I1, J1)
  show (¬ r1 = (nI 0) → _) ∧ (r1 = (nI 0) → _)
  refine ⟨fun c0 => ?_, fun c0 => ?_⟩
  · show mm_u _ _ _ _ _ _ [some (.ref 1), some (.ref 99)] [] ((fl, n1, n2, p, q, ad), I1, J1)
    show mm_wc d 77 [.ref 1] ((fl, 0, 0, p, q, ad), I1, J1) _
    refine mm_wcm (h1.1 c0) ?_
    rintro v τ ⟨I2, J2, rfl, rfl, h2⟩
    refine mm_r0' ⟨rfl, ?_⟩
    show mm_b _ _ _ _ _ [some (.ref 1), none] [] ((fl, n1, n2, p, q, ad), I2, J2)
    show (((nI 1) : Int32) = 0 ∨ ((nI 1) : Int32) = 1) ∧ _
    refine ⟨(by decide), ?_⟩
    exact h2
  · show mm_b _ _ _ _ _ [some (.ref 1), some (.ref 99)] [] ((fl, n1, n2, p, q, ad), I1, J1)
    show mm_wc d 60 [.ref 1, .int (nI 1)] ((fl, 0, 0, p, q, ad), I1, J1) _
    refine mm_wcm (h1.2 c0) ?_
    rintro v τ ⟨r3, I3, J3, rfl, rfl, h3⟩
    refine mm_r1' ⟨rfl, ?_⟩
    show mm_b _ _ _ _ _ [some (.ref 1), some (.ref 99)] [.int r3] ((fl, n1, n2, p, q, ad), I3, J3)
    show (r3 = 0 ∨ r3 = 1) ∧ _
    refine ⟨h3.1, ?_⟩
    exact h3.2
/- 74 ThreeBreaths$Reader takeWord -/
theorem fx_74_wax {d : Nat} {fl : Nat → Bool} {n1 n2 : Nat} {p q : Bool} {ad : Nat → Nat} {I : mmI} {J : mmJ} {Q : mmQ} (h : mm_wc d 73 [.ref 1, .ref 100] ((fl, 0, 0, p, q, ad), I, J) (fun v τ => ∃ r1 I1 J1, v = some (.int r1) ∧ τ = ((fl, 0, 0, p, q, ad), I1, J1) ∧ ((¬ r1 = (nI 0) → mm_wc d 77 [.ref 1] ((fl, 0, 0, p, q, ad), I1, J1) (fun v τ => ∃ I2 J2, v = none ∧ τ = ((fl, 0, 0, p, q, ad), I2, J2) ∧ Q (some (.int (nI 1))) ((fl, n1, n2, p, q, ad), I2, J2))) ∧ (r1 = (nI 0) → mm_wc d 60 [.ref 1, .int (nI 1)] ((fl, 0, 0, p, q, ad), I1, J1) (fun v τ => ∃ r3 I3 J3, v = some (.int r3) ∧ τ = ((fl, 0, 0, p, q, ad), I3, J3) ∧ ((r3 = 0 ∨ r3 = 1) ∧ Q (some (.int r3)) ((fl, n1, n2, p, q, ad), I3, J3))))))) : mm_wc (d + 1) 74 [.ref 1, .ref 100] ((fl, n1, n2, p, q, ad), I, J) Q := by
  refine mm_call (c := 74) rfl rfl ?_
  refine mm_go [] 80 ?_
  show mm_wc d 73 [.ref 1, .ref 100] ((fl, 0, 0, p, q, ad), I, J) _
  refine mm_wcm h ?_
  rintro v τ ⟨r1, I1, J1, rfl, rfl, h1⟩
  refine mm_r1' ⟨rfl, ?_⟩
  show mm_b _ _ _ _ _ [some (.ref 1), some (.ref 100)] [.int r1] ((fl, n1, n2, p, q, ad), I1, J1)
  show (¬ r1 = (nI 0) → _) ∧ (r1 = (nI 0) → _)
  refine ⟨fun c0 => ?_, fun c0 => ?_⟩
  · show mm_u _ _ _ _ _ _ [some (.ref 1), some (.ref 100)] [] ((fl, n1, n2, p, q, ad), I1, J1)
    show mm_wc d 77 [.ref 1] ((fl, 0, 0, p, q, ad), I1, J1) _
    refine mm_wcm (h1.1 c0) ?_
    rintro v τ ⟨I2, J2, rfl, rfl, h2⟩
    refine mm_r0' ⟨rfl, ?_⟩
    show mm_b _ _ _ _ _ [some (.ref 1), none] [] ((fl, n1, n2, p, q, ad), I2, J2)
    show (((nI 1) : Int32) = 0 ∨ ((nI 1) : Int32) = 1) ∧ _
    refine ⟨(by decide), ?_⟩
    exact h2
  · show mm_b _ _ _ _ _ [some (.ref 1), some (.ref 100)] [] ((fl, n1, n2, p, q, ad), I1, J1)
    show mm_wc d 60 [.ref 1, .int (nI 1)] ((fl, 0, 0, p, q, ad), I1, J1) _
    refine mm_wcm (h1.2 c0) ?_
    rintro v τ ⟨r3, I3, J3, rfl, rfl, h3⟩
    refine mm_r1' ⟨rfl, ?_⟩
    show mm_b _ _ _ _ _ [some (.ref 1), some (.ref 100)] [.int r3] ((fl, n1, n2, p, q, ad), I3, J3)
    show (r3 = 0 ∨ r3 = 1) ∧ _
    refine ⟨h3.1, ?_⟩
    exact h3.2
/- 74 ThreeBreaths$Reader takeWord -/
theorem fx_74_at {d : Nat} {fl : Nat → Bool} {n1 n2 : Nat} {p q : Bool} {ad : Nat → Nat} {I : mmI} {J : mmJ} {Q : mmQ} (h : mm_wc d 73 [.ref 1, .ref 108] ((fl, 0, 0, p, q, ad), I, J) (fun v τ => ∃ r1 I1 J1, v = some (.int r1) ∧ τ = ((fl, 0, 0, p, q, ad), I1, J1) ∧ ((¬ r1 = (nI 0) → mm_wc d 77 [.ref 1] ((fl, 0, 0, p, q, ad), I1, J1) (fun v τ => ∃ I2 J2, v = none ∧ τ = ((fl, 0, 0, p, q, ad), I2, J2) ∧ Q (some (.int (nI 1))) ((fl, n1, n2, p, q, ad), I2, J2))) ∧ (r1 = (nI 0) → mm_wc d 60 [.ref 1, .int (nI 1)] ((fl, 0, 0, p, q, ad), I1, J1) (fun v τ => ∃ r3 I3 J3, v = some (.int r3) ∧ τ = ((fl, 0, 0, p, q, ad), I3, J3) ∧ ((r3 = 0 ∨ r3 = 1) ∧ Q (some (.int r3)) ((fl, n1, n2, p, q, ad), I3, J3))))))) : mm_wc (d + 1) 74 [.ref 1, .ref 108] ((fl, n1, n2, p, q, ad), I, J) Q := by
  refine mm_call (c := 74) rfl rfl ?_
  refine mm_go [] 80 ?_
  show mm_wc d 73 [.ref 1, .ref 108] ((fl, 0, 0, p, q, ad), I, J) _
  refine mm_wcm h ?_
  rintro v τ ⟨r1, I1, J1, rfl, rfl, h1⟩
  refine mm_r1' ⟨rfl, ?_⟩
  show mm_b _ _ _ _ _ [some (.ref 1), some (.ref 108)] [.int r1] ((fl, n1, n2, p, q, ad), I1, J1)
  show (¬ r1 = (nI 0) → _) ∧ (r1 = (nI 0) → _)
  refine ⟨fun c0 => ?_, fun c0 => ?_⟩
  · show mm_u _ _ _ _ _ _ [some (.ref 1), some (.ref 108)] [] ((fl, n1, n2, p, q, ad), I1, J1)
    show mm_wc d 77 [.ref 1] ((fl, 0, 0, p, q, ad), I1, J1) _
    refine mm_wcm (h1.1 c0) ?_
    rintro v τ ⟨I2, J2, rfl, rfl, h2⟩
    refine mm_r0' ⟨rfl, ?_⟩
    show mm_b _ _ _ _ _ [some (.ref 1), none] [] ((fl, n1, n2, p, q, ad), I2, J2)
    show (((nI 1) : Int32) = 0 ∨ ((nI 1) : Int32) = 1) ∧ _
    refine ⟨(by decide), ?_⟩
    exact h2
  · show mm_b _ _ _ _ _ [some (.ref 1), some (.ref 108)] [] ((fl, n1, n2, p, q, ad), I1, J1)
    show mm_wc d 60 [.ref 1, .int (nI 1)] ((fl, 0, 0, p, q, ad), I1, J1) _
    refine mm_wcm (h1.2 c0) ?_
    rintro v τ ⟨r3, I3, J3, rfl, rfl, h3⟩
    refine mm_r1' ⟨rfl, ?_⟩
    show mm_b _ _ _ _ _ [some (.ref 1), some (.ref 108)] [.int r3] ((fl, n1, n2, p, q, ad), I3, J3)
    show (r3 = 0 ∨ r3 = 1) ∧ _
    refine ⟨h3.1, ?_⟩
    exact h3.2
/- 74 ThreeBreaths$Reader takeWord -/
theorem fx_74_reach {d : Nat} {fl : Nat → Bool} {n1 n2 : Nat} {p q : Bool} {ad : Nat → Nat} {I : mmI} {J : mmJ} {Q : mmQ} (h : mm_wc d 73 [.ref 1, .ref 113] ((fl, 0, 0, p, q, ad), I, J) (fun v τ => ∃ r1 I1 J1, v = some (.int r1) ∧ τ = ((fl, 0, 0, p, q, ad), I1, J1) ∧ ((¬ r1 = (nI 0) → mm_wc d 77 [.ref 1] ((fl, 0, 0, p, q, ad), I1, J1) (fun v τ => ∃ I2 J2, v = none ∧ τ = ((fl, 0, 0, p, q, ad), I2, J2) ∧ Q (some (.int (nI 1))) ((fl, n1, n2, p, q, ad), I2, J2))) ∧ (r1 = (nI 0) → mm_wc d 60 [.ref 1, .int (nI 1)] ((fl, 0, 0, p, q, ad), I1, J1) (fun v τ => ∃ r3 I3 J3, v = some (.int r3) ∧ τ = ((fl, 0, 0, p, q, ad), I3, J3) ∧ ((r3 = 0 ∨ r3 = 1) ∧ Q (some (.int r3)) ((fl, n1, n2, p, q, ad), I3, J3))))))) : mm_wc (d + 1) 74 [.ref 1, .ref 113] ((fl, n1, n2, p, q, ad), I, J) Q := by
  refine mm_call (c := 74) rfl rfl ?_
  refine mm_go [] 80 ?_
  show mm_wc d 73 [.ref 1, .ref 113] ((fl, 0, 0, p, q, ad), I, J) _
  refine mm_wcm h ?_
  rintro v τ ⟨r1, I1, J1, rfl, rfl, h1⟩
  refine mm_r1' ⟨rfl, ?_⟩
  show mm_b _ _ _ _ _ [some (.ref 1), some (.ref 113)] [.int r1] ((fl, n1, n2, p, q, ad), I1, J1)
  show (¬ r1 = (nI 0) → _) ∧ (r1 = (nI 0) → _)
  refine ⟨fun c0 => ?_, fun c0 => ?_⟩
  · show mm_u _ _ _ _ _ _ [some (.ref 1), some (.ref 113)] [] ((fl, n1, n2, p, q, ad), I1, J1)
    show mm_wc d 77 [.ref 1] ((fl, 0, 0, p, q, ad), I1, J1) _
    refine mm_wcm (h1.1 c0) ?_
    rintro v τ ⟨I2, J2, rfl, rfl, h2⟩
    refine mm_r0' ⟨rfl, ?_⟩
    show mm_b _ _ _ _ _ [some (.ref 1), none] [] ((fl, n1, n2, p, q, ad), I2, J2)
    show (((nI 1) : Int32) = 0 ∨ ((nI 1) : Int32) = 1) ∧ _
    refine ⟨(by decide), ?_⟩
    exact h2
  · show mm_b _ _ _ _ _ [some (.ref 1), some (.ref 113)] [] ((fl, n1, n2, p, q, ad), I1, J1)
    show mm_wc d 60 [.ref 1, .int (nI 1)] ((fl, 0, 0, p, q, ad), I1, J1) _
    refine mm_wcm (h1.2 c0) ?_
    rintro v τ ⟨r3, I3, J3, rfl, rfl, h3⟩
    refine mm_r1' ⟨rfl, ?_⟩
    show mm_b _ _ _ _ _ [some (.ref 1), some (.ref 113)] [.int r3] ((fl, n1, n2, p, q, ad), I3, J3)
    show (r3 = 0 ∨ r3 = 1) ∧ _
    refine ⟨h3.1, ?_⟩
    exact h3.2
/- 74 ThreeBreaths$Reader takeWord -/
theorem fx_74_spread {d : Nat} {fl : Nat → Bool} {n1 n2 : Nat} {p q : Bool} {ad : Nat → Nat} {I : mmI} {J : mmJ} {Q : mmQ} (h : mm_wc d 73 [.ref 1, .ref 114] ((fl, 0, 0, p, q, ad), I, J) (fun v τ => ∃ r1 I1 J1, v = some (.int r1) ∧ τ = ((fl, 0, 0, p, q, ad), I1, J1) ∧ ((¬ r1 = (nI 0) → mm_wc d 77 [.ref 1] ((fl, 0, 0, p, q, ad), I1, J1) (fun v τ => ∃ I2 J2, v = none ∧ τ = ((fl, 0, 0, p, q, ad), I2, J2) ∧ Q (some (.int (nI 1))) ((fl, n1, n2, p, q, ad), I2, J2))) ∧ (r1 = (nI 0) → mm_wc d 60 [.ref 1, .int (nI 1)] ((fl, 0, 0, p, q, ad), I1, J1) (fun v τ => ∃ r3 I3 J3, v = some (.int r3) ∧ τ = ((fl, 0, 0, p, q, ad), I3, J3) ∧ ((r3 = 0 ∨ r3 = 1) ∧ Q (some (.int r3)) ((fl, n1, n2, p, q, ad), I3, J3))))))) : mm_wc (d + 1) 74 [.ref 1, .ref 114] ((fl, n1, n2, p, q, ad), I, J) Q := by
  refine mm_call (c := 74) rfl rfl ?_
  refine mm_go [] 80 ?_
  show mm_wc d 73 [.ref 1, .ref 114] ((fl, 0, 0, p, q, ad), I, J) _
  refine mm_wcm h ?_
  rintro v τ ⟨r1, I1, J1, rfl, rfl, h1⟩
  refine mm_r1' ⟨rfl, ?_⟩
  show mm_b _ _ _ _ _ [some (.ref 1), some (.ref 114)] [.int r1] ((fl, n1, n2, p, q, ad), I1, J1)
  show (¬ r1 = (nI 0) → _) ∧ (r1 = (nI 0) → _)
  refine ⟨fun c0 => ?_, fun c0 => ?_⟩
  · show mm_u _ _ _ _ _ _ [some (.ref 1), some (.ref 114)] [] ((fl, n1, n2, p, q, ad), I1, J1)
    show mm_wc d 77 [.ref 1] ((fl, 0, 0, p, q, ad), I1, J1) _
    refine mm_wcm (h1.1 c0) ?_
    rintro v τ ⟨I2, J2, rfl, rfl, h2⟩
    refine mm_r0' ⟨rfl, ?_⟩
    show mm_b _ _ _ _ _ [some (.ref 1), none] [] ((fl, n1, n2, p, q, ad), I2, J2)
    show (((nI 1) : Int32) = 0 ∨ ((nI 1) : Int32) = 1) ∧ _
    refine ⟨(by decide), ?_⟩
    exact h2
  · show mm_b _ _ _ _ _ [some (.ref 1), some (.ref 114)] [] ((fl, n1, n2, p, q, ad), I1, J1)
    show mm_wc d 60 [.ref 1, .int (nI 1)] ((fl, 0, 0, p, q, ad), I1, J1) _
    refine mm_wcm (h1.2 c0) ?_
    rintro v τ ⟨r3, I3, J3, rfl, rfl, h3⟩
    refine mm_r1' ⟨rfl, ?_⟩
    show mm_b _ _ _ _ _ [some (.ref 1), some (.ref 114)] [.int r3] ((fl, n1, n2, p, q, ad), I3, J3)
    show (r3 = 0 ∨ r3 = 1) ∧ _
    refine ⟨h3.1, ?_⟩
    exact h3.2
/- 75 ThreeBreaths$Reader takeWhole -/
theorem fx_75 {d : Nat} {x0 : Int32} {x1 : Int32} {fl : Nat → Bool} {n1 n2 : Nat} {p q : Bool} {ad : Nat → Nat} {I : mmI} {J : mmJ} {Q : mmQ} (h : (((I 1 3) = (nI 2) → (((I 1 7) < x0 → mm_wc d 60 [.ref 1, .int (nI 4)] ((fl, 0, 0, p, q, ad), I, J) (fun v τ => ∃ r1 I1 J1, v = some (.int r1) ∧ τ = ((fl, 0, 0, p, q, ad), I1, J1) ∧ ((r1 = 0 ∨ r1 = 1) ∧ Q (some (.int r1)) ((fl, n1, n2, p, q, ad), I1, J1)))) ∧ (¬ (I 1 7) < x0 → (((I 1 7) ≤ x1 → mm_wc d 77 [.ref 1] ((fl, 0, 0, p, q, ad), (mm_up I 1 8 (I 1 7)), J) (fun v τ => ∃ I2 J2, v = none ∧ τ = ((fl, 0, 0, p, q, ad), I2, J2) ∧ Q (some (.int (nI 1))) ((fl, n1, n2, p, q, ad), I2, J2))) ∧ (¬ (I 1 7) ≤ x1 → mm_wc d 60 [.ref 1, .int (nI 4)] ((fl, 0, 0, p, q, ad), I, J) (fun v τ => ∃ r3 I3 J3, v = some (.int r3) ∧ τ = ((fl, 0, 0, p, q, ad), I3, J3) ∧ ((r3 = 0 ∨ r3 = 1) ∧ Q (some (.int r3)) ((fl, n1, n2, p, q, ad), I3, J3)))))))) ∧ (¬ (I 1 3) = (nI 2) → mm_wc d 60 [.ref 1, .int (nI 1)] ((fl, 0, 0, p, q, ad), I, J) (fun v τ => ∃ r4 I4 J4, v = some (.int r4) ∧ τ = ((fl, 0, 0, p, q, ad), I4, J4) ∧ ((r4 = 0 ∨ r4 = 1) ∧ Q (some (.int r4)) ((fl, n1, n2, p, q, ad), I4, J4)))))) : mm_wc (d + 1) 75 [.ref 1, .int x0, .int x1] ((fl, n1, n2, p, q, ad), I, J) Q := by
  refine mm_call (c := 75) rfl rfl ?_
  refine mm_go [] 80 ?_
  show ((I 1 3) = (nI 2) → _) ∧ (¬ (I 1 3) = (nI 2) → _)
  refine ⟨fun c0 => ?_, fun c0 => ?_⟩
  · show mm_u _ _ _ _ _ _ [some (.ref 1), some (.int x0), some (.int x1)] [] ((fl, n1, n2, p, q, ad), I, J)
    show ((I 1 7) < x0 → _) ∧ (¬ (I 1 7) < x0 → _)
    refine ⟨fun c1 => ?_, fun c1 => ?_⟩
    · show mm_u _ _ _ _ _ _ [some (.ref 1), some (.int x0), some (.int x1)] [] ((fl, n1, n2, p, q, ad), I, J)
      show mm_wc d 60 [.ref 1, .int (nI 4)] ((fl, 0, 0, p, q, ad), I, J) _
      refine mm_wcm ((h.1 c0).1 c1) ?_
      rintro v τ ⟨r1, I1, J1, rfl, rfl, h1⟩
      refine mm_r1' ⟨rfl, ?_⟩
      show mm_b _ _ _ _ _ [some (.ref 1), none, none] [.int r1] ((fl, n1, n2, p, q, ad), I1, J1)
      show (r1 = 0 ∨ r1 = 1) ∧ _
      refine ⟨h1.1, ?_⟩
      exact h1.2
    · show mm_b _ _ _ _ _ [some (.ref 1), some (.int x0), some (.int x1)] [] ((fl, n1, n2, p, q, ad), I, J)
      show ((I 1 7) ≤ x1 → _) ∧ (¬ (I 1 7) ≤ x1 → _)
      refine ⟨fun c2 => ?_, fun c2 => ?_⟩
      · show mm_u _ _ _ _ _ _ [some (.ref 1), some (.int x0), some (.int x1)] [] ((fl, n1, n2, p, q, ad), I, J)
        show mm_wc d 77 [.ref 1] ((fl, 0, 0, p, q, ad), (mm_up I 1 8 (I 1 7)), J) _
        refine mm_wcm (((h.1 c0).2 c1).1 c2) ?_
        rintro v τ ⟨I2, J2, rfl, rfl, h2⟩
        refine mm_r0' ⟨rfl, ?_⟩
        show mm_b _ _ _ _ _ [some (.ref 1), none, none] [] ((fl, n1, n2, p, q, ad), I2, J2)
        show (((nI 1) : Int32) = 0 ∨ ((nI 1) : Int32) = 1) ∧ _
        refine ⟨(by decide), ?_⟩
        exact h2
      · show mm_b _ _ _ _ _ [some (.ref 1), some (.int x0), some (.int x1)] [] ((fl, n1, n2, p, q, ad), I, J)
        show mm_wc d 60 [.ref 1, .int (nI 4)] ((fl, 0, 0, p, q, ad), I, J) _
        refine mm_wcm (((h.1 c0).2 c1).2 c2) ?_
        rintro v τ ⟨r3, I3, J3, rfl, rfl, h3⟩
        refine mm_r1' ⟨rfl, ?_⟩
        show mm_b _ _ _ _ _ [some (.ref 1), none, none] [.int r3] ((fl, n1, n2, p, q, ad), I3, J3)
        show (r3 = 0 ∨ r3 = 1) ∧ _
        refine ⟨h3.1, ?_⟩
        exact h3.2
  · show mm_b _ _ _ _ _ [some (.ref 1), some (.int x0), some (.int x1)] [] ((fl, n1, n2, p, q, ad), I, J)
    show mm_wc d 60 [.ref 1, .int (nI 1)] ((fl, 0, 0, p, q, ad), I, J) _
    refine mm_wcm (h.2 c0) ?_
    rintro v τ ⟨r4, I4, J4, rfl, rfl, h4⟩
    refine mm_r1' ⟨rfl, ?_⟩
    show mm_b _ _ _ _ _ [some (.ref 1), some (.int x0), some (.int x1)] [.int r4] ((fl, n1, n2, p, q, ad), I4, J4)
    show (r4 = 0 ∨ r4 = 1) ∧ _
    refine ⟨h4.1, ?_⟩
    exact h4.2
/- 76 ThreeBreaths$Reader takeSign -/
theorem fx_76 {d : Nat} {x0 : Int32} {fl : Nat → Bool} {n1 n2 : Nat} {p q : Bool} {ad : Nat → Nat} {I : mmI} {J : mmJ} {Q : mmQ} (h : (((I 1 3) = x0 → mm_wc d 77 [.ref 1] ((fl, 0, 0, p, q, ad), I, J) (fun v τ => ∃ I1 J1, v = none ∧ τ = ((fl, 0, 0, p, q, ad), I1, J1) ∧ Q (some (.int (nI 1))) ((fl, n1, n2, p, q, ad), I1, J1))) ∧ (¬ (I 1 3) = x0 → mm_wc d 60 [.ref 1, .int (nI 1)] ((fl, 0, 0, p, q, ad), I, J) (fun v τ => ∃ r2 I2 J2, v = some (.int r2) ∧ τ = ((fl, 0, 0, p, q, ad), I2, J2) ∧ ((r2 = 0 ∨ r2 = 1) ∧ Q (some (.int r2)) ((fl, n1, n2, p, q, ad), I2, J2)))))) : mm_wc (d + 1) 76 [.ref 1, .int x0] ((fl, n1, n2, p, q, ad), I, J) Q := by
  refine mm_call (c := 76) rfl rfl ?_
  refine mm_go [] 80 ?_
  show ((I 1 3) = x0 → _) ∧ (¬ (I 1 3) = x0 → _)
  refine ⟨fun c0 => ?_, fun c0 => ?_⟩
  · show mm_u _ _ _ _ _ _ [some (.ref 1), some (.int x0)] [] ((fl, n1, n2, p, q, ad), I, J)
    show mm_wc d 77 [.ref 1] ((fl, 0, 0, p, q, ad), I, J) _
    refine mm_wcm (h.1 c0) ?_
    rintro v τ ⟨I1, J1, rfl, rfl, h1⟩
    refine mm_r0' ⟨rfl, ?_⟩
    show mm_b _ _ _ _ _ [some (.ref 1), none] [] ((fl, n1, n2, p, q, ad), I1, J1)
    show (((nI 1) : Int32) = 0 ∨ ((nI 1) : Int32) = 1) ∧ _
    refine ⟨(by decide), ?_⟩
    exact h1
  · show mm_b _ _ _ _ _ [some (.ref 1), some (.int x0)] [] ((fl, n1, n2, p, q, ad), I, J)
    show mm_wc d 60 [.ref 1, .int (nI 1)] ((fl, 0, 0, p, q, ad), I, J) _
    refine mm_wcm (h.2 c0) ?_
    rintro v τ ⟨r2, I2, J2, rfl, rfl, h2⟩
    refine mm_r1' ⟨rfl, ?_⟩
    show mm_b _ _ _ _ _ [some (.ref 1), some (.int x0)] [.int r2] ((fl, n1, n2, p, q, ad), I2, J2)
    show (r2 = 0 ∨ r2 = 1) ∧ _
    refine ⟨h2.1, ?_⟩
    exact h2.2
/- 77 ThreeBreaths$Reader advance -/
theorem fx_77 {d : Nat} {fl : Nat → Bool} {n1 n2 : Nat} {p q : Bool} {ad : Nat → Nat} {I : mmI} {J : mmJ} {Q : mmQ} (h : mm_w Q (mm_wc d) bk_77 0 [some (.ref 1)] [] ((fl, n1, n2, p, q, ad), I, J)) : mm_wc (d + 1) 77 [.ref 1] ((fl, n1, n2, p, q, ad), I, J) Q := by
  refine mm_call (c := 77) rfl rfl ?_
  exact mm_w_mk (mm_wc_mono _) h
theorem fx_77_0 {d : Nat} {fl : Nat → Bool} {n1 n2 : Nat} {p q : Bool} {ad : Nat → Nat} {I : mmI} {J : mmJ} {Q : mmQ} (h : (((I 1 2) ≤ (I 1 5) → (((I 1 5) < (I 1 2) → (vp_in (I 1 5) 900 ∧ mm_wc d 80 [.int (I 2 ((I 1 5)).toNatClampNeg)] ((fl, 0, 0, p, q, ad), (mm_up I 1 4 (I 1 5)), J) (fun v τ => ∃ r1 I1 J1, v = some (.int r1) ∧ τ = ((fl, 0, 0, p, q, ad), I1, J1) ∧ ((r1 = (nI 0) → (vp_in (I1 1 4) 900 ∧ mm_wc d 81 [.int (I1 2 ((I1 1 4)).toNatClampNeg)] ((fl, 0, 0, p, q, ad), I1, J1) (fun v τ => ∃ r2 I2 J2, v = some (.int r2) ∧ τ = ((fl, 0, 0, p, q, ad), I2, J2) ∧ ((r2 = (nI 0) → (vp_in (I2 1 4) 900 ∧ ((¬ (I2 2 ((I2 1 4)).toNatClampNeg) = (nI 59) → (vp_in (I2 1 4) 900 ∧ ((¬ (I2 2 ((I2 1 4)).toNatClampNeg) = (nI 44) → Q none ((fl, n1, n2, p, q, ad), (mm_up (mm_up I2 1 3 (nI 5)) 1 5 ((I2 1 5) + (nI 1))), J2)) ∧ ((I2 2 ((I2 1 4)).toNatClampNeg) = (nI 44) → Q none ((fl, n1, n2, p, q, ad), (mm_up (mm_up I2 1 3 (nI 4)) 1 5 ((I2 1 5) + (nI 1))), J2))))) ∧ ((I2 2 ((I2 1 4)).toNatClampNeg) = (nI 59) → Q none ((fl, n1, n2, p, q, ad), (mm_up (mm_up I2 1 3 (nI 3)) 1 5 ((I2 1 5) + (nI 1))), J2))))) ∧ (¬ r2 = (nI 0) → mm_wc d 79 [.ref 1] ((fl, 0, 0, p, q, ad), I2, J2) (fun v τ => ∃ I3 J3, v = none ∧ τ = ((fl, 0, 0, p, q, ad), I3, J3) ∧ Q none ((fl, n1, n2, p, q, ad), I3, J3))))))) ∧ (¬ r1 = (nI 0) → mm_wc d 78 [.ref 1] ((fl, 0, 0, p, q, ad), I1, J1) (fun v τ => ∃ I4 J4, v = none ∧ τ = ((fl, 0, 0, p, q, ad), I4, J4) ∧ Q none ((fl, n1, n2, p, q, ad), I4, J4))))))) ∧ (¬ (I 1 5) < (I 1 2) → Q none ((fl, n1, n2, p, q, ad), (mm_up (mm_up I 1 4 (I 1 5)) 1 3 (nI 0)), J)))) ∧ (¬ (I 1 2) ≤ (I 1 5) → (vp_in (I 1 5) 900 ∧ ((¬ (I 2 ((I 1 5)).toNatClampNeg) = (nI 32) → (((I 1 5) < (I 1 2) → (vp_in (I 1 5) 900 ∧ mm_wc d 80 [.int (I 2 ((I 1 5)).toNatClampNeg)] ((fl, 0, 0, p, q, ad), (mm_up I 1 4 (I 1 5)), J) (fun v τ => ∃ r5 I5 J5, v = some (.int r5) ∧ τ = ((fl, 0, 0, p, q, ad), I5, J5) ∧ ((r5 = (nI 0) → (vp_in (I5 1 4) 900 ∧ mm_wc d 81 [.int (I5 2 ((I5 1 4)).toNatClampNeg)] ((fl, 0, 0, p, q, ad), I5, J5) (fun v τ => ∃ r6 I6 J6, v = some (.int r6) ∧ τ = ((fl, 0, 0, p, q, ad), I6, J6) ∧ ((r6 = (nI 0) → (vp_in (I6 1 4) 900 ∧ ((¬ (I6 2 ((I6 1 4)).toNatClampNeg) = (nI 59) → (vp_in (I6 1 4) 900 ∧ ((¬ (I6 2 ((I6 1 4)).toNatClampNeg) = (nI 44) → Q none ((fl, n1, n2, p, q, ad), (mm_up (mm_up I6 1 3 (nI 5)) 1 5 ((I6 1 5) + (nI 1))), J6)) ∧ ((I6 2 ((I6 1 4)).toNatClampNeg) = (nI 44) → Q none ((fl, n1, n2, p, q, ad), (mm_up (mm_up I6 1 3 (nI 4)) 1 5 ((I6 1 5) + (nI 1))), J6))))) ∧ ((I6 2 ((I6 1 4)).toNatClampNeg) = (nI 59) → Q none ((fl, n1, n2, p, q, ad), (mm_up (mm_up I6 1 3 (nI 3)) 1 5 ((I6 1 5) + (nI 1))), J6))))) ∧ (¬ r6 = (nI 0) → mm_wc d 79 [.ref 1] ((fl, 0, 0, p, q, ad), I6, J6) (fun v τ => ∃ I7 J7, v = none ∧ τ = ((fl, 0, 0, p, q, ad), I7, J7) ∧ Q none ((fl, n1, n2, p, q, ad), I7, J7))))))) ∧ (¬ r5 = (nI 0) → mm_wc d 78 [.ref 1] ((fl, 0, 0, p, q, ad), I5, J5) (fun v τ => ∃ I8 J8, v = none ∧ τ = ((fl, 0, 0, p, q, ad), I8, J8) ∧ Q none ((fl, n1, n2, p, q, ad), I8, J8))))))) ∧ (¬ (I 1 5) < (I 1 2) → Q none ((fl, n1, n2, p, q, ad), (mm_up (mm_up I 1 4 (I 1 5)) 1 3 (nI 0)), J)))) ∧ ((I 2 ((I 1 5)).toNatClampNeg) = (nI 32) → mm_w Q (mm_wc d) bk_77 0 [some (.ref 1)] [] ((fl, n1, n2, p, q, ad), (mm_up I 1 5 ((I 1 5) + (nI 1))), J))))))) : mm_w Q (mm_wc (d)) bk_77 0 [some (.ref 1)] [] ((fl, n1, n2, p, q, ad), I, J) := by
  refine mm_go [0] 80 ?_
  show ((I 1 2) ≤ (I 1 5) → _) ∧ (¬ (I 1 2) ≤ (I 1 5) → _)
  refine ⟨fun c0 => ?_, fun c0 => ?_⟩
  · show mm_u _ _ _ _ _ _ [some (.ref 1)] [] ((fl, n1, n2, p, q, ad), I, J)
    show ((I 1 5) < (I 1 2) → _) ∧ (¬ (I 1 5) < (I 1 2) → _)
    refine ⟨fun c1 => ?_, fun c1 => ?_⟩
    · show mm_u _ _ _ _ _ _ [some (.ref 1)] [] ((fl, n1, n2, p, q, ad), (mm_up I 1 4 (I 1 5)), J)
      show vp_in (I 1 5) 900 ∧ _
      refine ⟨((h.1 c0).1 c1).1, ?_⟩
      show mm_b _ _ _ _ _ [some (.ref 1)] [.int (I 2 ((I 1 5)).toNatClampNeg)] ((fl, n1, n2, p, q, ad), (mm_up I 1 4 (I 1 5)), J)
      show mm_wc d 80 [.int (I 2 ((I 1 5)).toNatClampNeg)] ((fl, 0, 0, p, q, ad), (mm_up I 1 4 (I 1 5)), J) _
      refine mm_wcm (((h.1 c0).1 c1).2) ?_
      rintro v τ ⟨r1, I1, J1, rfl, rfl, h1⟩
      refine mm_r1' ⟨rfl, ?_⟩
      show mm_b _ _ _ _ _ [some (.ref 1)] [.int r1] ((fl, n1, n2, p, q, ad), I1, J1)
      show (r1 = (nI 0) → _) ∧ (¬ r1 = (nI 0) → _)
      refine ⟨fun c2 => ?_, fun c2 => ?_⟩
      · show mm_u _ _ _ _ _ _ [some (.ref 1)] [] ((fl, n1, n2, p, q, ad), I1, J1)
        show vp_in (I1 1 4) 900 ∧ _
        refine ⟨(h1.1 c2).1, ?_⟩
        show mm_b _ _ _ _ _ [some (.ref 1)] [.int (I1 2 ((I1 1 4)).toNatClampNeg)] ((fl, n1, n2, p, q, ad), I1, J1)
        show mm_wc d 81 [.int (I1 2 ((I1 1 4)).toNatClampNeg)] ((fl, 0, 0, p, q, ad), I1, J1) _
        refine mm_wcm ((h1.1 c2).2) ?_
        rintro v τ ⟨r2, I2, J2, rfl, rfl, h2⟩
        refine mm_r1' ⟨rfl, ?_⟩
        show mm_b _ _ _ _ _ [some (.ref 1)] [.int r2] ((fl, n1, n2, p, q, ad), I2, J2)
        show (r2 = (nI 0) → _) ∧ (¬ r2 = (nI 0) → _)
        refine ⟨fun c3 => ?_, fun c3 => ?_⟩
        · show mm_u _ _ _ _ _ _ [some (.ref 1)] [] ((fl, n1, n2, p, q, ad), I2, J2)
          show vp_in (I2 1 4) 900 ∧ _
          refine ⟨(h2.1 c3).1, ?_⟩
          show mm_b _ _ _ _ _ [some (.ref 1)] [.int (I2 2 ((I2 1 4)).toNatClampNeg), .ref 1] ((fl, n1, n2, p, q, ad), I2, J2)
          show (¬ (I2 2 ((I2 1 4)).toNatClampNeg) = (nI 59) → _) ∧ ((I2 2 ((I2 1 4)).toNatClampNeg) = (nI 59) → _)
          refine ⟨fun c4 => ?_, fun c4 => ?_⟩
          · show mm_u _ _ _ _ _ _ [some (.ref 1)] [.ref 1] ((fl, n1, n2, p, q, ad), I2, J2)
            show vp_in (I2 1 4) 900 ∧ _
            refine ⟨((h2.1 c3).2.1 c4).1, ?_⟩
            show mm_b _ _ _ _ _ [some (.ref 1)] [.int (I2 2 ((I2 1 4)).toNatClampNeg), .ref 1] ((fl, n1, n2, p, q, ad), I2, J2)
            show (¬ (I2 2 ((I2 1 4)).toNatClampNeg) = (nI 44) → _) ∧ ((I2 2 ((I2 1 4)).toNatClampNeg) = (nI 44) → _)
            refine ⟨fun c5 => ?_, fun c5 => ?_⟩
            · exact (((h2.1 c3).2.1 c4).2.1 c5)
            · exact (((h2.1 c3).2.1 c4).2.2 c5)
          · exact ((h2.1 c3).2.2 c4)
        · show mm_b _ _ _ _ _ [some (.ref 1)] [] ((fl, n1, n2, p, q, ad), I2, J2)
          show mm_wc d 79 [.ref 1] ((fl, 0, 0, p, q, ad), I2, J2) _
          refine mm_wcm (h2.2 c3) ?_
          rintro v τ ⟨I3, J3, rfl, rfl, h3⟩
          refine mm_r0' ⟨rfl, ?_⟩
          exact h3
      · show mm_b _ _ _ _ _ [some (.ref 1)] [] ((fl, n1, n2, p, q, ad), I1, J1)
        show mm_wc d 78 [.ref 1] ((fl, 0, 0, p, q, ad), I1, J1) _
        refine mm_wcm (h1.2 c2) ?_
        rintro v τ ⟨I4, J4, rfl, rfl, h4⟩
        refine mm_r0' ⟨rfl, ?_⟩
        exact h4
    · exact ((h.1 c0).2 c1)
  · show mm_b _ _ _ _ _ [some (.ref 1)] [] ((fl, n1, n2, p, q, ad), I, J)
    show vp_in (I 1 5) 900 ∧ _
    refine ⟨(h.2 c0).1, ?_⟩
    show mm_b _ _ _ _ _ [some (.ref 1)] [.int (I 2 ((I 1 5)).toNatClampNeg)] ((fl, n1, n2, p, q, ad), I, J)
    show (¬ (I 2 ((I 1 5)).toNatClampNeg) = (nI 32) → _) ∧ ((I 2 ((I 1 5)).toNatClampNeg) = (nI 32) → _)
    refine ⟨fun c1 => ?_, fun c1 => ?_⟩
    · show mm_u _ _ _ _ _ _ [some (.ref 1)] [] ((fl, n1, n2, p, q, ad), I, J)
      show ((I 1 5) < (I 1 2) → _) ∧ (¬ (I 1 5) < (I 1 2) → _)
      refine ⟨fun c2 => ?_, fun c2 => ?_⟩
      · show mm_u _ _ _ _ _ _ [some (.ref 1)] [] ((fl, n1, n2, p, q, ad), (mm_up I 1 4 (I 1 5)), J)
        show vp_in (I 1 5) 900 ∧ _
        refine ⟨(((h.2 c0).2.1 c1).1 c2).1, ?_⟩
        show mm_b _ _ _ _ _ [some (.ref 1)] [.int (I 2 ((I 1 5)).toNatClampNeg)] ((fl, n1, n2, p, q, ad), (mm_up I 1 4 (I 1 5)), J)
        show mm_wc d 80 [.int (I 2 ((I 1 5)).toNatClampNeg)] ((fl, 0, 0, p, q, ad), (mm_up I 1 4 (I 1 5)), J) _
        refine mm_wcm ((((h.2 c0).2.1 c1).1 c2).2) ?_
        rintro v τ ⟨r5, I5, J5, rfl, rfl, h5⟩
        refine mm_r1' ⟨rfl, ?_⟩
        show mm_b _ _ _ _ _ [some (.ref 1)] [.int r5] ((fl, n1, n2, p, q, ad), I5, J5)
        show (r5 = (nI 0) → _) ∧ (¬ r5 = (nI 0) → _)
        refine ⟨fun c3 => ?_, fun c3 => ?_⟩
        · show mm_u _ _ _ _ _ _ [some (.ref 1)] [] ((fl, n1, n2, p, q, ad), I5, J5)
          show vp_in (I5 1 4) 900 ∧ _
          refine ⟨(h5.1 c3).1, ?_⟩
          show mm_b _ _ _ _ _ [some (.ref 1)] [.int (I5 2 ((I5 1 4)).toNatClampNeg)] ((fl, n1, n2, p, q, ad), I5, J5)
          show mm_wc d 81 [.int (I5 2 ((I5 1 4)).toNatClampNeg)] ((fl, 0, 0, p, q, ad), I5, J5) _
          refine mm_wcm ((h5.1 c3).2) ?_
          rintro v τ ⟨r6, I6, J6, rfl, rfl, h6⟩
          refine mm_r1' ⟨rfl, ?_⟩
          show mm_b _ _ _ _ _ [some (.ref 1)] [.int r6] ((fl, n1, n2, p, q, ad), I6, J6)
          show (r6 = (nI 0) → _) ∧ (¬ r6 = (nI 0) → _)
          refine ⟨fun c4 => ?_, fun c4 => ?_⟩
          · show mm_u _ _ _ _ _ _ [some (.ref 1)] [] ((fl, n1, n2, p, q, ad), I6, J6)
            show vp_in (I6 1 4) 900 ∧ _
            refine ⟨(h6.1 c4).1, ?_⟩
            show mm_b _ _ _ _ _ [some (.ref 1)] [.int (I6 2 ((I6 1 4)).toNatClampNeg), .ref 1] ((fl, n1, n2, p, q, ad), I6, J6)
            show (¬ (I6 2 ((I6 1 4)).toNatClampNeg) = (nI 59) → _) ∧ ((I6 2 ((I6 1 4)).toNatClampNeg) = (nI 59) → _)
            refine ⟨fun c5 => ?_, fun c5 => ?_⟩
            · show mm_u _ _ _ _ _ _ [some (.ref 1)] [.ref 1] ((fl, n1, n2, p, q, ad), I6, J6)
              show vp_in (I6 1 4) 900 ∧ _
              refine ⟨((h6.1 c4).2.1 c5).1, ?_⟩
              show mm_b _ _ _ _ _ [some (.ref 1)] [.int (I6 2 ((I6 1 4)).toNatClampNeg), .ref 1] ((fl, n1, n2, p, q, ad), I6, J6)
              show (¬ (I6 2 ((I6 1 4)).toNatClampNeg) = (nI 44) → _) ∧ ((I6 2 ((I6 1 4)).toNatClampNeg) = (nI 44) → _)
              refine ⟨fun c6 => ?_, fun c6 => ?_⟩
              · exact (((h6.1 c4).2.1 c5).2.1 c6)
              · exact (((h6.1 c4).2.1 c5).2.2 c6)
            · exact ((h6.1 c4).2.2 c5)
          · show mm_b _ _ _ _ _ [some (.ref 1)] [] ((fl, n1, n2, p, q, ad), I6, J6)
            show mm_wc d 79 [.ref 1] ((fl, 0, 0, p, q, ad), I6, J6) _
            refine mm_wcm (h6.2 c4) ?_
            rintro v τ ⟨I7, J7, rfl, rfl, h7⟩
            refine mm_r0' ⟨rfl, ?_⟩
            exact h7
        · show mm_b _ _ _ _ _ [some (.ref 1)] [] ((fl, n1, n2, p, q, ad), I5, J5)
          show mm_wc d 78 [.ref 1] ((fl, 0, 0, p, q, ad), I5, J5) _
          refine mm_wcm (h5.2 c3) ?_
          rintro v τ ⟨I8, J8, rfl, rfl, h8⟩
          refine mm_r0' ⟨rfl, ?_⟩
          exact h8
      · exact (((h.2 c0).2.1 c1).2 c2)
    · exact ((h.2 c0).2.2 c1)
/- 78 ThreeBreaths$Reader readWord -/
theorem fx_78 {d : Nat} {fl : Nat → Bool} {n1 n2 : Nat} {p q : Bool} {ad : Nat → Nat} {I : mmI} {J : mmJ} {Q : mmQ} (h : mm_w Q (mm_wc d) bk_78 5 [some (.ref 1)] [] ((fl, n1, n2, p, q, ad), I, (mm_upJ J 1 6 (lN 0)))) : mm_wc (d + 1) 78 [.ref 1] ((fl, n1, n2, p, q, ad), I, J) Q := by
  refine mm_call (c := 78) rfl rfl ?_
  refine mm_go [5] 80 ?_
  exact h
theorem fx_78_5 {d : Nat} {fl : Nat → Bool} {n1 n2 : Nat} {p q : Bool} {ad : Nat → Nat} {I : mmI} {J : mmJ} {Q : mmQ} (h : (((I 1 2) ≤ (I 1 5) → (((nI 8) < ((I 1 5) - (I 1 4)) → Q none ((fl, n1, n2, p, q, ad), (mm_up I 1 3 (nI 5)), J)) ∧ (¬ (nI 8) < ((I 1 5) - (I 1 4)) → Q none ((fl, n1, n2, p, q, ad), (mm_up I 1 3 (nI 1)), J)))) ∧ (¬ (I 1 2) ≤ (I 1 5) → (vp_in (I 1 5) 900 ∧ mm_wc d 80 [.int (I 2 ((I 1 5)).toNatClampNeg)] ((fl, 0, 0, p, q, ad), I, J) (fun v τ => ∃ r1 I1 J1, v = some (.int r1) ∧ τ = ((fl, 0, 0, p, q, ad), I1, J1) ∧ ((r1 = (nI 0) → (((nI 8) < ((I1 1 5) - (I1 1 4)) → Q none ((fl, n1, n2, p, q, ad), (mm_up I1 1 3 (nI 5)), J1)) ∧ (¬ (nI 8) < ((I1 1 5) - (I1 1 4)) → Q none ((fl, n1, n2, p, q, ad), (mm_up I1 1 3 (nI 1)), J1)))) ∧ (¬ r1 = (nI 0) → (vp_in (I1 1 5) 900 ∧ mm_w Q (mm_wc d) bk_78 5 [some (.ref 1)] [] ((fl, n1, n2, p, q, ad), (mm_up I1 1 5 ((I1 1 5) + (nI 1))), (mm_upJ J1 1 6 (((J1 1 6) * (lN 32)) + (Int32.toInt64 (((I1 2 ((I1 1 5)).toNatClampNeg) - (nI 97)) + (nI 1)))))))))))))) : mm_w Q (mm_wc (d)) bk_78 5 [some (.ref 1)] [] ((fl, n1, n2, p, q, ad), I, J) := by
  refine mm_go [5] 80 ?_
  show ((I 1 2) ≤ (I 1 5) → _) ∧ (¬ (I 1 2) ≤ (I 1 5) → _)
  refine ⟨fun c0 => ?_, fun c0 => ?_⟩
  · show mm_u _ _ _ _ _ _ [some (.ref 1)] [] ((fl, n1, n2, p, q, ad), I, J)
    show ((nI 8) < ((I 1 5) - (I 1 4)) → _) ∧ (¬ (nI 8) < ((I 1 5) - (I 1 4)) → _)
    refine ⟨fun c1 => ?_, fun c1 => ?_⟩
    · exact ((h.1 c0).1 c1)
    · exact ((h.1 c0).2 c1)
  · show mm_b _ _ _ _ _ [some (.ref 1)] [] ((fl, n1, n2, p, q, ad), I, J)
    show vp_in (I 1 5) 900 ∧ _
    refine ⟨(h.2 c0).1, ?_⟩
    show mm_b _ _ _ _ _ [some (.ref 1)] [.int (I 2 ((I 1 5)).toNatClampNeg)] ((fl, n1, n2, p, q, ad), I, J)
    show mm_wc d 80 [.int (I 2 ((I 1 5)).toNatClampNeg)] ((fl, 0, 0, p, q, ad), I, J) _
    refine mm_wcm ((h.2 c0).2) ?_
    rintro v τ ⟨r1, I1, J1, rfl, rfl, h1⟩
    refine mm_r1' ⟨rfl, ?_⟩
    show mm_b _ _ _ _ _ [some (.ref 1)] [.int r1] ((fl, n1, n2, p, q, ad), I1, J1)
    show (r1 = (nI 0) → _) ∧ (¬ r1 = (nI 0) → _)
    refine ⟨fun c1 => ?_, fun c1 => ?_⟩
    · show mm_u _ _ _ _ _ _ [some (.ref 1)] [] ((fl, n1, n2, p, q, ad), I1, J1)
      show ((nI 8) < ((I1 1 5) - (I1 1 4)) → _) ∧ (¬ (nI 8) < ((I1 1 5) - (I1 1 4)) → _)
      refine ⟨fun c2 => ?_, fun c2 => ?_⟩
      · exact ((h1.1 c1).1 c2)
      · exact ((h1.1 c1).2 c2)
    · show mm_b _ _ _ _ _ [some (.ref 1)] [] ((fl, n1, n2, p, q, ad), I1, J1)
      show vp_in (I1 1 5) 900 ∧ _
      refine ⟨(h1.2 c1).1, ?_⟩
      exact (h1.2 c1).2
/- 79 ThreeBreaths$Reader readWhole -/
theorem fx_79 {d : Nat} {fl : Nat → Bool} {n1 n2 : Nat} {p q : Bool} {ad : Nat → Nat} {I : mmI} {J : mmJ} {Q : mmQ} (h : mm_w Q (mm_wc d) bk_79 5 [some (.ref 1)] [] ((fl, n1, n2, p, q, ad), (mm_up I 1 7 (nI 0)), J)) : mm_wc (d + 1) 79 [.ref 1] ((fl, n1, n2, p, q, ad), I, J) Q := by
  refine mm_call (c := 79) rfl rfl ?_
  refine mm_go [5] 80 ?_
  exact h
theorem fx_79_5 {d : Nat} {fl : Nat → Bool} {n1 n2 : Nat} {p q : Bool} {ad : Nat → Nat} {I : mmI} {J : mmJ} {Q : mmQ} (h : (((I 1 2) ≤ (I 1 5) → (((nI 3) < ((I 1 5) - (I 1 4)) → Q none ((fl, n1, n2, p, q, ad), (mm_up I 1 3 (nI 5)), J)) ∧ (¬ (nI 3) < ((I 1 5) - (I 1 4)) → Q none ((fl, n1, n2, p, q, ad), (mm_up I 1 3 (nI 2)), J)))) ∧ (¬ (I 1 2) ≤ (I 1 5) → (vp_in (I 1 5) 900 ∧ mm_wc d 81 [.int (I 2 ((I 1 5)).toNatClampNeg)] ((fl, 0, 0, p, q, ad), I, J) (fun v τ => ∃ r1 I1 J1, v = some (.int r1) ∧ τ = ((fl, 0, 0, p, q, ad), I1, J1) ∧ ((r1 = (nI 0) → (((nI 3) < ((I1 1 5) - (I1 1 4)) → Q none ((fl, n1, n2, p, q, ad), (mm_up I1 1 3 (nI 5)), J1)) ∧ (¬ (nI 3) < ((I1 1 5) - (I1 1 4)) → Q none ((fl, n1, n2, p, q, ad), (mm_up I1 1 3 (nI 2)), J1)))) ∧ (¬ r1 = (nI 0) → (vp_in (I1 1 5) 900 ∧ mm_w Q (mm_wc d) bk_79 5 [some (.ref 1)] [] ((fl, n1, n2, p, q, ad), (mm_up (mm_up I1 1 7 (((I1 1 7) * (nI 10)) + ((I1 2 ((I1 1 5)).toNatClampNeg) - (nI 48)))) 1 5 ((I1 1 5) + (nI 1))), J1))))))))) : mm_w Q (mm_wc (d)) bk_79 5 [some (.ref 1)] [] ((fl, n1, n2, p, q, ad), I, J) := by
  refine mm_go [5] 80 ?_
  show ((I 1 2) ≤ (I 1 5) → _) ∧ (¬ (I 1 2) ≤ (I 1 5) → _)
  refine ⟨fun c0 => ?_, fun c0 => ?_⟩
  · show mm_u _ _ _ _ _ _ [some (.ref 1)] [] ((fl, n1, n2, p, q, ad), I, J)
    show ((nI 3) < ((I 1 5) - (I 1 4)) → _) ∧ (¬ (nI 3) < ((I 1 5) - (I 1 4)) → _)
    refine ⟨fun c1 => ?_, fun c1 => ?_⟩
    · exact ((h.1 c0).1 c1)
    · exact ((h.1 c0).2 c1)
  · show mm_b _ _ _ _ _ [some (.ref 1)] [] ((fl, n1, n2, p, q, ad), I, J)
    show vp_in (I 1 5) 900 ∧ _
    refine ⟨(h.2 c0).1, ?_⟩
    show mm_b _ _ _ _ _ [some (.ref 1)] [.int (I 2 ((I 1 5)).toNatClampNeg)] ((fl, n1, n2, p, q, ad), I, J)
    show mm_wc d 81 [.int (I 2 ((I 1 5)).toNatClampNeg)] ((fl, 0, 0, p, q, ad), I, J) _
    refine mm_wcm ((h.2 c0).2) ?_
    rintro v τ ⟨r1, I1, J1, rfl, rfl, h1⟩
    refine mm_r1' ⟨rfl, ?_⟩
    show mm_b _ _ _ _ _ [some (.ref 1)] [.int r1] ((fl, n1, n2, p, q, ad), I1, J1)
    show (r1 = (nI 0) → _) ∧ (¬ r1 = (nI 0) → _)
    refine ⟨fun c1 => ?_, fun c1 => ?_⟩
    · show mm_u _ _ _ _ _ _ [some (.ref 1)] [] ((fl, n1, n2, p, q, ad), I1, J1)
      show ((nI 3) < ((I1 1 5) - (I1 1 4)) → _) ∧ (¬ (nI 3) < ((I1 1 5) - (I1 1 4)) → _)
      refine ⟨fun c2 => ?_, fun c2 => ?_⟩
      · exact ((h1.1 c1).1 c2)
      · exact ((h1.1 c1).2 c2)
    · show mm_b _ _ _ _ _ [some (.ref 1)] [] ((fl, n1, n2, p, q, ad), I1, J1)
      show vp_in (I1 1 5) 900 ∧ _
      refine ⟨(h1.2 c1).1, ?_⟩
      exact (h1.2 c1).2
/- 80 ThreeBreaths$Reader isLetter -/
theorem fx_80 {d : Nat} {x0 : Int32} {fl : Nat → Bool} {n1 n2 : Nat} {p q : Bool} {ad : Nat → Nat} {I : mmI} {J : mmJ} {Q : mmQ} (h : ((x0 < (nI 97) → Q (some (.int (nI 0))) ((fl, n1, n2, p, q, ad), I, J)) ∧ (¬ x0 < (nI 97) → (((nI 122) < x0 → Q (some (.int (nI 0))) ((fl, n1, n2, p, q, ad), I, J)) ∧ (¬ (nI 122) < x0 → Q (some (.int (nI 1))) ((fl, n1, n2, p, q, ad), I, J)))))) : mm_wc (d + 1) 80 [.int x0] ((fl, n1, n2, p, q, ad), I, J) Q := by
  refine mm_call (c := 80) rfl rfl ?_
  refine mm_go [] 80 ?_
  show (x0 < (nI 97) → _) ∧ (¬ x0 < (nI 97) → _)
  refine ⟨fun c0 => ?_, fun c0 => ?_⟩
  · show mm_u _ _ _ _ _ _ [some (.int x0)] [] ((fl, n1, n2, p, q, ad), I, J)
    show (((nI 0) : Int32) = 0 ∨ ((nI 0) : Int32) = 1) ∧ _
    refine ⟨(by decide), ?_⟩
    exact (h.1 c0)
  · show mm_b _ _ _ _ _ [some (.int x0)] [] ((fl, n1, n2, p, q, ad), I, J)
    show ((nI 122) < x0 → _) ∧ (¬ (nI 122) < x0 → _)
    refine ⟨fun c1 => ?_, fun c1 => ?_⟩
    · show mm_u _ _ _ _ _ _ [some (.int x0)] [] ((fl, n1, n2, p, q, ad), I, J)
      show (((nI 0) : Int32) = 0 ∨ ((nI 0) : Int32) = 1) ∧ _
      refine ⟨(by decide), ?_⟩
      exact ((h.2 c0).1 c1)
    · show mm_b _ _ _ _ _ [some (.int x0)] [] ((fl, n1, n2, p, q, ad), I, J)
      show (((nI 1) : Int32) = 0 ∨ ((nI 1) : Int32) = 1) ∧ _
      refine ⟨(by decide), ?_⟩
      exact ((h.2 c0).2 c1)
/- 81 ThreeBreaths$Reader isDigit -/
theorem fx_81 {d : Nat} {x0 : Int32} {fl : Nat → Bool} {n1 n2 : Nat} {p q : Bool} {ad : Nat → Nat} {I : mmI} {J : mmJ} {Q : mmQ} (h : ((x0 < (nI 48) → Q (some (.int (nI 0))) ((fl, n1, n2, p, q, ad), I, J)) ∧ (¬ x0 < (nI 48) → (((nI 57) < x0 → Q (some (.int (nI 0))) ((fl, n1, n2, p, q, ad), I, J)) ∧ (¬ (nI 57) < x0 → Q (some (.int (nI 1))) ((fl, n1, n2, p, q, ad), I, J)))))) : mm_wc (d + 1) 81 [.int x0] ((fl, n1, n2, p, q, ad), I, J) Q := by
  refine mm_call (c := 81) rfl rfl ?_
  refine mm_go [] 80 ?_
  show (x0 < (nI 48) → _) ∧ (¬ x0 < (nI 48) → _)
  refine ⟨fun c0 => ?_, fun c0 => ?_⟩
  · show mm_u _ _ _ _ _ _ [some (.int x0)] [] ((fl, n1, n2, p, q, ad), I, J)
    show (((nI 0) : Int32) = 0 ∨ ((nI 0) : Int32) = 1) ∧ _
    refine ⟨(by decide), ?_⟩
    exact (h.1 c0)
  · show mm_b _ _ _ _ _ [some (.int x0)] [] ((fl, n1, n2, p, q, ad), I, J)
    show ((nI 57) < x0 → _) ∧ (¬ (nI 57) < x0 → _)
    refine ⟨fun c1 => ?_, fun c1 => ?_⟩
    · show mm_u _ _ _ _ _ _ [some (.int x0)] [] ((fl, n1, n2, p, q, ad), I, J)
      show (((nI 0) : Int32) = 0 ∨ ((nI 0) : Int32) = 1) ∧ _
      refine ⟨(by decide), ?_⟩
      exact ((h.2 c0).1 c1)
    · show mm_b _ _ _ _ _ [some (.int x0)] [] ((fl, n1, n2, p, q, ad), I, J)
      show (((nI 1) : Int32) = 0 ∨ ((nI 1) : Int32) = 1) ∧ _
      refine ⟨(by decide), ?_⟩
      exact ((h.2 c0).2 c1)
