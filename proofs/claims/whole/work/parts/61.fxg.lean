/- 191 ThreeBreathsModel cakeLine -/
theorem fx_191 {d : Nat} {fl : Nat → Bool} {n1 n2 : Nat} {p q : Bool} {ad : Nat → Nat} {I : mmI} {J : mmJ} {Q : mmQ} (h : (((I 46 13) = (nI 0) → mm_wc d 185 [.ref 46, .ref 99, .int (nI 0), .int (nI 20)] ((fl, 0, 0, p, q, ad), I, J) (fun v τ => ∃ r1 I1 J1, v = some (.int r1) ∧ τ = ((fl, 0, 0, p, q, ad), I1, J1) ∧ mm_wc d 185 [.ref 46, .ref 100, .int (nI 1), .int (nI 9)] ((fl, 0, 0, p, q, ad), (mm_up I1 50 1 r1), J1) (fun v τ => ∃ r2 I2 J2, v = some (.int r2) ∧ τ = ((fl, 0, 0, p, q, ad), I2, J2) ∧ ((¬ (I2 46 13) = (nI 0) → Q none ((fl, n1, n2, p, q, ad), (mm_up I2 50 2 r2), J2)) ∧ ((I2 46 13) = (nI 0) → Q none ((fl, n1, n2, p, q, ad), (mm_up (mm_up I2 50 2 r2) 50 0 (nI 1)), J2)))))) ∧ (¬ (I 46 13) = (nI 0) → Q none ((fl, n1, n2, p, q, ad), I, J)))) : mm_wc (d + 1) 191 [.ref 46] ((fl, n1, n2, p, q, ad), I, J) Q := by
  refine mm_call (c := 191) rfl rfl ?_
  refine mm_go [] 80 ?_
  show ((I 46 13) = (nI 0) → _) ∧ (¬ (I 46 13) = (nI 0) → _)
  refine ⟨fun c0 => ?_, fun c0 => ?_⟩
  · show mm_u _ _ _ _ _ _ [some (.ref 46)] [] ((fl, n1, n2, p, q, ad), I, J)
    show mm_wc d 185 [.ref 46, .ref 99, .int (nI 0), .int (nI 20)] ((fl, 0, 0, p, q, ad), I, J) _
    refine mm_wcm (h.1 c0) ?_
    rintro v τ ⟨r1, I1, J1, rfl, rfl, h1⟩
    refine mm_r1' ⟨rfl, ?_⟩
    show mm_b _ _ _ _ _ [some (.ref 46)] [.int r1, .int (nI 1), .ref 50] ((fl, n1, n2, p, q, ad), I1, J1)
    show (vp_in (nI 1) 279) ∧ _
    refine ⟨(mm_inl (by decide)), ?_⟩
    show mm_b _ _ _ _ _ [some (.ref 46)] [] ((fl, n1, n2, p, q, ad), (mm_up I1 50 1 r1), J1)
    show mm_wc d 185 [.ref 46, .ref 100, .int (nI 1), .int (nI 9)] ((fl, 0, 0, p, q, ad), (mm_up I1 50 1 r1), J1) _
    refine mm_wcm h1 ?_
    rintro v τ ⟨r2, I2, J2, rfl, rfl, h2⟩
    refine mm_r1' ⟨rfl, ?_⟩
    show mm_b _ _ _ _ _ [some (.ref 46)] [.int r2, .int (nI 2), .ref 50] ((fl, n1, n2, p, q, ad), I2, J2)
    show (vp_in (nI 2) 279) ∧ _
    refine ⟨(mm_inl (by decide)), ?_⟩
    show mm_b _ _ _ _ _ [some (.ref 46)] [] ((fl, n1, n2, p, q, ad), (mm_up I2 50 2 r2), J2)
    show (¬ (I2 46 13) = (nI 0) → _) ∧ ((I2 46 13) = (nI 0) → _)
    refine ⟨fun c1 => ?_, fun c1 => ?_⟩
    · exact (h2.1 c1)
    · show mm_b _ _ _ _ _ [some (.ref 46)] [] ((fl, n1, n2, p, q, ad), (mm_up I2 50 2 r2), J2)
      show (vp_in (nI 0) 279) ∧ _
      refine ⟨(mm_inl (by decide)), ?_⟩
      exact (h2.2 c1)
  · exact (h.2 c0)
/- 192 ThreeBreathsModel spot -/
theorem fx_192 {d : Nat} {x0 : Int32} {x1 : Int32} {fl : Nat → Bool} {n1 n2 : Nat} {p q : Bool} {ad : Nat → Nat} {I : mmI} {J : mmJ} {Q : mmQ} (h : mm_wc d 185 [.ref 46, .ref 108, .int (nI 0), .int (nI 20)] ((fl, 0, 0, p, q, ad), I, J) (fun v τ => ∃ r1 I1 J1, v = some (.int r1) ∧ τ = ((fl, 0, 0, p, q, ad), I1, J1) ∧ (vp_in x0 279 ∧ mm_wc d 187 [.ref 46] ((fl, 0, 0, p, q, ad), (mm_up I1 50 x0.toNatClampNeg r1), J1) (fun v τ => ∃ I2 J2, v = none ∧ τ = ((fl, 0, 0, p, q, ad), I2, J2) ∧ mm_wc d 184 [.ref 46, .int (nI 0), .int (nI 20)] ((fl, 0, 0, p, q, ad), I2, J2) (fun v τ => ∃ r3 I3 J3, v = some (.int r3) ∧ τ = ((fl, 0, 0, p, q, ad), I3, J3) ∧ (vp_in x1 279 ∧ Q none ((fl, n1, n2, p, q, ad), (mm_up I3 50 x1.toNatClampNeg r3), J3))))))) : mm_wc (d + 1) 192 [.ref 46, .int x0, .int x1] ((fl, n1, n2, p, q, ad), I, J) Q := by
  refine mm_call (c := 192) rfl rfl ?_
  refine mm_go [] 80 ?_
  show mm_wc d 185 [.ref 46, .ref 108, .int (nI 0), .int (nI 20)] ((fl, 0, 0, p, q, ad), I, J) _
  refine mm_wcm h ?_
  rintro v τ ⟨r1, I1, J1, rfl, rfl, h1⟩
  refine mm_r1' ⟨rfl, ?_⟩
  show mm_b _ _ _ _ _ [some (.ref 46), some (.int x0), some (.int x1)] [.int r1, .int x0, .ref 50] ((fl, n1, n2, p, q, ad), I1, J1)
  show vp_in x0 279 ∧ _
  refine ⟨h1.1, ?_⟩
  show mm_b _ _ _ _ _ [some (.ref 46), some (.int x0), some (.int x1)] [] ((fl, n1, n2, p, q, ad), (mm_up I1 50 x0.toNatClampNeg r1), J1)
  show mm_wc d 187 [.ref 46] ((fl, 0, 0, p, q, ad), (mm_up I1 50 x0.toNatClampNeg r1), J1) _
  refine mm_wcm (h1.2) ?_
  rintro v τ ⟨I2, J2, rfl, rfl, h2⟩
  refine mm_r0' ⟨rfl, ?_⟩
  show mm_b _ _ _ _ _ [some (.ref 46), some (.int x0), some (.int x1)] [] ((fl, n1, n2, p, q, ad), I2, J2)
  show mm_wc d 184 [.ref 46, .int (nI 0), .int (nI 20)] ((fl, 0, 0, p, q, ad), I2, J2) _
  refine mm_wcm h2 ?_
  rintro v τ ⟨r3, I3, J3, rfl, rfl, h3⟩
  refine mm_r1' ⟨rfl, ?_⟩
  show mm_b _ _ _ _ _ [some (.ref 46), some (.int x0), some (.int x1)] [.int r3, .int x1, .ref 50] ((fl, n1, n2, p, q, ad), I3, J3)
  show vp_in x1 279 ∧ _
  refine ⟨h3.1, ?_⟩
  exact h3.2
/- 193 ThreeBreathsModel candleLine -/
theorem fx_193 {d : Nat} {fl : Nat → Bool} {n1 n2 : Nat} {p q : Bool} {ad : Nat → Nat} {I : mmI} {J : mmJ} {Q : mmQ} (h : (((I 46 13) = (nI 0) → mm_wc d 183 [.ref 46, .int (I 50 3)] ((fl, 0, 0, p, q, ad), I, J) (fun v τ => ∃ I1 J1, v = none ∧ τ = ((fl, 0, 0, p, q, ad), I1, J1) ∧ (((I1 46 13) = (nI 0) → mm_wc d 192 [.ref 46, .int ((nI 13) + (I 50 3)), .int ((nI 24) + (I 50 3))] ((fl, 0, 0, p, q, ad), I1, J1) (fun v τ => ∃ I2 J2, v = none ∧ τ = ((fl, 0, 0, p, q, ad), I2, J2) ∧ (((I2 46 13) = (nI 0) → mm_wc d 178 [.ref 46, .ref 109] ((fl, 0, 0, p, q, ad), I2, J2) (fun v τ => ∃ r3 I3 J3, v = some (.int r3) ∧ τ = ((fl, 0, 0, p, q, ad), I3, J3) ∧ ((r3 = (nI 0) → mm_wc d 178 [.ref 46, .ref 110] ((fl, 0, 0, p, q, ad), I3, J3) (fun v τ => ∃ r4 I4 J4, v = some (.int r4) ∧ τ = ((fl, 0, 0, p, q, ad), I4, J4) ∧ ((r4 = (nI 0) → mm_wc d 178 [.ref 46, .ref 111] ((fl, 0, 0, p, q, ad), I4, J4) (fun v τ => ∃ r5 I5 J5, v = some (.int r5) ∧ τ = ((fl, 0, 0, p, q, ad), I5, J5) ∧ ((r5 = (nI 0) → mm_wc d 178 [.ref 46, .ref 112] ((fl, 0, 0, p, q, ad), I5, J5) (fun v τ => ∃ r6 I6 J6, v = some (.int r6) ∧ τ = ((fl, 0, 0, p, q, ad), I6, J6) ∧ ((r6 = (nI 0) → mm_wc d 177 [.ref 46, .int (nI 1), .int (I6 46 4)] ((fl, 0, 0, p, q, ad), I6, J6) (fun v τ => ∃ I7 J7, v = none ∧ τ = ((fl, 0, 0, p, q, ad), I7, J7) ∧ mm_w Q (mm_wc d) bk_193 122 [some (.ref 46), some (.int (I 50 3)), some (.int (-1)), some (.int (nI 0)), some (.int (nI 0))] [] ((fl, n1, n2, p, q, ad), I7, J7))) ∧ (¬ r6 = (nI 0) → mm_w Q (mm_wc d) bk_193 122 [some (.ref 46), some (.int (I 50 3)), some (.int (nI 3)), some (.int (nI 0)), some (.int (nI 0))] [] ((fl, n1, n2, p, q, ad), I6, J6))))) ∧ (¬ r5 = (nI 0) → mm_w Q (mm_wc d) bk_193 122 [some (.ref 46), some (.int (I 50 3)), some (.int (nI 2)), some (.int (nI 0)), some (.int (nI 0))] [] ((fl, n1, n2, p, q, ad), I5, J5))))) ∧ (¬ r4 = (nI 0) → mm_w Q (mm_wc d) bk_193 122 [some (.ref 46), some (.int (I 50 3)), some (.int (nI 1)), some (.int (nI 0)), some (.int (nI 0))] [] ((fl, n1, n2, p, q, ad), I4, J4))))) ∧ (¬ r3 = (nI 0) → mm_w Q (mm_wc d) bk_193 122 [some (.ref 46), some (.int (I 50 3)), some (.int (nI 0)), some (.int (nI 0)), some (.int (nI 0))] [] ((fl, n1, n2, p, q, ad), I3, J3))))) ∧ (¬ (I2 46 13) = (nI 0) → Q none ((fl, n1, n2, p, q, ad), I2, J2))))) ∧ (¬ (I1 46 13) = (nI 0) → Q none ((fl, n1, n2, p, q, ad), I1, J1))))) ∧ (¬ (I 46 13) = (nI 0) → Q none ((fl, n1, n2, p, q, ad), I, J)))) : mm_wc (d + 1) 193 [.ref 46] ((fl, n1, n2, p, q, ad), I, J) Q := by
  refine mm_call (c := 193) rfl rfl ?_
  refine mm_go [122] 80 ?_
  show ((I 46 13) = (nI 0) → _) ∧ (¬ (I 46 13) = (nI 0) → _)
  refine ⟨fun c0 => ?_, fun c0 => ?_⟩
  · show mm_u _ _ _ _ _ _ [some (.ref 46), none, none, none, none] [] ((fl, n1, n2, p, q, ad), I, J)
    show (vp_in (nI 3) 279) ∧ _
    refine ⟨(mm_inl (by decide)), ?_⟩
    show mm_b _ _ _ _ _ [some (.ref 46), none, none, none, none] [.int (I 50 3)] ((fl, n1, n2, p, q, ad), I, J)
    show mm_wc d 183 [.ref 46, .int (I 50 3)] ((fl, 0, 0, p, q, ad), I, J) _
    refine mm_wcm (h.1 c0) ?_
    rintro v τ ⟨I1, J1, rfl, rfl, h1⟩
    refine mm_r0' ⟨rfl, ?_⟩
    show mm_b _ _ _ _ _ [some (.ref 46), some (.int (I 50 3)), none, none, none] [] ((fl, n1, n2, p, q, ad), I1, J1)
    show ((I1 46 13) = (nI 0) → _) ∧ (¬ (I1 46 13) = (nI 0) → _)
    refine ⟨fun c1 => ?_, fun c1 => ?_⟩
    · show mm_u _ _ _ _ _ _ [some (.ref 46), some (.int (I 50 3)), none, none, none] [] ((fl, n1, n2, p, q, ad), I1, J1)
      show mm_wc d 192 [.ref 46, .int ((nI 13) + (I 50 3)), .int ((nI 24) + (I 50 3))] ((fl, 0, 0, p, q, ad), I1, J1) _
      refine mm_wcm (h1.1 c1) ?_
      rintro v τ ⟨I2, J2, rfl, rfl, h2⟩
      refine mm_r0' ⟨rfl, ?_⟩
      show mm_b _ _ _ _ _ [some (.ref 46), some (.int (I 50 3)), none, none, none] [] ((fl, n1, n2, p, q, ad), I2, J2)
      show ((I2 46 13) = (nI 0) → _) ∧ (¬ (I2 46 13) = (nI 0) → _)
      refine ⟨fun c2 => ?_, fun c2 => ?_⟩
      · show mm_u _ _ _ _ _ _ [some (.ref 46), some (.int (I 50 3)), none, none, none] [] ((fl, n1, n2, p, q, ad), I2, J2)
        show mm_wc d 178 [.ref 46, .ref 109] ((fl, 0, 0, p, q, ad), I2, J2) _
        refine mm_wcm (h2.1 c2) ?_
        rintro v τ ⟨r3, I3, J3, rfl, rfl, h3⟩
        refine mm_r1' ⟨rfl, ?_⟩
        show mm_b _ _ _ _ _ [some (.ref 46), some (.int (I 50 3)), none, none, none] [.int r3] ((fl, n1, n2, p, q, ad), I3, J3)
        show (r3 = (nI 0) → _) ∧ (¬ r3 = (nI 0) → _)
        refine ⟨fun c3 => ?_, fun c3 => ?_⟩
        · show mm_u _ _ _ _ _ _ [some (.ref 46), some (.int (I 50 3)), none, none, none] [] ((fl, n1, n2, p, q, ad), I3, J3)
          show mm_wc d 178 [.ref 46, .ref 110] ((fl, 0, 0, p, q, ad), I3, J3) _
          refine mm_wcm (h3.1 c3) ?_
          rintro v τ ⟨r4, I4, J4, rfl, rfl, h4⟩
          refine mm_r1' ⟨rfl, ?_⟩
          show mm_b _ _ _ _ _ [some (.ref 46), some (.int (I 50 3)), none, none, none] [.int r4] ((fl, n1, n2, p, q, ad), I4, J4)
          show (r4 = (nI 0) → _) ∧ (¬ r4 = (nI 0) → _)
          refine ⟨fun c4 => ?_, fun c4 => ?_⟩
          · show mm_u _ _ _ _ _ _ [some (.ref 46), some (.int (I 50 3)), none, none, none] [] ((fl, n1, n2, p, q, ad), I4, J4)
            show mm_wc d 178 [.ref 46, .ref 111] ((fl, 0, 0, p, q, ad), I4, J4) _
            refine mm_wcm (h4.1 c4) ?_
            rintro v τ ⟨r5, I5, J5, rfl, rfl, h5⟩
            refine mm_r1' ⟨rfl, ?_⟩
            show mm_b _ _ _ _ _ [some (.ref 46), some (.int (I 50 3)), none, none, none] [.int r5] ((fl, n1, n2, p, q, ad), I5, J5)
            show (r5 = (nI 0) → _) ∧ (¬ r5 = (nI 0) → _)
            refine ⟨fun c5 => ?_, fun c5 => ?_⟩
            · show mm_u _ _ _ _ _ _ [some (.ref 46), some (.int (I 50 3)), none, none, none] [] ((fl, n1, n2, p, q, ad), I5, J5)
              show mm_wc d 178 [.ref 46, .ref 112] ((fl, 0, 0, p, q, ad), I5, J5) _
              refine mm_wcm (h5.1 c5) ?_
              rintro v τ ⟨r6, I6, J6, rfl, rfl, h6⟩
              refine mm_r1' ⟨rfl, ?_⟩
              show mm_b _ _ _ _ _ [some (.ref 46), some (.int (I 50 3)), none, none, none] [.int r6] ((fl, n1, n2, p, q, ad), I6, J6)
              show (r6 = (nI 0) → _) ∧ (¬ r6 = (nI 0) → _)
              refine ⟨fun c6 => ?_, fun c6 => ?_⟩
              · show mm_u _ _ _ _ _ _ [some (.ref 46), some (.int (I 50 3)), none, none, none] [] ((fl, n1, n2, p, q, ad), I6, J6)
                show (((nI 0) : Int32) ≤ (-1) → _) ∧ (¬ ((nI 0) : Int32) ≤ (-1) → _)
                refine ⟨fun q => absurd q (by decide), fun _ => ?_⟩
                show mm_b _ _ _ _ _ [some (.ref 46), some (.int (I 50 3)), some (.int (-1)), none, none] [] ((fl, n1, n2, p, q, ad), I6, J6)
                show mm_wc d 177 [.ref 46, .int (nI 1), .int (I6 46 4)] ((fl, 0, 0, p, q, ad), I6, J6) _
                refine mm_wcm (h6.1 c6) ?_
                rintro v τ ⟨I7, J7, rfl, rfl, h7⟩
                refine mm_r0' ⟨rfl, ?_⟩
                exact h7
              · show mm_b _ _ _ _ _ [some (.ref 46), some (.int (I 50 3)), none, none, none] [] ((fl, n1, n2, p, q, ad), I6, J6)
                show (((nI 0) : Int32) ≤ (nI 3) → _) ∧ (¬ ((nI 0) : Int32) ≤ (nI 3) → _)
                refine ⟨fun _ => ?_, fun q => absurd q (by decide)⟩
                exact (h6.2 c6)
            · show mm_b _ _ _ _ _ [some (.ref 46), some (.int (I 50 3)), none, none, none] [] ((fl, n1, n2, p, q, ad), I5, J5)
              show (((nI 0) : Int32) ≤ (nI 2) → _) ∧ (¬ ((nI 0) : Int32) ≤ (nI 2) → _)
              refine ⟨fun _ => ?_, fun q => absurd q (by decide)⟩
              exact (h5.2 c5)
          · show mm_b _ _ _ _ _ [some (.ref 46), some (.int (I 50 3)), none, none, none] [] ((fl, n1, n2, p, q, ad), I4, J4)
            show (((nI 0) : Int32) ≤ (nI 1) → _) ∧ (¬ ((nI 0) : Int32) ≤ (nI 1) → _)
            refine ⟨fun _ => ?_, fun q => absurd q (by decide)⟩
            exact (h4.2 c4)
        · show mm_b _ _ _ _ _ [some (.ref 46), some (.int (I 50 3)), none, none, none] [] ((fl, n1, n2, p, q, ad), I3, J3)
          show (((nI 0) : Int32) ≤ (nI 0) → _) ∧ (¬ ((nI 0) : Int32) ≤ (nI 0) → _)
          refine ⟨fun _ => ?_, fun q => absurd q (by decide)⟩
          exact (h3.2 c3)
      · exact (h2.2 c2)
    · exact (h1.2 c1)
  · exact (h.2 c0)
theorem fx_193_122 {d : Nat} {a1 : Int32} {a2 : Int32} {a3 : Int32} {a4 : Int32} {fl : Nat → Bool} {n1 n2 : Nat} {p q : Bool} {ad : Nat → Nat} {I : mmI} {J : mmJ} {Q : mmQ} (h : ((a1 ≤ a4 → ((¬ a2 = (nI 3) → (((I 46 13) = (nI 0) → mm_wc d 176 [.ref 46] ((fl, 0, 0, p, q, ad), I, J) (fun v τ => ∃ I1 J1, v = none ∧ τ = ((fl, 0, 0, p, q, ad), I1, J1) ∧ (vp_in ((nI 35) + a1) 279 ∧ Q none ((fl, n1, n2, p, q, ad), (mm_up (mm_up I1 50 (((nI 35) + a1)).toNatClampNeg a2) 50 3 (((mm_up I1 50 (((nI 35) + a1)).toNatClampNeg a2) 50 3) + (nI 1))), J1)))) ∧ (¬ (I 46 13) = (nI 0) → Q none ((fl, n1, n2, p, q, ad), I, J)))) ∧ (a2 = (nI 3) → ((¬ a3 = (nI 3) → (((I 46 13) = (nI 0) → mm_wc d 176 [.ref 46] ((fl, 0, 0, p, q, ad), I, J) (fun v τ => ∃ I2 J2, v = none ∧ τ = ((fl, 0, 0, p, q, ad), I2, J2) ∧ (vp_in ((nI 35) + a1) 279 ∧ Q none ((fl, n1, n2, p, q, ad), (mm_up (mm_up I2 50 (((nI 35) + a1)).toNatClampNeg a2) 50 3 (((mm_up I2 50 (((nI 35) + a1)).toNatClampNeg a2) 50 3) + (nI 1))), J2)))) ∧ (¬ (I 46 13) = (nI 0) → Q none ((fl, n1, n2, p, q, ad), I, J)))) ∧ (a3 = (nI 3) → mm_wc d 177 [.ref 46, .int (nI 5), .int (I 46 4)] ((fl, 0, 0, p, q, ad), I, J) (fun v τ => ∃ I3 J3, v = none ∧ τ = ((fl, 0, 0, p, q, ad), I3, J3) ∧ (((I3 46 13) = (nI 0) → mm_wc d 176 [.ref 46] ((fl, 0, 0, p, q, ad), I3, J3) (fun v τ => ∃ I4 J4, v = none ∧ τ = ((fl, 0, 0, p, q, ad), I4, J4) ∧ (vp_in ((nI 35) + a1) 279 ∧ Q none ((fl, n1, n2, p, q, ad), (mm_up (mm_up I4 50 (((nI 35) + a1)).toNatClampNeg a2) 50 3 (((mm_up I4 50 (((nI 35) + a1)).toNatClampNeg a2) 50 3) + (nI 1))), J4)))) ∧ (¬ (I3 46 13) = (nI 0) → Q none ((fl, n1, n2, p, q, ad), I3, J3))))))))) ∧ (¬ a1 ≤ a4 → (vp_in ((nI 35) + a4) 279 ∧ ((¬ (I 50 (((nI 35) + a4)).toNatClampNeg) = (nI 3) → mm_w Q (mm_wc d) bk_193 122 [some (.ref 46), some (.int a1), some (.int a2), some (.int (a3 + (nI 0))), some (.int (a4 + (nI 1)))] [] ((fl, n1, n2, p, q, ad), I, J)) ∧ ((I 50 (((nI 35) + a4)).toNatClampNeg) = (nI 3) → mm_w Q (mm_wc d) bk_193 122 [some (.ref 46), some (.int a1), some (.int a2), some (.int (a3 + (nI 1))), some (.int (a4 + (nI 1)))] [] ((fl, n1, n2, p, q, ad), I, J))))))) : mm_w Q (mm_wc (d)) bk_193 122 [some (.ref 46), some (.int a1), some (.int a2), some (.int a3), some (.int a4)] [] ((fl, n1, n2, p, q, ad), I, J) := by
  refine mm_go [122] 80 ?_
  show (a1 ≤ a4 → _) ∧ (¬ a1 ≤ a4 → _)
  refine ⟨fun c0 => ?_, fun c0 => ?_⟩
  · show mm_u _ _ _ _ _ _ [some (.ref 46), some (.int a1), some (.int a2), some (.int a3), some (.int a4)] [] ((fl, n1, n2, p, q, ad), I, J)
    show (¬ a2 = (nI 3) → _) ∧ (a2 = (nI 3) → _)
    refine ⟨fun c1 => ?_, fun c1 => ?_⟩
    · show mm_u _ _ _ _ _ _ [some (.ref 46), some (.int a1), some (.int a2), some (.int a3), none] [] ((fl, n1, n2, p, q, ad), I, J)
      show ((I 46 13) = (nI 0) → _) ∧ (¬ (I 46 13) = (nI 0) → _)
      refine ⟨fun c2 => ?_, fun c2 => ?_⟩
      · show mm_u _ _ _ _ _ _ [some (.ref 46), some (.int a1), some (.int a2), none, none] [] ((fl, n1, n2, p, q, ad), I, J)
        show mm_wc d 176 [.ref 46] ((fl, 0, 0, p, q, ad), I, J) _
        refine mm_wcm (((h.1 c0).1 c1).1 c2) ?_
        rintro v τ ⟨I1, J1, rfl, rfl, h1⟩
        refine mm_r0' ⟨rfl, ?_⟩
        show mm_b _ _ _ _ _ [some (.ref 46), some (.int a1), some (.int a2), none, none] [] ((fl, n1, n2, p, q, ad), I1, J1)
        show vp_in ((nI 35) + a1) 279 ∧ _
        refine ⟨h1.1, ?_⟩
        show mm_b _ _ _ _ _ [some (.ref 46), some (.int a1), some (.int a2), none, none] [] ((fl, n1, n2, p, q, ad), (mm_up I1 50 (((nI 35) + a1)).toNatClampNeg a2), J1)
        show (vp_in (nI 3) 279) ∧ _
        refine ⟨(mm_inl (by decide)), ?_⟩
        show mm_b _ _ _ _ _ [some (.ref 46), some (.int a1), some (.int a2), none, none] [.int ((mm_up I1 50 (((nI 35) + a1)).toNatClampNeg a2) 50 3), .int (nI 3), .ref 50] ((fl, n1, n2, p, q, ad), (mm_up I1 50 (((nI 35) + a1)).toNatClampNeg a2), J1)
        show (vp_in (nI 3) 279) ∧ _
        refine ⟨(mm_inl (by decide)), ?_⟩
        exact h1.2
      · exact (((h.1 c0).1 c1).2 c2)
    · show mm_b _ _ _ _ _ [some (.ref 46), some (.int a1), some (.int a2), some (.int a3), none] [] ((fl, n1, n2, p, q, ad), I, J)
      show (¬ a3 = (nI 3) → _) ∧ (a3 = (nI 3) → _)
      refine ⟨fun c2 => ?_, fun c2 => ?_⟩
      · show mm_u _ _ _ _ _ _ [some (.ref 46), some (.int a1), some (.int a2), some (.int a3), none] [] ((fl, n1, n2, p, q, ad), I, J)
        show ((I 46 13) = (nI 0) → _) ∧ (¬ (I 46 13) = (nI 0) → _)
        refine ⟨fun c3 => ?_, fun c3 => ?_⟩
        · show mm_u _ _ _ _ _ _ [some (.ref 46), some (.int a1), some (.int a2), none, none] [] ((fl, n1, n2, p, q, ad), I, J)
          show mm_wc d 176 [.ref 46] ((fl, 0, 0, p, q, ad), I, J) _
          refine mm_wcm ((((h.1 c0).2 c1).1 c2).1 c3) ?_
          rintro v τ ⟨I2, J2, rfl, rfl, h2⟩
          refine mm_r0' ⟨rfl, ?_⟩
          show mm_b _ _ _ _ _ [some (.ref 46), some (.int a1), some (.int a2), none, none] [] ((fl, n1, n2, p, q, ad), I2, J2)
          show vp_in ((nI 35) + a1) 279 ∧ _
          refine ⟨h2.1, ?_⟩
          show mm_b _ _ _ _ _ [some (.ref 46), some (.int a1), some (.int a2), none, none] [] ((fl, n1, n2, p, q, ad), (mm_up I2 50 (((nI 35) + a1)).toNatClampNeg a2), J2)
          show (vp_in (nI 3) 279) ∧ _
          refine ⟨(mm_inl (by decide)), ?_⟩
          show mm_b _ _ _ _ _ [some (.ref 46), some (.int a1), some (.int a2), none, none] [.int ((mm_up I2 50 (((nI 35) + a1)).toNatClampNeg a2) 50 3), .int (nI 3), .ref 50] ((fl, n1, n2, p, q, ad), (mm_up I2 50 (((nI 35) + a1)).toNatClampNeg a2), J2)
          show (vp_in (nI 3) 279) ∧ _
          refine ⟨(mm_inl (by decide)), ?_⟩
          exact h2.2
        · exact ((((h.1 c0).2 c1).1 c2).2 c3)
      · show mm_b _ _ _ _ _ [some (.ref 46), some (.int a1), some (.int a2), some (.int a3), none] [] ((fl, n1, n2, p, q, ad), I, J)
        show mm_wc d 177 [.ref 46, .int (nI 5), .int (I 46 4)] ((fl, 0, 0, p, q, ad), I, J) _
        refine mm_wcm (((h.1 c0).2 c1).2 c2) ?_
        rintro v τ ⟨I3, J3, rfl, rfl, h3⟩
        refine mm_r0' ⟨rfl, ?_⟩
        show mm_b _ _ _ _ _ [some (.ref 46), some (.int a1), some (.int a2), some (.int a3), none] [] ((fl, n1, n2, p, q, ad), I3, J3)
        show ((I3 46 13) = (nI 0) → _) ∧ (¬ (I3 46 13) = (nI 0) → _)
        refine ⟨fun c3 => ?_, fun c3 => ?_⟩
        · show mm_u _ _ _ _ _ _ [some (.ref 46), some (.int a1), some (.int a2), none, none] [] ((fl, n1, n2, p, q, ad), I3, J3)
          show mm_wc d 176 [.ref 46] ((fl, 0, 0, p, q, ad), I3, J3) _
          refine mm_wcm (h3.1 c3) ?_
          rintro v τ ⟨I4, J4, rfl, rfl, h4⟩
          refine mm_r0' ⟨rfl, ?_⟩
          show mm_b _ _ _ _ _ [some (.ref 46), some (.int a1), some (.int a2), none, none] [] ((fl, n1, n2, p, q, ad), I4, J4)
          show vp_in ((nI 35) + a1) 279 ∧ _
          refine ⟨h4.1, ?_⟩
          show mm_b _ _ _ _ _ [some (.ref 46), some (.int a1), some (.int a2), none, none] [] ((fl, n1, n2, p, q, ad), (mm_up I4 50 (((nI 35) + a1)).toNatClampNeg a2), J4)
          show (vp_in (nI 3) 279) ∧ _
          refine ⟨(mm_inl (by decide)), ?_⟩
          show mm_b _ _ _ _ _ [some (.ref 46), some (.int a1), some (.int a2), none, none] [.int ((mm_up I4 50 (((nI 35) + a1)).toNatClampNeg a2) 50 3), .int (nI 3), .ref 50] ((fl, n1, n2, p, q, ad), (mm_up I4 50 (((nI 35) + a1)).toNatClampNeg a2), J4)
          show (vp_in (nI 3) 279) ∧ _
          refine ⟨(mm_inl (by decide)), ?_⟩
          exact h4.2
        · exact (h3.2 c3)
  · show mm_b _ _ _ _ _ [some (.ref 46), some (.int a1), some (.int a2), some (.int a3), some (.int a4)] [] ((fl, n1, n2, p, q, ad), I, J)
    show vp_in ((nI 35) + a4) 279 ∧ _
    refine ⟨(h.2 c0).1, ?_⟩
    show mm_b _ _ _ _ _ [some (.ref 46), some (.int a1), some (.int a2), some (.int a3), some (.int a4)] [.int (I 50 (((nI 35) + a4)).toNatClampNeg), .int a3] ((fl, n1, n2, p, q, ad), I, J)
    show (¬ (I 50 (((nI 35) + a4)).toNatClampNeg) = (nI 3) → _) ∧ ((I 50 (((nI 35) + a4)).toNatClampNeg) = (nI 3) → _)
    refine ⟨fun c1 => ?_, fun c1 => ?_⟩
    · exact ((h.2 c0).2.1 c1)
    · exact ((h.2 c0).2.2 c1)
/- 194 ThreeBreathsModel placeLine -/
theorem fx_194 {d : Nat} {fl : Nat → Bool} {n1 n2 : Nat} {p q : Bool} {ad : Nat → Nat} {I : mmI} {J : mmJ} {Q : mmQ} (h : (((I 46 13) = (nI 0) → mm_wc d 183 [.ref 46, .int ((nI 10) + (I 50 4))] ((fl, 0, 0, p, q, ad), I, J) (fun v τ => ∃ I1 J1, v = none ∧ τ = ((fl, 0, 0, p, q, ad), I1, J1) ∧ (((I1 46 13) = (nI 0) → mm_wc d 192 [.ref 46, .int ((nI 46) + (I 50 4)), .int ((nI 51) + (I 50 4))] ((fl, 0, 0, p, q, ad), I1, J1) (fun v τ => ∃ I2 J2, v = none ∧ τ = ((fl, 0, 0, p, q, ad), I2, J2) ∧ ((¬ (I2 46 13) = (nI 0) → Q none ((fl, n1, n2, p, q, ad), I2, J2)) ∧ ((I2 46 13) = (nI 0) → Q none ((fl, n1, n2, p, q, ad), (mm_up I2 50 4 ((I2 50 4) + (nI 1))), J2))))) ∧ (¬ (I1 46 13) = (nI 0) → Q none ((fl, n1, n2, p, q, ad), I1, J1))))) ∧ (¬ (I 46 13) = (nI 0) → Q none ((fl, n1, n2, p, q, ad), I, J)))) : mm_wc (d + 1) 194 [.ref 46] ((fl, n1, n2, p, q, ad), I, J) Q := by
  refine mm_call (c := 194) rfl rfl ?_
  refine mm_go [] 80 ?_
  show ((I 46 13) = (nI 0) → _) ∧ (¬ (I 46 13) = (nI 0) → _)
  refine ⟨fun c0 => ?_, fun c0 => ?_⟩
  · show mm_u _ _ _ _ _ _ [some (.ref 46), none] [] ((fl, n1, n2, p, q, ad), I, J)
    show (vp_in (nI 4) 279) ∧ _
    refine ⟨(mm_inl (by decide)), ?_⟩
    show mm_b _ _ _ _ _ [some (.ref 46), none] [.int (I 50 4)] ((fl, n1, n2, p, q, ad), I, J)
    show mm_wc d 183 [.ref 46, .int ((nI 10) + (I 50 4))] ((fl, 0, 0, p, q, ad), I, J) _
    refine mm_wcm (h.1 c0) ?_
    rintro v τ ⟨I1, J1, rfl, rfl, h1⟩
    refine mm_r0' ⟨rfl, ?_⟩
    show mm_b _ _ _ _ _ [some (.ref 46), some (.int (I 50 4))] [] ((fl, n1, n2, p, q, ad), I1, J1)
    show ((I1 46 13) = (nI 0) → _) ∧ (¬ (I1 46 13) = (nI 0) → _)
    refine ⟨fun c1 => ?_, fun c1 => ?_⟩
    · show mm_u _ _ _ _ _ _ [some (.ref 46), some (.int (I 50 4))] [] ((fl, n1, n2, p, q, ad), I1, J1)
      show mm_wc d 192 [.ref 46, .int ((nI 46) + (I 50 4)), .int ((nI 51) + (I 50 4))] ((fl, 0, 0, p, q, ad), I1, J1) _
      refine mm_wcm (h1.1 c1) ?_
      rintro v τ ⟨I2, J2, rfl, rfl, h2⟩
      refine mm_r0' ⟨rfl, ?_⟩
      show mm_b _ _ _ _ _ [some (.ref 46), some (.int (I 50 4))] [] ((fl, n1, n2, p, q, ad), I2, J2)
      show (¬ (I2 46 13) = (nI 0) → _) ∧ ((I2 46 13) = (nI 0) → _)
      refine ⟨fun c2 => ?_, fun c2 => ?_⟩
      · exact (h2.1 c2)
      · show mm_b _ _ _ _ _ [some (.ref 46), some (.int (I 50 4))] [] ((fl, n1, n2, p, q, ad), I2, J2)
        show (vp_in (nI 4) 279) ∧ _
        refine ⟨(mm_inl (by decide)), ?_⟩
        show mm_b _ _ _ _ _ [some (.ref 46), some (.int (I 50 4))] [.int (I2 50 4), .int (nI 4), .ref 50] ((fl, n1, n2, p, q, ad), I2, J2)
        show (vp_in (nI 4) 279) ∧ _
        refine ⟨(mm_inl (by decide)), ?_⟩
        exact (h2.2 c2)
    · exact (h1.2 c1)
  · exact (h.2 c0)
/- 195 ThreeBreathsModel spotLine -/
theorem fx_195 {d : Nat} {fl : Nat → Bool} {n1 n2 : Nat} {p q : Bool} {ad : Nat → Nat} {I : mmI} {J : mmJ} {Q : mmQ} (h : (((I 46 13) = (nI 0) → mm_wc d 183 [.ref 46, .int ((nI 15) + (I 50 5))] ((fl, 0, 0, p, q, ad), I, J) (fun v τ => ∃ I1 J1, v = none ∧ τ = ((fl, 0, 0, p, q, ad), I1, J1) ∧ (((I1 46 13) = (nI 0) → mm_wc d 192 [.ref 46, .int ((nI 56) + (I 50 5)), .int ((nI 60) + (I 50 5))] ((fl, 0, 0, p, q, ad), I1, J1) (fun v τ => ∃ I2 J2, v = none ∧ τ = ((fl, 0, 0, p, q, ad), I2, J2) ∧ ((¬ (I2 46 13) = (nI 0) → Q none ((fl, n1, n2, p, q, ad), I2, J2)) ∧ ((I2 46 13) = (nI 0) → Q none ((fl, n1, n2, p, q, ad), (mm_up I2 50 5 ((I2 50 5) + (nI 1))), J2))))) ∧ (¬ (I1 46 13) = (nI 0) → Q none ((fl, n1, n2, p, q, ad), I1, J1))))) ∧ (¬ (I 46 13) = (nI 0) → Q none ((fl, n1, n2, p, q, ad), I, J)))) : mm_wc (d + 1) 195 [.ref 46] ((fl, n1, n2, p, q, ad), I, J) Q := by
  refine mm_call (c := 195) rfl rfl ?_
  refine mm_go [] 80 ?_
  show ((I 46 13) = (nI 0) → _) ∧ (¬ (I 46 13) = (nI 0) → _)
  refine ⟨fun c0 => ?_, fun c0 => ?_⟩
  · show mm_u _ _ _ _ _ _ [some (.ref 46), none] [] ((fl, n1, n2, p, q, ad), I, J)
    show (vp_in (nI 5) 279) ∧ _
    refine ⟨(mm_inl (by decide)), ?_⟩
    show mm_b _ _ _ _ _ [some (.ref 46), none] [.int (I 50 5)] ((fl, n1, n2, p, q, ad), I, J)
    show mm_wc d 183 [.ref 46, .int ((nI 15) + (I 50 5))] ((fl, 0, 0, p, q, ad), I, J) _
    refine mm_wcm (h.1 c0) ?_
    rintro v τ ⟨I1, J1, rfl, rfl, h1⟩
    refine mm_r0' ⟨rfl, ?_⟩
    show mm_b _ _ _ _ _ [some (.ref 46), some (.int (I 50 5))] [] ((fl, n1, n2, p, q, ad), I1, J1)
    show ((I1 46 13) = (nI 0) → _) ∧ (¬ (I1 46 13) = (nI 0) → _)
    refine ⟨fun c1 => ?_, fun c1 => ?_⟩
    · show mm_u _ _ _ _ _ _ [some (.ref 46), some (.int (I 50 5))] [] ((fl, n1, n2, p, q, ad), I1, J1)
      show mm_wc d 192 [.ref 46, .int ((nI 56) + (I 50 5)), .int ((nI 60) + (I 50 5))] ((fl, 0, 0, p, q, ad), I1, J1) _
      refine mm_wcm (h1.1 c1) ?_
      rintro v τ ⟨I2, J2, rfl, rfl, h2⟩
      refine mm_r0' ⟨rfl, ?_⟩
      show mm_b _ _ _ _ _ [some (.ref 46), some (.int (I 50 5))] [] ((fl, n1, n2, p, q, ad), I2, J2)
      show (¬ (I2 46 13) = (nI 0) → _) ∧ ((I2 46 13) = (nI 0) → _)
      refine ⟨fun c2 => ?_, fun c2 => ?_⟩
      · exact (h2.1 c2)
      · show mm_b _ _ _ _ _ [some (.ref 46), some (.int (I 50 5))] [] ((fl, n1, n2, p, q, ad), I2, J2)
        show (vp_in (nI 5) 279) ∧ _
        refine ⟨(mm_inl (by decide)), ?_⟩
        show mm_b _ _ _ _ _ [some (.ref 46), some (.int (I 50 5))] [.int (I2 50 5), .int (nI 5), .ref 50] ((fl, n1, n2, p, q, ad), I2, J2)
        show (vp_in (nI 5) 279) ∧ _
        refine ⟨(mm_inl (by decide)), ?_⟩
        exact (h2.2 c2)
    · exact (h1.2 c1)
  · exact (h.2 c0)
/- 196 ThreeBreathsModel personLine -/
theorem fx_196 {d : Nat} {fl : Nat → Bool} {n1 n2 : Nat} {p q : Bool} {ad : Nat → Nat} {I : mmI} {J : mmJ} {Q : mmQ} (h : (((I 46 13) = (nI 0) → mm_wc d 183 [.ref 46, .int ((nI 19) + (I 50 6))] ((fl, 0, 0, p, q, ad), I, J) (fun v τ => ∃ I1 J1, v = none ∧ τ = ((fl, 0, 0, p, q, ad), I1, J1) ∧ (((I1 46 13) = (nI 0) → mm_wc d 185 [.ref 46, .ref 113, .int (nI 1), .int (nI 30)] ((fl, 0, 0, p, q, ad), I1, J1) (fun v τ => ∃ r2 I2 J2, v = some (.int r2) ∧ τ = ((fl, 0, 0, p, q, ad), I2, J2) ∧ (vp_in ((nI 64) + (I 50 6)) 279 ∧ mm_wc d 185 [.ref 46, .ref 114, .int (nI 0), .int (nI 30)] ((fl, 0, 0, p, q, ad), (mm_up I2 50 (((nI 64) + (I 50 6))).toNatClampNeg r2), J2) (fun v τ => ∃ r3 I3 J3, v = some (.int r3) ∧ τ = ((fl, 0, 0, p, q, ad), I3, J3) ∧ (vp_in ((nI 68) + (I 50 6)) 279 ∧ ((¬ (I3 46 13) = (nI 0) → Q none ((fl, n1, n2, p, q, ad), (mm_up I3 50 (((nI 68) + (I 50 6))).toNatClampNeg r3), J3)) ∧ ((I3 46 13) = (nI 0) → Q none ((fl, n1, n2, p, q, ad), (mm_up (mm_up I3 50 (((nI 68) + (I 50 6))).toNatClampNeg r3) 50 6 (((mm_up I3 50 (((nI 68) + (I 50 6))).toNatClampNeg r3) 50 6) + (nI 1))), J3)))))))) ∧ (¬ (I1 46 13) = (nI 0) → Q none ((fl, n1, n2, p, q, ad), I1, J1))))) ∧ (¬ (I 46 13) = (nI 0) → Q none ((fl, n1, n2, p, q, ad), I, J)))) : mm_wc (d + 1) 196 [.ref 46] ((fl, n1, n2, p, q, ad), I, J) Q := by
  refine mm_call (c := 196) rfl rfl ?_
  refine mm_go [] 80 ?_
  show ((I 46 13) = (nI 0) → _) ∧ (¬ (I 46 13) = (nI 0) → _)
  refine ⟨fun c0 => ?_, fun c0 => ?_⟩
  · show mm_u _ _ _ _ _ _ [some (.ref 46), none] [] ((fl, n1, n2, p, q, ad), I, J)
    show (vp_in (nI 6) 279) ∧ _
    refine ⟨(mm_inl (by decide)), ?_⟩
    show mm_b _ _ _ _ _ [some (.ref 46), none] [.int (I 50 6)] ((fl, n1, n2, p, q, ad), I, J)
    show mm_wc d 183 [.ref 46, .int ((nI 19) + (I 50 6))] ((fl, 0, 0, p, q, ad), I, J) _
    refine mm_wcm (h.1 c0) ?_
    rintro v τ ⟨I1, J1, rfl, rfl, h1⟩
    refine mm_r0' ⟨rfl, ?_⟩
    show mm_b _ _ _ _ _ [some (.ref 46), some (.int (I 50 6))] [] ((fl, n1, n2, p, q, ad), I1, J1)
    show ((I1 46 13) = (nI 0) → _) ∧ (¬ (I1 46 13) = (nI 0) → _)
    refine ⟨fun c1 => ?_, fun c1 => ?_⟩
    · show mm_u _ _ _ _ _ _ [some (.ref 46), some (.int (I 50 6))] [] ((fl, n1, n2, p, q, ad), I1, J1)
      show mm_wc d 185 [.ref 46, .ref 113, .int (nI 1), .int (nI 30)] ((fl, 0, 0, p, q, ad), I1, J1) _
      refine mm_wcm (h1.1 c1) ?_
      rintro v τ ⟨r2, I2, J2, rfl, rfl, h2⟩
      refine mm_r1' ⟨rfl, ?_⟩
      show mm_b _ _ _ _ _ [some (.ref 46), some (.int (I 50 6))] [.int r2, .int ((nI 64) + (I 50 6)), .ref 50] ((fl, n1, n2, p, q, ad), I2, J2)
      show vp_in ((nI 64) + (I 50 6)) 279 ∧ _
      refine ⟨h2.1, ?_⟩
      show mm_b _ _ _ _ _ [some (.ref 46), some (.int (I 50 6))] [] ((fl, n1, n2, p, q, ad), (mm_up I2 50 (((nI 64) + (I 50 6))).toNatClampNeg r2), J2)
      show mm_wc d 185 [.ref 46, .ref 114, .int (nI 0), .int (nI 30)] ((fl, 0, 0, p, q, ad), (mm_up I2 50 (((nI 64) + (I 50 6))).toNatClampNeg r2), J2) _
      refine mm_wcm (h2.2) ?_
      rintro v τ ⟨r3, I3, J3, rfl, rfl, h3⟩
      refine mm_r1' ⟨rfl, ?_⟩
      show mm_b _ _ _ _ _ [some (.ref 46), some (.int (I 50 6))] [.int r3, .int ((nI 68) + (I 50 6)), .ref 50] ((fl, n1, n2, p, q, ad), I3, J3)
      show vp_in ((nI 68) + (I 50 6)) 279 ∧ _
      refine ⟨h3.1, ?_⟩
      show mm_b _ _ _ _ _ [some (.ref 46), some (.int (I 50 6))] [] ((fl, n1, n2, p, q, ad), (mm_up I3 50 (((nI 68) + (I 50 6))).toNatClampNeg r3), J3)
      show (¬ (I3 46 13) = (nI 0) → _) ∧ ((I3 46 13) = (nI 0) → _)
      refine ⟨fun c2 => ?_, fun c2 => ?_⟩
      · exact (h3.2.1 c2)
      · show mm_b _ _ _ _ _ [some (.ref 46), some (.int (I 50 6))] [] ((fl, n1, n2, p, q, ad), (mm_up I3 50 (((nI 68) + (I 50 6))).toNatClampNeg r3), J3)
        show (vp_in (nI 6) 279) ∧ _
        refine ⟨(mm_inl (by decide)), ?_⟩
        show mm_b _ _ _ _ _ [some (.ref 46), some (.int (I 50 6))] [.int ((mm_up I3 50 (((nI 68) + (I 50 6))).toNatClampNeg r3) 50 6), .int (nI 6), .ref 50] ((fl, n1, n2, p, q, ad), (mm_up I3 50 (((nI 68) + (I 50 6))).toNatClampNeg r3), J3)
        show (vp_in (nI 6) 279) ∧ _
        refine ⟨(mm_inl (by decide)), ?_⟩
        exact (h3.2.2 c2)
    · exact (h1.2 c1)
  · exact (h.2 c0)
/- 197 ThreeBreathsModel shakyLine -/
theorem fx_197 {d : Nat} {fl : Nat → Bool} {n1 n2 : Nat} {p q : Bool} {ad : Nat → Nat} {I : mmI} {J : mmJ} {Q : mmQ} (h : (((I 46 13) = (nI 0) → mm_wc d 184 [.ref 46, .int (nI 0), .int (nI 9)] ((fl, 0, 0, p, q, ad), I, J) (fun v τ => ∃ r1 I1 J1, v = some (.int r1) ∧ τ = ((fl, 0, 0, p, q, ad), I1, J1) ∧ mm_wc d 187 [.ref 46] ((fl, 0, 0, p, q, ad), (mm_up I1 50 10 r1), J1) (fun v τ => ∃ I2 J2, v = none ∧ τ = ((fl, 0, 0, p, q, ad), I2, J2) ∧ mm_wc d 184 [.ref 46, .int (nI 0), .int (nI 9)] ((fl, 0, 0, p, q, ad), I2, J2) (fun v τ => ∃ r3 I3 J3, v = some (.int r3) ∧ τ = ((fl, 0, 0, p, q, ad), I3, J3) ∧ mm_wc d 187 [.ref 46] ((fl, 0, 0, p, q, ad), (mm_up I3 50 11 r3), J3) (fun v τ => ∃ I4 J4, v = none ∧ τ = ((fl, 0, 0, p, q, ad), I4, J4) ∧ ((¬ ((I4 50 10) + (I4 50 11)) = (nI 0) → mm_wc d 184 [.ref 46, .int (nI 0), .int (nI 9)] ((fl, 0, 0, p, q, ad), I4, J4) (fun v τ => ∃ r5 I5 J5, v = some (.int r5) ∧ τ = ((fl, 0, 0, p, q, ad), I5, J5) ∧ ((¬ (I5 46 13) = (nI 0) → Q none ((fl, n1, n2, p, q, ad), (mm_up I5 50 12 r5), J5)) ∧ ((I5 46 13) = (nI 0) → Q none ((fl, n1, n2, p, q, ad), (mm_up (mm_up I5 50 12 r5) 50 7 (nI 1)), J5))))) ∧ (((I4 50 10) + (I4 50 11)) = (nI 0) → mm_wc d 184 [.ref 46, .int (nI 1), .int (nI 9)] ((fl, 0, 0, p, q, ad), I4, J4) (fun v τ => ∃ r6 I6 J6, v = some (.int r6) ∧ τ = ((fl, 0, 0, p, q, ad), I6, J6) ∧ ((¬ (I6 46 13) = (nI 0) → Q none ((fl, n1, n2, p, q, ad), (mm_up I6 50 12 r6), J6)) ∧ ((I6 46 13) = (nI 0) → Q none ((fl, n1, n2, p, q, ad), (mm_up (mm_up I6 50 12 r6) 50 7 (nI 1)), J6))))))))))) ∧ (¬ (I 46 13) = (nI 0) → Q none ((fl, n1, n2, p, q, ad), I, J)))) : mm_wc (d + 1) 197 [.ref 46] ((fl, n1, n2, p, q, ad), I, J) Q := by
  refine mm_call (c := 197) rfl rfl ?_
  refine mm_go [] 80 ?_
  show ((I 46 13) = (nI 0) → _) ∧ (¬ (I 46 13) = (nI 0) → _)
  refine ⟨fun c0 => ?_, fun c0 => ?_⟩
  · show mm_u _ _ _ _ _ _ [some (.ref 46)] [] ((fl, n1, n2, p, q, ad), I, J)
    show mm_wc d 184 [.ref 46, .int (nI 0), .int (nI 9)] ((fl, 0, 0, p, q, ad), I, J) _
    refine mm_wcm (h.1 c0) ?_
    rintro v τ ⟨r1, I1, J1, rfl, rfl, h1⟩
    refine mm_r1' ⟨rfl, ?_⟩
    show mm_b _ _ _ _ _ [some (.ref 46)] [.int r1, .int (nI 10), .ref 50] ((fl, n1, n2, p, q, ad), I1, J1)
    show (vp_in (nI 10) 279) ∧ _
    refine ⟨(mm_inl (by decide)), ?_⟩
    show mm_b _ _ _ _ _ [some (.ref 46)] [] ((fl, n1, n2, p, q, ad), (mm_up I1 50 10 r1), J1)
    show mm_wc d 187 [.ref 46] ((fl, 0, 0, p, q, ad), (mm_up I1 50 10 r1), J1) _
    refine mm_wcm h1 ?_
    rintro v τ ⟨I2, J2, rfl, rfl, h2⟩
    refine mm_r0' ⟨rfl, ?_⟩
    show mm_b _ _ _ _ _ [some (.ref 46)] [] ((fl, n1, n2, p, q, ad), I2, J2)
    show mm_wc d 184 [.ref 46, .int (nI 0), .int (nI 9)] ((fl, 0, 0, p, q, ad), I2, J2) _
    refine mm_wcm h2 ?_
    rintro v τ ⟨r3, I3, J3, rfl, rfl, h3⟩
    refine mm_r1' ⟨rfl, ?_⟩
    show mm_b _ _ _ _ _ [some (.ref 46)] [.int r3, .int (nI 11), .ref 50] ((fl, n1, n2, p, q, ad), I3, J3)
    show (vp_in (nI 11) 279) ∧ _
    refine ⟨(mm_inl (by decide)), ?_⟩
    show mm_b _ _ _ _ _ [some (.ref 46)] [] ((fl, n1, n2, p, q, ad), (mm_up I3 50 11 r3), J3)
    show mm_wc d 187 [.ref 46] ((fl, 0, 0, p, q, ad), (mm_up I3 50 11 r3), J3) _
    refine mm_wcm h3 ?_
    rintro v τ ⟨I4, J4, rfl, rfl, h4⟩
    refine mm_r0' ⟨rfl, ?_⟩
    show mm_b _ _ _ _ _ [some (.ref 46)] [] ((fl, n1, n2, p, q, ad), I4, J4)
    show (vp_in (nI 10) 279) ∧ _
    refine ⟨(mm_inl (by decide)), ?_⟩
    show mm_b _ _ _ _ _ [some (.ref 46)] [.int (I4 50 10), .ref 46, .int (nI 12), .ref 50] ((fl, n1, n2, p, q, ad), I4, J4)
    show (vp_in (nI 11) 279) ∧ _
    refine ⟨(mm_inl (by decide)), ?_⟩
    show mm_b _ _ _ _ _ [some (.ref 46)] [.int (I4 50 11), .int (I4 50 10), .ref 46, .int (nI 12), .ref 50] ((fl, n1, n2, p, q, ad), I4, J4)
    show (¬ ((I4 50 10) + (I4 50 11)) = (nI 0) → _) ∧ (((I4 50 10) + (I4 50 11)) = (nI 0) → _)
    refine ⟨fun c1 => ?_, fun c1 => ?_⟩
    · show mm_u _ _ _ _ _ _ [some (.ref 46)] [.ref 46, .int (nI 12), .ref 50] ((fl, n1, n2, p, q, ad), I4, J4)
      show mm_wc d 184 [.ref 46, .int (nI 0), .int (nI 9)] ((fl, 0, 0, p, q, ad), I4, J4) _
      refine mm_wcm (h4.1 c1) ?_
      rintro v τ ⟨r5, I5, J5, rfl, rfl, h5⟩
      refine mm_r1' ⟨rfl, ?_⟩
      show mm_b _ _ _ _ _ [some (.ref 46)] [.int r5, .int (nI 12), .ref 50] ((fl, n1, n2, p, q, ad), I5, J5)
      show (vp_in (nI 12) 279) ∧ _
      refine ⟨(mm_inl (by decide)), ?_⟩
      show mm_b _ _ _ _ _ [some (.ref 46)] [] ((fl, n1, n2, p, q, ad), (mm_up I5 50 12 r5), J5)
      show (¬ (I5 46 13) = (nI 0) → _) ∧ ((I5 46 13) = (nI 0) → _)
      refine ⟨fun c2 => ?_, fun c2 => ?_⟩
      · exact (h5.1 c2)
      · show mm_b _ _ _ _ _ [some (.ref 46)] [] ((fl, n1, n2, p, q, ad), (mm_up I5 50 12 r5), J5)
        show (vp_in (nI 7) 279) ∧ _
        refine ⟨(mm_inl (by decide)), ?_⟩
        exact (h5.2 c2)
    · show mm_b _ _ _ _ _ [some (.ref 46)] [.ref 46, .int (nI 12), .ref 50] ((fl, n1, n2, p, q, ad), I4, J4)
      show mm_wc d 184 [.ref 46, .int (nI 1), .int (nI 9)] ((fl, 0, 0, p, q, ad), I4, J4) _
      refine mm_wcm (h4.2 c1) ?_
      rintro v τ ⟨r6, I6, J6, rfl, rfl, h6⟩
      refine mm_r1' ⟨rfl, ?_⟩
      show mm_b _ _ _ _ _ [some (.ref 46)] [.int r6, .int (nI 12), .ref 50] ((fl, n1, n2, p, q, ad), I6, J6)
      show (vp_in (nI 12) 279) ∧ _
      refine ⟨(mm_inl (by decide)), ?_⟩
      show mm_b _ _ _ _ _ [some (.ref 46)] [] ((fl, n1, n2, p, q, ad), (mm_up I6 50 12 r6), J6)
      show (¬ (I6 46 13) = (nI 0) → _) ∧ ((I6 46 13) = (nI 0) → _)
      refine ⟨fun c2 => ?_, fun c2 => ?_⟩
      · exact (h6.1 c2)
      · show mm_b _ _ _ _ _ [some (.ref 46)] [] ((fl, n1, n2, p, q, ad), (mm_up I6 50 12 r6), J6)
        show (vp_in (nI 7) 279) ∧ _
        refine ⟨(mm_inl (by decide)), ?_⟩
        exact (h6.2 c2)
  · exact (h.2 c0)
/- 198 ThreeBreathsModel leftLine -/
theorem fx_198 {d : Nat} {fl : Nat → Bool} {n1 n2 : Nat} {p q : Bool} {ad : Nat → Nat} {I : mmI} {J : mmJ} {Q : mmQ} (h : (((I 46 13) = (nI 0) → mm_wc d 179 [.ref 46, .ref 107] ((fl, 0, 0, p, q, ad), (mm_up I 50 8 (nI 1)), J) (fun v τ => ∃ r1 I1 J1, v = some (.int r1) ∧ τ = ((fl, 0, 0, p, q, ad), I1, J1) ∧ ((r1 = (nI 0) → mm_w Q (mm_wc d) bk_198 28 [some (.ref 46), some (.int (nI 1)), none] [] ((fl, n1, n2, p, q, ad), I1, J1)) ∧ (¬ r1 = (nI 0) → Q none ((fl, n1, n2, p, q, ad), I1, J1))))) ∧ (¬ (I 46 13) = (nI 0) → Q none ((fl, n1, n2, p, q, ad), I, J)))) : mm_wc (d + 1) 198 [.ref 46] ((fl, n1, n2, p, q, ad), I, J) Q := by
  refine mm_call (c := 198) rfl rfl ?_
  refine mm_go [28] 80 ?_
  show ((I 46 13) = (nI 0) → _) ∧ (¬ (I 46 13) = (nI 0) → _)
  refine ⟨fun c0 => ?_, fun c0 => ?_⟩
  · show mm_u _ _ _ _ _ _ [some (.ref 46), none, none] [] ((fl, n1, n2, p, q, ad), I, J)
    show (vp_in (nI 8) 279) ∧ _
    refine ⟨(mm_inl (by decide)), ?_⟩
    show mm_b _ _ _ _ _ [some (.ref 46), none, none] [] ((fl, n1, n2, p, q, ad), (mm_up I 50 8 (nI 1)), J)
    show mm_wc d 179 [.ref 46, .ref 107] ((fl, 0, 0, p, q, ad), (mm_up I 50 8 (nI 1)), J) _
    refine mm_wcm (h.1 c0) ?_
    rintro v τ ⟨r1, I1, J1, rfl, rfl, h1⟩
    refine mm_r1' ⟨rfl, ?_⟩
    show mm_b _ _ _ _ _ [some (.ref 46), none, none] [.int r1] ((fl, n1, n2, p, q, ad), I1, J1)
    show (r1 = (nI 0) → _) ∧ (¬ r1 = (nI 0) → _)
    refine ⟨fun c1 => ?_, fun c1 => ?_⟩
    · exact (h1.1 c1)
    · exact (h1.2 c1)
  · exact (h.2 c0)
theorem fx_198_28 {d : Nat} {a1 : Int32} {fl : Nat → Bool} {n1 n2 : Nat} {p q : Bool} {ad : Nat → Nat} {I : mmI} {J : mmJ} {Q : mmQ} (h : ((a1 = (nI 0) → Q none ((fl, n1, n2, p, q, ad), I, J)) ∧ (¬ a1 = (nI 0) → mm_wc d 181 [.ref 46] ((fl, 0, 0, p, q, ad), I, J) (fun v τ => ∃ I1 J1, v = none ∧ τ = ((fl, 0, 0, p, q, ad), I1, J1) ∧ (((I1 46 13) = (nI 0) → mm_wc d 182 [.ref 46] ((fl, 0, 0, p, q, ad), I1, J1) (fun v τ => ∃ r2 I2 J2, v = some (.int r2) ∧ τ = ((fl, 0, 0, p, q, ad), I2, J2) ∧ ((¬ (I2 46 13) = (nI 0) → ((¬ (I2 46 13) = (nI 0) → (((I2 46 13) = (nI 0) → mm_wc d 176 [.ref 46] ((fl, 0, 0, p, q, ad), (mm_up I2 50 9 ((I2 50 9) ||| ((nI 1) <<< (r2 &&& 31)))), J2) (fun v τ => ∃ I3 J3, v = none ∧ τ = ((fl, 0, 0, p, q, ad), I3, J3) ∧ mm_wc d 186 [.ref 46] ((fl, 0, 0, p, q, ad), I3, J3) (fun v τ => ∃ r4 I4 J4, v = some (.int r4) ∧ τ = ((fl, 0, 0, p, q, ad), I4, J4) ∧ mm_w Q (mm_wc d) bk_198 28 [some (.ref 46), some (.int r4), none] [] ((fl, n1, n2, p, q, ad), I4, J4)))) ∧ (¬ (I2 46 13) = (nI 0) → Q none ((fl, n1, n2, p, q, ad), I2, J2)))) ∧ ((I2 46 13) = (nI 0) → mm_wc d 170 [.int (I2 50 9), .int r2] ((fl, 0, 0, p, q, ad), I2, J2) (fun v τ => ∃ r5 I5 J5, v = some (.int r5) ∧ τ = ((fl, 0, 0, p, q, ad), I5, J5) ∧ ((r5 = (nI 0) → (((I5 46 13) = (nI 0) → mm_wc d 176 [.ref 46] ((fl, 0, 0, p, q, ad), (mm_up I5 50 9 ((I5 50 9) ||| ((nI 1) <<< (r2 &&& 31)))), J5) (fun v τ => ∃ I6 J6, v = none ∧ τ = ((fl, 0, 0, p, q, ad), I6, J6) ∧ mm_wc d 186 [.ref 46] ((fl, 0, 0, p, q, ad), I6, J6) (fun v τ => ∃ r7 I7 J7, v = some (.int r7) ∧ τ = ((fl, 0, 0, p, q, ad), I7, J7) ∧ mm_w Q (mm_wc d) bk_198 28 [some (.ref 46), some (.int r7), none] [] ((fl, n1, n2, p, q, ad), I7, J7)))) ∧ (¬ (I5 46 13) = (nI 0) → Q none ((fl, n1, n2, p, q, ad), I5, J5)))) ∧ (¬ r5 = (nI 0) → mm_wc d 177 [.ref 46, .int (nI 3), .int (I5 46 4)] ((fl, 0, 0, p, q, ad), I5, J5) (fun v τ => ∃ I8 J8, v = none ∧ τ = ((fl, 0, 0, p, q, ad), I8, J8) ∧ (((I8 46 13) = (nI 0) → mm_wc d 176 [.ref 46] ((fl, 0, 0, p, q, ad), (mm_up I8 50 9 ((I8 50 9) ||| ((nI 1) <<< (r2 &&& 31)))), J8) (fun v τ => ∃ I9 J9, v = none ∧ τ = ((fl, 0, 0, p, q, ad), I9, J9) ∧ mm_wc d 186 [.ref 46] ((fl, 0, 0, p, q, ad), I9, J9) (fun v τ => ∃ r10 I10 J10, v = some (.int r10) ∧ τ = ((fl, 0, 0, p, q, ad), I10, J10) ∧ mm_w Q (mm_wc d) bk_198 28 [some (.ref 46), some (.int r10), none] [] ((fl, n1, n2, p, q, ad), I10, J10)))) ∧ (¬ (I8 46 13) = (nI 0) → Q none ((fl, n1, n2, p, q, ad), I8, J8)))))))))) ∧ ((I2 46 13) = (nI 0) → mm_wc d 169 [.int r2, .int (nI 0), .int (nI 9)] ((fl, 0, 0, p, q, ad), I2, J2) (fun v τ => ∃ r11 I11 J11, v = some (.int r11) ∧ τ = ((fl, 0, 0, p, q, ad), I11, J11) ∧ ((¬ r11 = (nI 0) → ((¬ (I11 46 13) = (nI 0) → (((I11 46 13) = (nI 0) → mm_wc d 176 [.ref 46] ((fl, 0, 0, p, q, ad), (mm_up I11 50 9 ((I11 50 9) ||| ((nI 1) <<< (r2 &&& 31)))), J11) (fun v τ => ∃ I12 J12, v = none ∧ τ = ((fl, 0, 0, p, q, ad), I12, J12) ∧ mm_wc d 186 [.ref 46] ((fl, 0, 0, p, q, ad), I12, J12) (fun v τ => ∃ r13 I13 J13, v = some (.int r13) ∧ τ = ((fl, 0, 0, p, q, ad), I13, J13) ∧ mm_w Q (mm_wc d) bk_198 28 [some (.ref 46), some (.int r13), none] [] ((fl, n1, n2, p, q, ad), I13, J13)))) ∧ (¬ (I11 46 13) = (nI 0) → Q none ((fl, n1, n2, p, q, ad), I11, J11)))) ∧ ((I11 46 13) = (nI 0) → mm_wc d 170 [.int (I11 50 9), .int r2] ((fl, 0, 0, p, q, ad), I11, J11) (fun v τ => ∃ r14 I14 J14, v = some (.int r14) ∧ τ = ((fl, 0, 0, p, q, ad), I14, J14) ∧ ((r14 = (nI 0) → (((I14 46 13) = (nI 0) → mm_wc d 176 [.ref 46] ((fl, 0, 0, p, q, ad), (mm_up I14 50 9 ((I14 50 9) ||| ((nI 1) <<< (r2 &&& 31)))), J14) (fun v τ => ∃ I15 J15, v = none ∧ τ = ((fl, 0, 0, p, q, ad), I15, J15) ∧ mm_wc d 186 [.ref 46] ((fl, 0, 0, p, q, ad), I15, J15) (fun v τ => ∃ r16 I16 J16, v = some (.int r16) ∧ τ = ((fl, 0, 0, p, q, ad), I16, J16) ∧ mm_w Q (mm_wc d) bk_198 28 [some (.ref 46), some (.int r16), none] [] ((fl, n1, n2, p, q, ad), I16, J16)))) ∧ (¬ (I14 46 13) = (nI 0) → Q none ((fl, n1, n2, p, q, ad), I14, J14)))) ∧ (¬ r14 = (nI 0) → mm_wc d 177 [.ref 46, .int (nI 3), .int (I14 46 4)] ((fl, 0, 0, p, q, ad), I14, J14) (fun v τ => ∃ I17 J17, v = none ∧ τ = ((fl, 0, 0, p, q, ad), I17, J17) ∧ (((I17 46 13) = (nI 0) → mm_wc d 176 [.ref 46] ((fl, 0, 0, p, q, ad), (mm_up I17 50 9 ((I17 50 9) ||| ((nI 1) <<< (r2 &&& 31)))), J17) (fun v τ => ∃ I18 J18, v = none ∧ τ = ((fl, 0, 0, p, q, ad), I18, J18) ∧ mm_wc d 186 [.ref 46] ((fl, 0, 0, p, q, ad), I18, J18) (fun v τ => ∃ r19 I19 J19, v = some (.int r19) ∧ τ = ((fl, 0, 0, p, q, ad), I19, J19) ∧ mm_w Q (mm_wc d) bk_198 28 [some (.ref 46), some (.int r19), none] [] ((fl, n1, n2, p, q, ad), I19, J19)))) ∧ (¬ (I17 46 13) = (nI 0) → Q none ((fl, n1, n2, p, q, ad), I17, J17)))))))))) ∧ (r11 = (nI 0) → mm_wc d 177 [.ref 46, .int (nI 2), .int (I11 46 4)] ((fl, 0, 0, p, q, ad), I11, J11) (fun v τ => ∃ I20 J20, v = none ∧ τ = ((fl, 0, 0, p, q, ad), I20, J20) ∧ ((¬ (I20 46 13) = (nI 0) → (((I20 46 13) = (nI 0) → mm_wc d 176 [.ref 46] ((fl, 0, 0, p, q, ad), (mm_up I20 50 9 ((I20 50 9) ||| ((nI 1) <<< (r2 &&& 31)))), J20) (fun v τ => ∃ I21 J21, v = none ∧ τ = ((fl, 0, 0, p, q, ad), I21, J21) ∧ mm_wc d 186 [.ref 46] ((fl, 0, 0, p, q, ad), I21, J21) (fun v τ => ∃ r22 I22 J22, v = some (.int r22) ∧ τ = ((fl, 0, 0, p, q, ad), I22, J22) ∧ mm_w Q (mm_wc d) bk_198 28 [some (.ref 46), some (.int r22), none] [] ((fl, n1, n2, p, q, ad), I22, J22)))) ∧ (¬ (I20 46 13) = (nI 0) → Q none ((fl, n1, n2, p, q, ad), I20, J20)))) ∧ ((I20 46 13) = (nI 0) → mm_wc d 170 [.int (I20 50 9), .int r2] ((fl, 0, 0, p, q, ad), I20, J20) (fun v τ => ∃ r23 I23 J23, v = some (.int r23) ∧ τ = ((fl, 0, 0, p, q, ad), I23, J23) ∧ ((r23 = (nI 0) → (((I23 46 13) = (nI 0) → mm_wc d 176 [.ref 46] ((fl, 0, 0, p, q, ad), (mm_up I23 50 9 ((I23 50 9) ||| ((nI 1) <<< (r2 &&& 31)))), J23) (fun v τ => ∃ I24 J24, v = none ∧ τ = ((fl, 0, 0, p, q, ad), I24, J24) ∧ mm_wc d 186 [.ref 46] ((fl, 0, 0, p, q, ad), I24, J24) (fun v τ => ∃ r25 I25 J25, v = some (.int r25) ∧ τ = ((fl, 0, 0, p, q, ad), I25, J25) ∧ mm_w Q (mm_wc d) bk_198 28 [some (.ref 46), some (.int r25), none] [] ((fl, n1, n2, p, q, ad), I25, J25)))) ∧ (¬ (I23 46 13) = (nI 0) → Q none ((fl, n1, n2, p, q, ad), I23, J23)))) ∧ (¬ r23 = (nI 0) → mm_wc d 177 [.ref 46, .int (nI 3), .int (I23 46 4)] ((fl, 0, 0, p, q, ad), I23, J23) (fun v τ => ∃ I26 J26, v = none ∧ τ = ((fl, 0, 0, p, q, ad), I26, J26) ∧ (((I26 46 13) = (nI 0) → mm_wc d 176 [.ref 46] ((fl, 0, 0, p, q, ad), (mm_up I26 50 9 ((I26 50 9) ||| ((nI 1) <<< (r2 &&& 31)))), J26) (fun v τ => ∃ I27 J27, v = none ∧ τ = ((fl, 0, 0, p, q, ad), I27, J27) ∧ mm_wc d 186 [.ref 46] ((fl, 0, 0, p, q, ad), I27, J27) (fun v τ => ∃ r28 I28 J28, v = some (.int r28) ∧ τ = ((fl, 0, 0, p, q, ad), I28, J28) ∧ mm_w Q (mm_wc d) bk_198 28 [some (.ref 46), some (.int r28), none] [] ((fl, n1, n2, p, q, ad), I28, J28)))) ∧ (¬ (I26 46 13) = (nI 0) → Q none ((fl, n1, n2, p, q, ad), I26, J26))))))))))))))))) ∧ (¬ (I1 46 13) = (nI 0) → ((¬ (I1 46 13) = (nI 0) → ((¬ (I1 46 13) = (nI 0) → (((I1 46 13) = (nI 0) → mm_wc d 176 [.ref 46] ((fl, 0, 0, p, q, ad), (mm_up I1 50 9 ((I1 50 9) ||| ((nI 1) <<< ((-1) &&& 31)))), J1) (fun v τ => ∃ I29 J29, v = none ∧ τ = ((fl, 0, 0, p, q, ad), I29, J29) ∧ mm_wc d 186 [.ref 46] ((fl, 0, 0, p, q, ad), I29, J29) (fun v τ => ∃ r30 I30 J30, v = some (.int r30) ∧ τ = ((fl, 0, 0, p, q, ad), I30, J30) ∧ mm_w Q (mm_wc d) bk_198 28 [some (.ref 46), some (.int r30), none] [] ((fl, n1, n2, p, q, ad), I30, J30)))) ∧ (¬ (I1 46 13) = (nI 0) → Q none ((fl, n1, n2, p, q, ad), I1, J1)))) ∧ ((I1 46 13) = (nI 0) → mm_wc d 170 [.int (I1 50 9), .int (-1)] ((fl, 0, 0, p, q, ad), I1, J1) (fun v τ => ∃ r31 I31 J31, v = some (.int r31) ∧ τ = ((fl, 0, 0, p, q, ad), I31, J31) ∧ ((r31 = (nI 0) → (((I31 46 13) = (nI 0) → mm_wc d 176 [.ref 46] ((fl, 0, 0, p, q, ad), (mm_up I31 50 9 ((I31 50 9) ||| ((nI 1) <<< ((-1) &&& 31)))), J31) (fun v τ => ∃ I32 J32, v = none ∧ τ = ((fl, 0, 0, p, q, ad), I32, J32) ∧ mm_wc d 186 [.ref 46] ((fl, 0, 0, p, q, ad), I32, J32) (fun v τ => ∃ r33 I33 J33, v = some (.int r33) ∧ τ = ((fl, 0, 0, p, q, ad), I33, J33) ∧ mm_w Q (mm_wc d) bk_198 28 [some (.ref 46), some (.int r33), none] [] ((fl, n1, n2, p, q, ad), I33, J33)))) ∧ (¬ (I31 46 13) = (nI 0) → Q none ((fl, n1, n2, p, q, ad), I31, J31)))) ∧ (¬ r31 = (nI 0) → mm_wc d 177 [.ref 46, .int (nI 3), .int (I31 46 4)] ((fl, 0, 0, p, q, ad), I31, J31) (fun v τ => ∃ I34 J34, v = none ∧ τ = ((fl, 0, 0, p, q, ad), I34, J34) ∧ (((I34 46 13) = (nI 0) → mm_wc d 176 [.ref 46] ((fl, 0, 0, p, q, ad), (mm_up I34 50 9 ((I34 50 9) ||| ((nI 1) <<< ((-1) &&& 31)))), J34) (fun v τ => ∃ I35 J35, v = none ∧ τ = ((fl, 0, 0, p, q, ad), I35, J35) ∧ mm_wc d 186 [.ref 46] ((fl, 0, 0, p, q, ad), I35, J35) (fun v τ => ∃ r36 I36 J36, v = some (.int r36) ∧ τ = ((fl, 0, 0, p, q, ad), I36, J36) ∧ mm_w Q (mm_wc d) bk_198 28 [some (.ref 46), some (.int r36), none] [] ((fl, n1, n2, p, q, ad), I36, J36)))) ∧ (¬ (I34 46 13) = (nI 0) → Q none ((fl, n1, n2, p, q, ad), I34, J34)))))))))) ∧ ((I1 46 13) = (nI 0) → mm_wc d 169 [.int (-1), .int (nI 0), .int (nI 9)] ((fl, 0, 0, p, q, ad), I1, J1) (fun v τ => ∃ r37 I37 J37, v = some (.int r37) ∧ τ = ((fl, 0, 0, p, q, ad), I37, J37) ∧ ((¬ r37 = (nI 0) → ((¬ (I37 46 13) = (nI 0) → (((I37 46 13) = (nI 0) → mm_wc d 176 [.ref 46] ((fl, 0, 0, p, q, ad), (mm_up I37 50 9 ((I37 50 9) ||| ((nI 1) <<< ((-1) &&& 31)))), J37) (fun v τ => ∃ I38 J38, v = none ∧ τ = ((fl, 0, 0, p, q, ad), I38, J38) ∧ mm_wc d 186 [.ref 46] ((fl, 0, 0, p, q, ad), I38, J38) (fun v τ => ∃ r39 I39 J39, v = some (.int r39) ∧ τ = ((fl, 0, 0, p, q, ad), I39, J39) ∧ mm_w Q (mm_wc d) bk_198 28 [some (.ref 46), some (.int r39), none] [] ((fl, n1, n2, p, q, ad), I39, J39)))) ∧ (¬ (I37 46 13) = (nI 0) → Q none ((fl, n1, n2, p, q, ad), I37, J37)))) ∧ ((I37 46 13) = (nI 0) → mm_wc d 170 [.int (I37 50 9), .int (-1)] ((fl, 0, 0, p, q, ad), I37, J37) (fun v τ => ∃ r40 I40 J40, v = some (.int r40) ∧ τ = ((fl, 0, 0, p, q, ad), I40, J40) ∧ ((r40 = (nI 0) → (((I40 46 13) = (nI 0) → mm_wc d 176 [.ref 46] ((fl, 0, 0, p, q, ad), (mm_up I40 50 9 ((I40 50 9) ||| ((nI 1) <<< ((-1) &&& 31)))), J40) (fun v τ => ∃ I41 J41, v = none ∧ τ = ((fl, 0, 0, p, q, ad), I41, J41) ∧ mm_wc d 186 [.ref 46] ((fl, 0, 0, p, q, ad), I41, J41) (fun v τ => ∃ r42 I42 J42, v = some (.int r42) ∧ τ = ((fl, 0, 0, p, q, ad), I42, J42) ∧ mm_w Q (mm_wc d) bk_198 28 [some (.ref 46), some (.int r42), none] [] ((fl, n1, n2, p, q, ad), I42, J42)))) ∧ (¬ (I40 46 13) = (nI 0) → Q none ((fl, n1, n2, p, q, ad), I40, J40)))) ∧ (¬ r40 = (nI 0) → mm_wc d 177 [.ref 46, .int (nI 3), .int (I40 46 4)] ((fl, 0, 0, p, q, ad), I40, J40) (fun v τ => ∃ I43 J43, v = none ∧ τ = ((fl, 0, 0, p, q, ad), I43, J43) ∧ (((I43 46 13) = (nI 0) → mm_wc d 176 [.ref 46] ((fl, 0, 0, p, q, ad), (mm_up I43 50 9 ((I43 50 9) ||| ((nI 1) <<< ((-1) &&& 31)))), J43) (fun v τ => ∃ I44 J44, v = none ∧ τ = ((fl, 0, 0, p, q, ad), I44, J44) ∧ mm_wc d 186 [.ref 46] ((fl, 0, 0, p, q, ad), I44, J44) (fun v τ => ∃ r45 I45 J45, v = some (.int r45) ∧ τ = ((fl, 0, 0, p, q, ad), I45, J45) ∧ mm_w Q (mm_wc d) bk_198 28 [some (.ref 46), some (.int r45), none] [] ((fl, n1, n2, p, q, ad), I45, J45)))) ∧ (¬ (I43 46 13) = (nI 0) → Q none ((fl, n1, n2, p, q, ad), I43, J43)))))))))) ∧ (r37 = (nI 0) → mm_wc d 177 [.ref 46, .int (nI 2), .int (I37 46 4)] ((fl, 0, 0, p, q, ad), I37, J37) (fun v τ => ∃ I46 J46, v = none ∧ τ = ((fl, 0, 0, p, q, ad), I46, J46) ∧ ((¬ (I46 46 13) = (nI 0) → (((I46 46 13) = (nI 0) → mm_wc d 176 [.ref 46] ((fl, 0, 0, p, q, ad), (mm_up I46 50 9 ((I46 50 9) ||| ((nI 1) <<< ((-1) &&& 31)))), J46) (fun v τ => ∃ I47 J47, v = none ∧ τ = ((fl, 0, 0, p, q, ad), I47, J47) ∧ mm_wc d 186 [.ref 46] ((fl, 0, 0, p, q, ad), I47, J47) (fun v τ => ∃ r48 I48 J48, v = some (.int r48) ∧ τ = ((fl, 0, 0, p, q, ad), I48, J48) ∧ mm_w Q (mm_wc d) bk_198 28 [some (.ref 46), some (.int r48), none] [] ((fl, n1, n2, p, q, ad), I48, J48)))) ∧ (¬ (I46 46 13) = (nI 0) → Q none ((fl, n1, n2, p, q, ad), I46, J46)))) ∧ ((I46 46 13) = (nI 0) → mm_wc d 170 [.int (I46 50 9), .int (-1)] ((fl, 0, 0, p, q, ad), I46, J46) (fun v τ => ∃ r49 I49 J49, v = some (.int r49) ∧ τ = ((fl, 0, 0, p, q, ad), I49, J49) ∧ ((r49 = (nI 0) → (((I49 46 13) = (nI 0) → mm_wc d 176 [.ref 46] ((fl, 0, 0, p, q, ad), (mm_up I49 50 9 ((I49 50 9) ||| ((nI 1) <<< ((-1) &&& 31)))), J49) (fun v τ => ∃ I50 J50, v = none ∧ τ = ((fl, 0, 0, p, q, ad), I50, J50) ∧ mm_wc d 186 [.ref 46] ((fl, 0, 0, p, q, ad), I50, J50) (fun v τ => ∃ r51 I51 J51, v = some (.int r51) ∧ τ = ((fl, 0, 0, p, q, ad), I51, J51) ∧ mm_w Q (mm_wc d) bk_198 28 [some (.ref 46), some (.int r51), none] [] ((fl, n1, n2, p, q, ad), I51, J51)))) ∧ (¬ (I49 46 13) = (nI 0) → Q none ((fl, n1, n2, p, q, ad), I49, J49)))) ∧ (¬ r49 = (nI 0) → mm_wc d 177 [.ref 46, .int (nI 3), .int (I49 46 4)] ((fl, 0, 0, p, q, ad), I49, J49) (fun v τ => ∃ I52 J52, v = none ∧ τ = ((fl, 0, 0, p, q, ad), I52, J52) ∧ (((I52 46 13) = (nI 0) → mm_wc d 176 [.ref 46] ((fl, 0, 0, p, q, ad), (mm_up I52 50 9 ((I52 50 9) ||| ((nI 1) <<< ((-1) &&& 31)))), J52) (fun v τ => ∃ I53 J53, v = none ∧ τ = ((fl, 0, 0, p, q, ad), I53, J53) ∧ mm_wc d 186 [.ref 46] ((fl, 0, 0, p, q, ad), I53, J53) (fun v τ => ∃ r54 I54 J54, v = some (.int r54) ∧ τ = ((fl, 0, 0, p, q, ad), I54, J54) ∧ mm_w Q (mm_wc d) bk_198 28 [some (.ref 46), some (.int r54), none] [] ((fl, n1, n2, p, q, ad), I54, J54)))) ∧ (¬ (I52 46 13) = (nI 0) → Q none ((fl, n1, n2, p, q, ad), I52, J52))))))))))))))))))))) : mm_w Q (mm_wc (d)) bk_198 28 [some (.ref 46), some (.int a1), none] [] ((fl, n1, n2, p, q, ad), I, J) := by
  refine mm_go [28] 80 ?_
  show (a1 = (nI 0) → _) ∧ (¬ a1 = (nI 0) → _)
  refine ⟨fun c0 => ?_, fun c0 => ?_⟩
  · exact (h.1 c0)
  · show mm_b _ _ _ _ _ [some (.ref 46), some (.int a1), none] [] ((fl, n1, n2, p, q, ad), I, J)
    show mm_wc d 181 [.ref 46] ((fl, 0, 0, p, q, ad), I, J) _
    refine mm_wcm (h.2 c0) ?_
    rintro v τ ⟨I1, J1, rfl, rfl, h1⟩
    refine mm_r0' ⟨rfl, ?_⟩
    show mm_b _ _ _ _ _ [some (.ref 46), some (.int a1), none] [] ((fl, n1, n2, p, q, ad), I1, J1)
    show ((I1 46 13) = (nI 0) → _) ∧ (¬ (I1 46 13) = (nI 0) → _)
    refine ⟨fun c1 => ?_, fun c1 => ?_⟩
    · show mm_u _ _ _ _ _ _ [some (.ref 46), some (.int a1), none] [] ((fl, n1, n2, p, q, ad), I1, J1)
      show mm_wc d 182 [.ref 46] ((fl, 0, 0, p, q, ad), I1, J1) _
      refine mm_wcm (h1.1 c1) ?_
      rintro v τ ⟨r2, I2, J2, rfl, rfl, h2⟩
      refine mm_r1' ⟨rfl, ?_⟩
      show mm_b _ _ _ _ _ [some (.ref 46), none, none] [.int r2] ((fl, n1, n2, p, q, ad), I2, J2)
      show (¬ (I2 46 13) = (nI 0) → _) ∧ ((I2 46 13) = (nI 0) → _)
      refine ⟨fun c2 => ?_, fun c2 => ?_⟩
      · show mm_u _ _ _ _ _ _ [some (.ref 46), none, some (.int r2)] [] ((fl, n1, n2, p, q, ad), I2, J2)
        show (¬ (I2 46 13) = (nI 0) → _) ∧ ((I2 46 13) = (nI 0) → _)
        refine ⟨fun c3 => ?_, fun c3 => ?_⟩
        · show mm_u _ _ _ _ _ _ [some (.ref 46), none, some (.int r2)] [] ((fl, n1, n2, p, q, ad), I2, J2)
          show ((I2 46 13) = (nI 0) → _) ∧ (¬ (I2 46 13) = (nI 0) → _)
          refine ⟨fun c4 => ?_, fun c4 => ?_⟩
          · show mm_u _ _ _ _ _ _ [some (.ref 46), none, some (.int r2)] [] ((fl, n1, n2, p, q, ad), I2, J2)
            show (vp_in (nI 9) 279) ∧ _
            refine ⟨(mm_inl (by decide)), ?_⟩
            show mm_b _ _ _ _ _ [some (.ref 46), none, some (.int r2)] [.int (I2 50 9), .int (nI 9), .ref 50] ((fl, n1, n2, p, q, ad), I2, J2)
            show (vp_in (nI 9) 279) ∧ _
            refine ⟨(mm_inl (by decide)), ?_⟩
            show mm_b _ _ _ _ _ [some (.ref 46), none, some (.int r2)] [] ((fl, n1, n2, p, q, ad), (mm_up I2 50 9 ((I2 50 9) ||| ((nI 1) <<< (r2 &&& 31)))), J2)
            show mm_wc d 176 [.ref 46] ((fl, 0, 0, p, q, ad), (mm_up I2 50 9 ((I2 50 9) ||| ((nI 1) <<< (r2 &&& 31)))), J2) _
            refine mm_wcm (((h2.1 c2).1 c3).1 c4) ?_
            rintro v τ ⟨I3, J3, rfl, rfl, h3⟩
            refine mm_r0' ⟨rfl, ?_⟩
            show mm_b _ _ _ _ _ [some (.ref 46), none, some (.int r2)] [] ((fl, n1, n2, p, q, ad), I3, J3)
            show mm_wc d 186 [.ref 46] ((fl, 0, 0, p, q, ad), I3, J3) _
            refine mm_wcm h3 ?_
            rintro v τ ⟨r4, I4, J4, rfl, rfl, h4⟩
            refine mm_r1' ⟨rfl, ?_⟩
            exact h4
          · exact (((h2.1 c2).1 c3).2 c4)
        · show mm_b _ _ _ _ _ [some (.ref 46), none, some (.int r2)] [] ((fl, n1, n2, p, q, ad), I2, J2)
          show (vp_in (nI 9) 279) ∧ _
          refine ⟨(mm_inl (by decide)), ?_⟩
          show mm_b _ _ _ _ _ [some (.ref 46), none, some (.int r2)] [.int (I2 50 9)] ((fl, n1, n2, p, q, ad), I2, J2)
          show mm_wc d 170 [.int (I2 50 9), .int r2] ((fl, 0, 0, p, q, ad), I2, J2) _
          refine mm_wcm ((h2.1 c2).2 c3) ?_
          rintro v τ ⟨r5, I5, J5, rfl, rfl, h5⟩
          refine mm_r1' ⟨rfl, ?_⟩
          show mm_b _ _ _ _ _ [some (.ref 46), none, some (.int r2)] [.int r5] ((fl, n1, n2, p, q, ad), I5, J5)
          show (r5 = (nI 0) → _) ∧ (¬ r5 = (nI 0) → _)
          refine ⟨fun c4 => ?_, fun c4 => ?_⟩
          · show mm_u _ _ _ _ _ _ [some (.ref 46), none, some (.int r2)] [] ((fl, n1, n2, p, q, ad), I5, J5)
            show ((I5 46 13) = (nI 0) → _) ∧ (¬ (I5 46 13) = (nI 0) → _)
            refine ⟨fun c5 => ?_, fun c5 => ?_⟩
            · show mm_u _ _ _ _ _ _ [some (.ref 46), none, some (.int r2)] [] ((fl, n1, n2, p, q, ad), I5, J5)
              show (vp_in (nI 9) 279) ∧ _
              refine ⟨(mm_inl (by decide)), ?_⟩
              show mm_b _ _ _ _ _ [some (.ref 46), none, some (.int r2)] [.int (I5 50 9), .int (nI 9), .ref 50] ((fl, n1, n2, p, q, ad), I5, J5)
              show (vp_in (nI 9) 279) ∧ _
              refine ⟨(mm_inl (by decide)), ?_⟩
              show mm_b _ _ _ _ _ [some (.ref 46), none, some (.int r2)] [] ((fl, n1, n2, p, q, ad), (mm_up I5 50 9 ((I5 50 9) ||| ((nI 1) <<< (r2 &&& 31)))), J5)
              show mm_wc d 176 [.ref 46] ((fl, 0, 0, p, q, ad), (mm_up I5 50 9 ((I5 50 9) ||| ((nI 1) <<< (r2 &&& 31)))), J5) _
              refine mm_wcm ((h5.1 c4).1 c5) ?_
              rintro v τ ⟨I6, J6, rfl, rfl, h6⟩
              refine mm_r0' ⟨rfl, ?_⟩
              show mm_b _ _ _ _ _ [some (.ref 46), none, some (.int r2)] [] ((fl, n1, n2, p, q, ad), I6, J6)
              show mm_wc d 186 [.ref 46] ((fl, 0, 0, p, q, ad), I6, J6) _
              refine mm_wcm h6 ?_
              rintro v τ ⟨r7, I7, J7, rfl, rfl, h7⟩
              refine mm_r1' ⟨rfl, ?_⟩
              exact h7
            · exact ((h5.1 c4).2 c5)
          · show mm_b _ _ _ _ _ [some (.ref 46), none, some (.int r2)] [] ((fl, n1, n2, p, q, ad), I5, J5)
            show mm_wc d 177 [.ref 46, .int (nI 3), .int (I5 46 4)] ((fl, 0, 0, p, q, ad), I5, J5) _
            refine mm_wcm (h5.2 c4) ?_
            rintro v τ ⟨I8, J8, rfl, rfl, h8⟩
            refine mm_r0' ⟨rfl, ?_⟩
            show mm_b _ _ _ _ _ [some (.ref 46), none, some (.int r2)] [] ((fl, n1, n2, p, q, ad), I8, J8)
            show ((I8 46 13) = (nI 0) → _) ∧ (¬ (I8 46 13) = (nI 0) → _)
            refine ⟨fun c5 => ?_, fun c5 => ?_⟩
            · show mm_u _ _ _ _ _ _ [some (.ref 46), none, some (.int r2)] [] ((fl, n1, n2, p, q, ad), I8, J8)
              show (vp_in (nI 9) 279) ∧ _
              refine ⟨(mm_inl (by decide)), ?_⟩
              show mm_b _ _ _ _ _ [some (.ref 46), none, some (.int r2)] [.int (I8 50 9), .int (nI 9), .ref 50] ((fl, n1, n2, p, q, ad), I8, J8)
              show (vp_in (nI 9) 279) ∧ _
              refine ⟨(mm_inl (by decide)), ?_⟩
              show mm_b _ _ _ _ _ [some (.ref 46), none, some (.int r2)] [] ((fl, n1, n2, p, q, ad), (mm_up I8 50 9 ((I8 50 9) ||| ((nI 1) <<< (r2 &&& 31)))), J8)
              show mm_wc d 176 [.ref 46] ((fl, 0, 0, p, q, ad), (mm_up I8 50 9 ((I8 50 9) ||| ((nI 1) <<< (r2 &&& 31)))), J8) _
              refine mm_wcm (h8.1 c5) ?_
              rintro v τ ⟨I9, J9, rfl, rfl, h9⟩
              refine mm_r0' ⟨rfl, ?_⟩
              show mm_b _ _ _ _ _ [some (.ref 46), none, some (.int r2)] [] ((fl, n1, n2, p, q, ad), I9, J9)
              show mm_wc d 186 [.ref 46] ((fl, 0, 0, p, q, ad), I9, J9) _
              refine mm_wcm h9 ?_
              rintro v τ ⟨r10, I10, J10, rfl, rfl, h10⟩
              refine mm_r1' ⟨rfl, ?_⟩
              exact h10
            · exact (h8.2 c5)
      · show mm_b _ _ _ _ _ [some (.ref 46), none, some (.int r2)] [] ((fl, n1, n2, p, q, ad), I2, J2)
        show mm_wc d 169 [.int r2, .int (nI 0), .int (nI 9)] ((fl, 0, 0, p, q, ad), I2, J2) _
        refine mm_wcm (h2.2 c2) ?_
        rintro v τ ⟨r11, I11, J11, rfl, rfl, h11⟩
        refine mm_r1' ⟨rfl, ?_⟩
        show mm_b _ _ _ _ _ [some (.ref 46), none, some (.int r2)] [.int r11] ((fl, n1, n2, p, q, ad), I11, J11)
        show (¬ r11 = (nI 0) → _) ∧ (r11 = (nI 0) → _)
        refine ⟨fun c3 => ?_, fun c3 => ?_⟩
        · show mm_u _ _ _ _ _ _ [some (.ref 46), none, some (.int r2)] [] ((fl, n1, n2, p, q, ad), I11, J11)
          show (¬ (I11 46 13) = (nI 0) → _) ∧ ((I11 46 13) = (nI 0) → _)
          refine ⟨fun c4 => ?_, fun c4 => ?_⟩
          · show mm_u _ _ _ _ _ _ [some (.ref 46), none, some (.int r2)] [] ((fl, n1, n2, p, q, ad), I11, J11)
            show ((I11 46 13) = (nI 0) → _) ∧ (¬ (I11 46 13) = (nI 0) → _)
            refine ⟨fun c5 => ?_, fun c5 => ?_⟩
            · show mm_u _ _ _ _ _ _ [some (.ref 46), none, some (.int r2)] [] ((fl, n1, n2, p, q, ad), I11, J11)
              show (vp_in (nI 9) 279) ∧ _
              refine ⟨(mm_inl (by decide)), ?_⟩
              show mm_b _ _ _ _ _ [some (.ref 46), none, some (.int r2)] [.int (I11 50 9), .int (nI 9), .ref 50] ((fl, n1, n2, p, q, ad), I11, J11)
              show (vp_in (nI 9) 279) ∧ _
              refine ⟨(mm_inl (by decide)), ?_⟩
              show mm_b _ _ _ _ _ [some (.ref 46), none, some (.int r2)] [] ((fl, n1, n2, p, q, ad), (mm_up I11 50 9 ((I11 50 9) ||| ((nI 1) <<< (r2 &&& 31)))), J11)
              show mm_wc d 176 [.ref 46] ((fl, 0, 0, p, q, ad), (mm_up I11 50 9 ((I11 50 9) ||| ((nI 1) <<< (r2 &&& 31)))), J11) _
              refine mm_wcm (((h11.1 c3).1 c4).1 c5) ?_
              rintro v τ ⟨I12, J12, rfl, rfl, h12⟩
              refine mm_r0' ⟨rfl, ?_⟩
              show mm_b _ _ _ _ _ [some (.ref 46), none, some (.int r2)] [] ((fl, n1, n2, p, q, ad), I12, J12)
              show mm_wc d 186 [.ref 46] ((fl, 0, 0, p, q, ad), I12, J12) _
              refine mm_wcm h12 ?_
              rintro v τ ⟨r13, I13, J13, rfl, rfl, h13⟩
              refine mm_r1' ⟨rfl, ?_⟩
              exact h13
            · exact (((h11.1 c3).1 c4).2 c5)
          · show mm_b _ _ _ _ _ [some (.ref 46), none, some (.int r2)] [] ((fl, n1, n2, p, q, ad), I11, J11)
            show (vp_in (nI 9) 279) ∧ _
            refine ⟨(mm_inl (by decide)), ?_⟩
            show mm_b _ _ _ _ _ [some (.ref 46), none, some (.int r2)] [.int (I11 50 9)] ((fl, n1, n2, p, q, ad), I11, J11)
            show mm_wc d 170 [.int (I11 50 9), .int r2] ((fl, 0, 0, p, q, ad), I11, J11) _
            refine mm_wcm ((h11.1 c3).2 c4) ?_
            rintro v τ ⟨r14, I14, J14, rfl, rfl, h14⟩
            refine mm_r1' ⟨rfl, ?_⟩
            show mm_b _ _ _ _ _ [some (.ref 46), none, some (.int r2)] [.int r14] ((fl, n1, n2, p, q, ad), I14, J14)
            show (r14 = (nI 0) → _) ∧ (¬ r14 = (nI 0) → _)
            refine ⟨fun c5 => ?_, fun c5 => ?_⟩
            · show mm_u _ _ _ _ _ _ [some (.ref 46), none, some (.int r2)] [] ((fl, n1, n2, p, q, ad), I14, J14)
              show ((I14 46 13) = (nI 0) → _) ∧ (¬ (I14 46 13) = (nI 0) → _)
              refine ⟨fun c6 => ?_, fun c6 => ?_⟩
              · show mm_u _ _ _ _ _ _ [some (.ref 46), none, some (.int r2)] [] ((fl, n1, n2, p, q, ad), I14, J14)
                show (vp_in (nI 9) 279) ∧ _
                refine ⟨(mm_inl (by decide)), ?_⟩
                show mm_b _ _ _ _ _ [some (.ref 46), none, some (.int r2)] [.int (I14 50 9), .int (nI 9), .ref 50] ((fl, n1, n2, p, q, ad), I14, J14)
                show (vp_in (nI 9) 279) ∧ _
                refine ⟨(mm_inl (by decide)), ?_⟩
                show mm_b _ _ _ _ _ [some (.ref 46), none, some (.int r2)] [] ((fl, n1, n2, p, q, ad), (mm_up I14 50 9 ((I14 50 9) ||| ((nI 1) <<< (r2 &&& 31)))), J14)
                show mm_wc d 176 [.ref 46] ((fl, 0, 0, p, q, ad), (mm_up I14 50 9 ((I14 50 9) ||| ((nI 1) <<< (r2 &&& 31)))), J14) _
                refine mm_wcm ((h14.1 c5).1 c6) ?_
                rintro v τ ⟨I15, J15, rfl, rfl, h15⟩
                refine mm_r0' ⟨rfl, ?_⟩
                show mm_b _ _ _ _ _ [some (.ref 46), none, some (.int r2)] [] ((fl, n1, n2, p, q, ad), I15, J15)
                show mm_wc d 186 [.ref 46] ((fl, 0, 0, p, q, ad), I15, J15) _
                refine mm_wcm h15 ?_
                rintro v τ ⟨r16, I16, J16, rfl, rfl, h16⟩
                refine mm_r1' ⟨rfl, ?_⟩
                exact h16
              · exact ((h14.1 c5).2 c6)
            · show mm_b _ _ _ _ _ [some (.ref 46), none, some (.int r2)] [] ((fl, n1, n2, p, q, ad), I14, J14)
              show mm_wc d 177 [.ref 46, .int (nI 3), .int (I14 46 4)] ((fl, 0, 0, p, q, ad), I14, J14) _
              refine mm_wcm (h14.2 c5) ?_
              rintro v τ ⟨I17, J17, rfl, rfl, h17⟩
              refine mm_r0' ⟨rfl, ?_⟩
              show mm_b _ _ _ _ _ [some (.ref 46), none, some (.int r2)] [] ((fl, n1, n2, p, q, ad), I17, J17)
              show ((I17 46 13) = (nI 0) → _) ∧ (¬ (I17 46 13) = (nI 0) → _)
              refine ⟨fun c6 => ?_, fun c6 => ?_⟩
              · show mm_u _ _ _ _ _ _ [some (.ref 46), none, some (.int r2)] [] ((fl, n1, n2, p, q, ad), I17, J17)
                show (vp_in (nI 9) 279) ∧ _
                refine ⟨(mm_inl (by decide)), ?_⟩
                show mm_b _ _ _ _ _ [some (.ref 46), none, some (.int r2)] [.int (I17 50 9), .int (nI 9), .ref 50] ((fl, n1, n2, p, q, ad), I17, J17)
                show (vp_in (nI 9) 279) ∧ _
                refine ⟨(mm_inl (by decide)), ?_⟩
                show mm_b _ _ _ _ _ [some (.ref 46), none, some (.int r2)] [] ((fl, n1, n2, p, q, ad), (mm_up I17 50 9 ((I17 50 9) ||| ((nI 1) <<< (r2 &&& 31)))), J17)
                show mm_wc d 176 [.ref 46] ((fl, 0, 0, p, q, ad), (mm_up I17 50 9 ((I17 50 9) ||| ((nI 1) <<< (r2 &&& 31)))), J17) _
                refine mm_wcm (h17.1 c6) ?_
                rintro v τ ⟨I18, J18, rfl, rfl, h18⟩
                refine mm_r0' ⟨rfl, ?_⟩
                show mm_b _ _ _ _ _ [some (.ref 46), none, some (.int r2)] [] ((fl, n1, n2, p, q, ad), I18, J18)
                show mm_wc d 186 [.ref 46] ((fl, 0, 0, p, q, ad), I18, J18) _
                refine mm_wcm h18 ?_
                rintro v τ ⟨r19, I19, J19, rfl, rfl, h19⟩
                refine mm_r1' ⟨rfl, ?_⟩
                exact h19
              · exact (h17.2 c6)
        · show mm_b _ _ _ _ _ [some (.ref 46), none, some (.int r2)] [] ((fl, n1, n2, p, q, ad), I11, J11)
          show mm_wc d 177 [.ref 46, .int (nI 2), .int (I11 46 4)] ((fl, 0, 0, p, q, ad), I11, J11) _
          refine mm_wcm (h11.2 c3) ?_
          rintro v τ ⟨I20, J20, rfl, rfl, h20⟩
          refine mm_r0' ⟨rfl, ?_⟩
          show mm_b _ _ _ _ _ [some (.ref 46), none, some (.int r2)] [] ((fl, n1, n2, p, q, ad), I20, J20)
          show (¬ (I20 46 13) = (nI 0) → _) ∧ ((I20 46 13) = (nI 0) → _)
          refine ⟨fun c4 => ?_, fun c4 => ?_⟩
          · show mm_u _ _ _ _ _ _ [some (.ref 46), none, some (.int r2)] [] ((fl, n1, n2, p, q, ad), I20, J20)
            show ((I20 46 13) = (nI 0) → _) ∧ (¬ (I20 46 13) = (nI 0) → _)
            refine ⟨fun c5 => ?_, fun c5 => ?_⟩
            · show mm_u _ _ _ _ _ _ [some (.ref 46), none, some (.int r2)] [] ((fl, n1, n2, p, q, ad), I20, J20)
              show (vp_in (nI 9) 279) ∧ _
              refine ⟨(mm_inl (by decide)), ?_⟩
              show mm_b _ _ _ _ _ [some (.ref 46), none, some (.int r2)] [.int (I20 50 9), .int (nI 9), .ref 50] ((fl, n1, n2, p, q, ad), I20, J20)
              show (vp_in (nI 9) 279) ∧ _
              refine ⟨(mm_inl (by decide)), ?_⟩
              show mm_b _ _ _ _ _ [some (.ref 46), none, some (.int r2)] [] ((fl, n1, n2, p, q, ad), (mm_up I20 50 9 ((I20 50 9) ||| ((nI 1) <<< (r2 &&& 31)))), J20)
              show mm_wc d 176 [.ref 46] ((fl, 0, 0, p, q, ad), (mm_up I20 50 9 ((I20 50 9) ||| ((nI 1) <<< (r2 &&& 31)))), J20) _
              refine mm_wcm ((h20.1 c4).1 c5) ?_
              rintro v τ ⟨I21, J21, rfl, rfl, h21⟩
              refine mm_r0' ⟨rfl, ?_⟩
              show mm_b _ _ _ _ _ [some (.ref 46), none, some (.int r2)] [] ((fl, n1, n2, p, q, ad), I21, J21)
              show mm_wc d 186 [.ref 46] ((fl, 0, 0, p, q, ad), I21, J21) _
              refine mm_wcm h21 ?_
              rintro v τ ⟨r22, I22, J22, rfl, rfl, h22⟩
              refine mm_r1' ⟨rfl, ?_⟩
              exact h22
            · exact ((h20.1 c4).2 c5)
          · show mm_b _ _ _ _ _ [some (.ref 46), none, some (.int r2)] [] ((fl, n1, n2, p, q, ad), I20, J20)
            show (vp_in (nI 9) 279) ∧ _
            refine ⟨(mm_inl (by decide)), ?_⟩
            show mm_b _ _ _ _ _ [some (.ref 46), none, some (.int r2)] [.int (I20 50 9)] ((fl, n1, n2, p, q, ad), I20, J20)
            show mm_wc d 170 [.int (I20 50 9), .int r2] ((fl, 0, 0, p, q, ad), I20, J20) _
            refine mm_wcm (h20.2 c4) ?_
            rintro v τ ⟨r23, I23, J23, rfl, rfl, h23⟩
            refine mm_r1' ⟨rfl, ?_⟩
            show mm_b _ _ _ _ _ [some (.ref 46), none, some (.int r2)] [.int r23] ((fl, n1, n2, p, q, ad), I23, J23)
            show (r23 = (nI 0) → _) ∧ (¬ r23 = (nI 0) → _)
            refine ⟨fun c5 => ?_, fun c5 => ?_⟩
            · show mm_u _ _ _ _ _ _ [some (.ref 46), none, some (.int r2)] [] ((fl, n1, n2, p, q, ad), I23, J23)
              show ((I23 46 13) = (nI 0) → _) ∧ (¬ (I23 46 13) = (nI 0) → _)
              refine ⟨fun c6 => ?_, fun c6 => ?_⟩
              · show mm_u _ _ _ _ _ _ [some (.ref 46), none, some (.int r2)] [] ((fl, n1, n2, p, q, ad), I23, J23)
                show (vp_in (nI 9) 279) ∧ _
                refine ⟨(mm_inl (by decide)), ?_⟩
                show mm_b _ _ _ _ _ [some (.ref 46), none, some (.int r2)] [.int (I23 50 9), .int (nI 9), .ref 50] ((fl, n1, n2, p, q, ad), I23, J23)
                show (vp_in (nI 9) 279) ∧ _
                refine ⟨(mm_inl (by decide)), ?_⟩
                show mm_b _ _ _ _ _ [some (.ref 46), none, some (.int r2)] [] ((fl, n1, n2, p, q, ad), (mm_up I23 50 9 ((I23 50 9) ||| ((nI 1) <<< (r2 &&& 31)))), J23)
                show mm_wc d 176 [.ref 46] ((fl, 0, 0, p, q, ad), (mm_up I23 50 9 ((I23 50 9) ||| ((nI 1) <<< (r2 &&& 31)))), J23) _
                refine mm_wcm ((h23.1 c5).1 c6) ?_
                rintro v τ ⟨I24, J24, rfl, rfl, h24⟩
                refine mm_r0' ⟨rfl, ?_⟩
                show mm_b _ _ _ _ _ [some (.ref 46), none, some (.int r2)] [] ((fl, n1, n2, p, q, ad), I24, J24)
                show mm_wc d 186 [.ref 46] ((fl, 0, 0, p, q, ad), I24, J24) _
                refine mm_wcm h24 ?_
                rintro v τ ⟨r25, I25, J25, rfl, rfl, h25⟩
                refine mm_r1' ⟨rfl, ?_⟩
                exact h25
              · exact ((h23.1 c5).2 c6)
            · show mm_b _ _ _ _ _ [some (.ref 46), none, some (.int r2)] [] ((fl, n1, n2, p, q, ad), I23, J23)
              show mm_wc d 177 [.ref 46, .int (nI 3), .int (I23 46 4)] ((fl, 0, 0, p, q, ad), I23, J23) _
              refine mm_wcm (h23.2 c5) ?_
              rintro v τ ⟨I26, J26, rfl, rfl, h26⟩
              refine mm_r0' ⟨rfl, ?_⟩
              show mm_b _ _ _ _ _ [some (.ref 46), none, some (.int r2)] [] ((fl, n1, n2, p, q, ad), I26, J26)
              show ((I26 46 13) = (nI 0) → _) ∧ (¬ (I26 46 13) = (nI 0) → _)
              refine ⟨fun c6 => ?_, fun c6 => ?_⟩
              · show mm_u _ _ _ _ _ _ [some (.ref 46), none, some (.int r2)] [] ((fl, n1, n2, p, q, ad), I26, J26)
                show (vp_in (nI 9) 279) ∧ _
                refine ⟨(mm_inl (by decide)), ?_⟩
                show mm_b _ _ _ _ _ [some (.ref 46), none, some (.int r2)] [.int (I26 50 9), .int (nI 9), .ref 50] ((fl, n1, n2, p, q, ad), I26, J26)
                show (vp_in (nI 9) 279) ∧ _
                refine ⟨(mm_inl (by decide)), ?_⟩
                show mm_b _ _ _ _ _ [some (.ref 46), none, some (.int r2)] [] ((fl, n1, n2, p, q, ad), (mm_up I26 50 9 ((I26 50 9) ||| ((nI 1) <<< (r2 &&& 31)))), J26)
                show mm_wc d 176 [.ref 46] ((fl, 0, 0, p, q, ad), (mm_up I26 50 9 ((I26 50 9) ||| ((nI 1) <<< (r2 &&& 31)))), J26) _
                refine mm_wcm (h26.1 c6) ?_
                rintro v τ ⟨I27, J27, rfl, rfl, h27⟩
                refine mm_r0' ⟨rfl, ?_⟩
                show mm_b _ _ _ _ _ [some (.ref 46), none, some (.int r2)] [] ((fl, n1, n2, p, q, ad), I27, J27)
                show mm_wc d 186 [.ref 46] ((fl, 0, 0, p, q, ad), I27, J27) _
                refine mm_wcm h27 ?_
                rintro v τ ⟨r28, I28, J28, rfl, rfl, h28⟩
                refine mm_r1' ⟨rfl, ?_⟩
                exact h28
              · exact (h26.2 c6)
    · show mm_b _ _ _ _ _ [some (.ref 46), some (.int a1), none] [] ((fl, n1, n2, p, q, ad), I1, J1)
      show (¬ (I1 46 13) = (nI 0) → _) ∧ ((I1 46 13) = (nI 0) → _)
      refine ⟨fun c2 => ?_, fun c2 => ?_⟩
      · show mm_u _ _ _ _ _ _ [some (.ref 46), none, some (.int (-1))] [] ((fl, n1, n2, p, q, ad), I1, J1)
        show (¬ (I1 46 13) = (nI 0) → _) ∧ ((I1 46 13) = (nI 0) → _)
        refine ⟨fun c3 => ?_, fun c3 => ?_⟩
        · show mm_u _ _ _ _ _ _ [some (.ref 46), none, some (.int (-1))] [] ((fl, n1, n2, p, q, ad), I1, J1)
          show ((I1 46 13) = (nI 0) → _) ∧ (¬ (I1 46 13) = (nI 0) → _)
          refine ⟨fun c4 => ?_, fun c4 => ?_⟩
          · show mm_u _ _ _ _ _ _ [some (.ref 46), none, some (.int (-1))] [] ((fl, n1, n2, p, q, ad), I1, J1)
            show (vp_in (nI 9) 279) ∧ _
            refine ⟨(mm_inl (by decide)), ?_⟩
            show mm_b _ _ _ _ _ [some (.ref 46), none, some (.int (-1))] [.int (I1 50 9), .int (nI 9), .ref 50] ((fl, n1, n2, p, q, ad), I1, J1)
            show (vp_in (nI 9) 279) ∧ _
            refine ⟨(mm_inl (by decide)), ?_⟩
            show mm_b _ _ _ _ _ [some (.ref 46), none, some (.int (-1))] [] ((fl, n1, n2, p, q, ad), (mm_up I1 50 9 ((I1 50 9) ||| ((nI 1) <<< ((-1) &&& 31)))), J1)
            show mm_wc d 176 [.ref 46] ((fl, 0, 0, p, q, ad), (mm_up I1 50 9 ((I1 50 9) ||| ((nI 1) <<< ((-1) &&& 31)))), J1) _
            refine mm_wcm ((((h1.2 c1).1 c2).1 c3).1 c4) ?_
            rintro v τ ⟨I29, J29, rfl, rfl, h29⟩
            refine mm_r0' ⟨rfl, ?_⟩
            show mm_b _ _ _ _ _ [some (.ref 46), none, some (.int (-1))] [] ((fl, n1, n2, p, q, ad), I29, J29)
            show mm_wc d 186 [.ref 46] ((fl, 0, 0, p, q, ad), I29, J29) _
            refine mm_wcm h29 ?_
            rintro v τ ⟨r30, I30, J30, rfl, rfl, h30⟩
            refine mm_r1' ⟨rfl, ?_⟩
            exact h30
          · exact ((((h1.2 c1).1 c2).1 c3).2 c4)
        · show mm_b _ _ _ _ _ [some (.ref 46), none, some (.int (-1))] [] ((fl, n1, n2, p, q, ad), I1, J1)
          show (vp_in (nI 9) 279) ∧ _
          refine ⟨(mm_inl (by decide)), ?_⟩
          show mm_b _ _ _ _ _ [some (.ref 46), none, some (.int (-1))] [.int (I1 50 9)] ((fl, n1, n2, p, q, ad), I1, J1)
          show mm_wc d 170 [.int (I1 50 9), .int (-1)] ((fl, 0, 0, p, q, ad), I1, J1) _
          refine mm_wcm (((h1.2 c1).1 c2).2 c3) ?_
          rintro v τ ⟨r31, I31, J31, rfl, rfl, h31⟩
          refine mm_r1' ⟨rfl, ?_⟩
          show mm_b _ _ _ _ _ [some (.ref 46), none, some (.int (-1))] [.int r31] ((fl, n1, n2, p, q, ad), I31, J31)
          show (r31 = (nI 0) → _) ∧ (¬ r31 = (nI 0) → _)
          refine ⟨fun c4 => ?_, fun c4 => ?_⟩
          · show mm_u _ _ _ _ _ _ [some (.ref 46), none, some (.int (-1))] [] ((fl, n1, n2, p, q, ad), I31, J31)
            show ((I31 46 13) = (nI 0) → _) ∧ (¬ (I31 46 13) = (nI 0) → _)
            refine ⟨fun c5 => ?_, fun c5 => ?_⟩
            · show mm_u _ _ _ _ _ _ [some (.ref 46), none, some (.int (-1))] [] ((fl, n1, n2, p, q, ad), I31, J31)
              show (vp_in (nI 9) 279) ∧ _
              refine ⟨(mm_inl (by decide)), ?_⟩
              show mm_b _ _ _ _ _ [some (.ref 46), none, some (.int (-1))] [.int (I31 50 9), .int (nI 9), .ref 50] ((fl, n1, n2, p, q, ad), I31, J31)
              show (vp_in (nI 9) 279) ∧ _
              refine ⟨(mm_inl (by decide)), ?_⟩
              show mm_b _ _ _ _ _ [some (.ref 46), none, some (.int (-1))] [] ((fl, n1, n2, p, q, ad), (mm_up I31 50 9 ((I31 50 9) ||| ((nI 1) <<< ((-1) &&& 31)))), J31)
              show mm_wc d 176 [.ref 46] ((fl, 0, 0, p, q, ad), (mm_up I31 50 9 ((I31 50 9) ||| ((nI 1) <<< ((-1) &&& 31)))), J31) _
              refine mm_wcm ((h31.1 c4).1 c5) ?_
              rintro v τ ⟨I32, J32, rfl, rfl, h32⟩
              refine mm_r0' ⟨rfl, ?_⟩
              show mm_b _ _ _ _ _ [some (.ref 46), none, some (.int (-1))] [] ((fl, n1, n2, p, q, ad), I32, J32)
              show mm_wc d 186 [.ref 46] ((fl, 0, 0, p, q, ad), I32, J32) _
              refine mm_wcm h32 ?_
              rintro v τ ⟨r33, I33, J33, rfl, rfl, h33⟩
              refine mm_r1' ⟨rfl, ?_⟩
              exact h33
            · exact ((h31.1 c4).2 c5)
          · show mm_b _ _ _ _ _ [some (.ref 46), none, some (.int (-1))] [] ((fl, n1, n2, p, q, ad), I31, J31)
            show mm_wc d 177 [.ref 46, .int (nI 3), .int (I31 46 4)] ((fl, 0, 0, p, q, ad), I31, J31) _
            refine mm_wcm (h31.2 c4) ?_
            rintro v τ ⟨I34, J34, rfl, rfl, h34⟩
            refine mm_r0' ⟨rfl, ?_⟩
            show mm_b _ _ _ _ _ [some (.ref 46), none, some (.int (-1))] [] ((fl, n1, n2, p, q, ad), I34, J34)
            show ((I34 46 13) = (nI 0) → _) ∧ (¬ (I34 46 13) = (nI 0) → _)
            refine ⟨fun c5 => ?_, fun c5 => ?_⟩
            · show mm_u _ _ _ _ _ _ [some (.ref 46), none, some (.int (-1))] [] ((fl, n1, n2, p, q, ad), I34, J34)
              show (vp_in (nI 9) 279) ∧ _
              refine ⟨(mm_inl (by decide)), ?_⟩
              show mm_b _ _ _ _ _ [some (.ref 46), none, some (.int (-1))] [.int (I34 50 9), .int (nI 9), .ref 50] ((fl, n1, n2, p, q, ad), I34, J34)
              show (vp_in (nI 9) 279) ∧ _
              refine ⟨(mm_inl (by decide)), ?_⟩
              show mm_b _ _ _ _ _ [some (.ref 46), none, some (.int (-1))] [] ((fl, n1, n2, p, q, ad), (mm_up I34 50 9 ((I34 50 9) ||| ((nI 1) <<< ((-1) &&& 31)))), J34)
              show mm_wc d 176 [.ref 46] ((fl, 0, 0, p, q, ad), (mm_up I34 50 9 ((I34 50 9) ||| ((nI 1) <<< ((-1) &&& 31)))), J34) _
              refine mm_wcm (h34.1 c5) ?_
              rintro v τ ⟨I35, J35, rfl, rfl, h35⟩
              refine mm_r0' ⟨rfl, ?_⟩
              show mm_b _ _ _ _ _ [some (.ref 46), none, some (.int (-1))] [] ((fl, n1, n2, p, q, ad), I35, J35)
              show mm_wc d 186 [.ref 46] ((fl, 0, 0, p, q, ad), I35, J35) _
              refine mm_wcm h35 ?_
              rintro v τ ⟨r36, I36, J36, rfl, rfl, h36⟩
              refine mm_r1' ⟨rfl, ?_⟩
              exact h36
            · exact (h34.2 c5)
      · show mm_b _ _ _ _ _ [some (.ref 46), none, some (.int (-1))] [] ((fl, n1, n2, p, q, ad), I1, J1)
        show mm_wc d 169 [.int (-1), .int (nI 0), .int (nI 9)] ((fl, 0, 0, p, q, ad), I1, J1) _
        refine mm_wcm ((h1.2 c1).2 c2) ?_
        rintro v τ ⟨r37, I37, J37, rfl, rfl, h37⟩
        refine mm_r1' ⟨rfl, ?_⟩
        show mm_b _ _ _ _ _ [some (.ref 46), none, some (.int (-1))] [.int r37] ((fl, n1, n2, p, q, ad), I37, J37)
        show (¬ r37 = (nI 0) → _) ∧ (r37 = (nI 0) → _)
        refine ⟨fun c3 => ?_, fun c3 => ?_⟩
        · show mm_u _ _ _ _ _ _ [some (.ref 46), none, some (.int (-1))] [] ((fl, n1, n2, p, q, ad), I37, J37)
          show (¬ (I37 46 13) = (nI 0) → _) ∧ ((I37 46 13) = (nI 0) → _)
          refine ⟨fun c4 => ?_, fun c4 => ?_⟩
          · show mm_u _ _ _ _ _ _ [some (.ref 46), none, some (.int (-1))] [] ((fl, n1, n2, p, q, ad), I37, J37)
            show ((I37 46 13) = (nI 0) → _) ∧ (¬ (I37 46 13) = (nI 0) → _)
            refine ⟨fun c5 => ?_, fun c5 => ?_⟩
            · show mm_u _ _ _ _ _ _ [some (.ref 46), none, some (.int (-1))] [] ((fl, n1, n2, p, q, ad), I37, J37)
              show (vp_in (nI 9) 279) ∧ _
              refine ⟨(mm_inl (by decide)), ?_⟩
              show mm_b _ _ _ _ _ [some (.ref 46), none, some (.int (-1))] [.int (I37 50 9), .int (nI 9), .ref 50] ((fl, n1, n2, p, q, ad), I37, J37)
              show (vp_in (nI 9) 279) ∧ _
              refine ⟨(mm_inl (by decide)), ?_⟩
              show mm_b _ _ _ _ _ [some (.ref 46), none, some (.int (-1))] [] ((fl, n1, n2, p, q, ad), (mm_up I37 50 9 ((I37 50 9) ||| ((nI 1) <<< ((-1) &&& 31)))), J37)
              show mm_wc d 176 [.ref 46] ((fl, 0, 0, p, q, ad), (mm_up I37 50 9 ((I37 50 9) ||| ((nI 1) <<< ((-1) &&& 31)))), J37) _
              refine mm_wcm (((h37.1 c3).1 c4).1 c5) ?_
              rintro v τ ⟨I38, J38, rfl, rfl, h38⟩
              refine mm_r0' ⟨rfl, ?_⟩
              show mm_b _ _ _ _ _ [some (.ref 46), none, some (.int (-1))] [] ((fl, n1, n2, p, q, ad), I38, J38)
              show mm_wc d 186 [.ref 46] ((fl, 0, 0, p, q, ad), I38, J38) _
              refine mm_wcm h38 ?_
              rintro v τ ⟨r39, I39, J39, rfl, rfl, h39⟩
              refine mm_r1' ⟨rfl, ?_⟩
              exact h39
            · exact (((h37.1 c3).1 c4).2 c5)
          · show mm_b _ _ _ _ _ [some (.ref 46), none, some (.int (-1))] [] ((fl, n1, n2, p, q, ad), I37, J37)
            show (vp_in (nI 9) 279) ∧ _
            refine ⟨(mm_inl (by decide)), ?_⟩
            show mm_b _ _ _ _ _ [some (.ref 46), none, some (.int (-1))] [.int (I37 50 9)] ((fl, n1, n2, p, q, ad), I37, J37)
            show mm_wc d 170 [.int (I37 50 9), .int (-1)] ((fl, 0, 0, p, q, ad), I37, J37) _
            refine mm_wcm ((h37.1 c3).2 c4) ?_
            rintro v τ ⟨r40, I40, J40, rfl, rfl, h40⟩
            refine mm_r1' ⟨rfl, ?_⟩
            show mm_b _ _ _ _ _ [some (.ref 46), none, some (.int (-1))] [.int r40] ((fl, n1, n2, p, q, ad), I40, J40)
            show (r40 = (nI 0) → _) ∧ (¬ r40 = (nI 0) → _)
            refine ⟨fun c5 => ?_, fun c5 => ?_⟩
            · show mm_u _ _ _ _ _ _ [some (.ref 46), none, some (.int (-1))] [] ((fl, n1, n2, p, q, ad), I40, J40)
              show ((I40 46 13) = (nI 0) → _) ∧ (¬ (I40 46 13) = (nI 0) → _)
              refine ⟨fun c6 => ?_, fun c6 => ?_⟩
              · show mm_u _ _ _ _ _ _ [some (.ref 46), none, some (.int (-1))] [] ((fl, n1, n2, p, q, ad), I40, J40)
                show (vp_in (nI 9) 279) ∧ _
                refine ⟨(mm_inl (by decide)), ?_⟩
                show mm_b _ _ _ _ _ [some (.ref 46), none, some (.int (-1))] [.int (I40 50 9), .int (nI 9), .ref 50] ((fl, n1, n2, p, q, ad), I40, J40)
                show (vp_in (nI 9) 279) ∧ _
                refine ⟨(mm_inl (by decide)), ?_⟩
                show mm_b _ _ _ _ _ [some (.ref 46), none, some (.int (-1))] [] ((fl, n1, n2, p, q, ad), (mm_up I40 50 9 ((I40 50 9) ||| ((nI 1) <<< ((-1) &&& 31)))), J40)
                show mm_wc d 176 [.ref 46] ((fl, 0, 0, p, q, ad), (mm_up I40 50 9 ((I40 50 9) ||| ((nI 1) <<< ((-1) &&& 31)))), J40) _
                refine mm_wcm ((h40.1 c5).1 c6) ?_
                rintro v τ ⟨I41, J41, rfl, rfl, h41⟩
                refine mm_r0' ⟨rfl, ?_⟩
                show mm_b _ _ _ _ _ [some (.ref 46), none, some (.int (-1))] [] ((fl, n1, n2, p, q, ad), I41, J41)
                show mm_wc d 186 [.ref 46] ((fl, 0, 0, p, q, ad), I41, J41) _
                refine mm_wcm h41 ?_
                rintro v τ ⟨r42, I42, J42, rfl, rfl, h42⟩
                refine mm_r1' ⟨rfl, ?_⟩
                exact h42
              · exact ((h40.1 c5).2 c6)
            · show mm_b _ _ _ _ _ [some (.ref 46), none, some (.int (-1))] [] ((fl, n1, n2, p, q, ad), I40, J40)
              show mm_wc d 177 [.ref 46, .int (nI 3), .int (I40 46 4)] ((fl, 0, 0, p, q, ad), I40, J40) _
              refine mm_wcm (h40.2 c5) ?_
              rintro v τ ⟨I43, J43, rfl, rfl, h43⟩
              refine mm_r0' ⟨rfl, ?_⟩
              show mm_b _ _ _ _ _ [some (.ref 46), none, some (.int (-1))] [] ((fl, n1, n2, p, q, ad), I43, J43)
              show ((I43 46 13) = (nI 0) → _) ∧ (¬ (I43 46 13) = (nI 0) → _)
              refine ⟨fun c6 => ?_, fun c6 => ?_⟩
              · show mm_u _ _ _ _ _ _ [some (.ref 46), none, some (.int (-1))] [] ((fl, n1, n2, p, q, ad), I43, J43)
                show (vp_in (nI 9) 279) ∧ _
                refine ⟨(mm_inl (by decide)), ?_⟩
                show mm_b _ _ _ _ _ [some (.ref 46), none, some (.int (-1))] [.int (I43 50 9), .int (nI 9), .ref 50] ((fl, n1, n2, p, q, ad), I43, J43)
                show (vp_in (nI 9) 279) ∧ _
                refine ⟨(mm_inl (by decide)), ?_⟩
                show mm_b _ _ _ _ _ [some (.ref 46), none, some (.int (-1))] [] ((fl, n1, n2, p, q, ad), (mm_up I43 50 9 ((I43 50 9) ||| ((nI 1) <<< ((-1) &&& 31)))), J43)
                show mm_wc d 176 [.ref 46] ((fl, 0, 0, p, q, ad), (mm_up I43 50 9 ((I43 50 9) ||| ((nI 1) <<< ((-1) &&& 31)))), J43) _
                refine mm_wcm (h43.1 c6) ?_
                rintro v τ ⟨I44, J44, rfl, rfl, h44⟩
                refine mm_r0' ⟨rfl, ?_⟩
                show mm_b _ _ _ _ _ [some (.ref 46), none, some (.int (-1))] [] ((fl, n1, n2, p, q, ad), I44, J44)
                show mm_wc d 186 [.ref 46] ((fl, 0, 0, p, q, ad), I44, J44) _
                refine mm_wcm h44 ?_
                rintro v τ ⟨r45, I45, J45, rfl, rfl, h45⟩
                refine mm_r1' ⟨rfl, ?_⟩
                exact h45
              · exact (h43.2 c6)
        · show mm_b _ _ _ _ _ [some (.ref 46), none, some (.int (-1))] [] ((fl, n1, n2, p, q, ad), I37, J37)
          show mm_wc d 177 [.ref 46, .int (nI 2), .int (I37 46 4)] ((fl, 0, 0, p, q, ad), I37, J37) _
          refine mm_wcm (h37.2 c3) ?_
          rintro v τ ⟨I46, J46, rfl, rfl, h46⟩
          refine mm_r0' ⟨rfl, ?_⟩
          show mm_b _ _ _ _ _ [some (.ref 46), none, some (.int (-1))] [] ((fl, n1, n2, p, q, ad), I46, J46)
          show (¬ (I46 46 13) = (nI 0) → _) ∧ ((I46 46 13) = (nI 0) → _)
          refine ⟨fun c4 => ?_, fun c4 => ?_⟩
          · show mm_u _ _ _ _ _ _ [some (.ref 46), none, some (.int (-1))] [] ((fl, n1, n2, p, q, ad), I46, J46)
            show ((I46 46 13) = (nI 0) → _) ∧ (¬ (I46 46 13) = (nI 0) → _)
            refine ⟨fun c5 => ?_, fun c5 => ?_⟩
            · show mm_u _ _ _ _ _ _ [some (.ref 46), none, some (.int (-1))] [] ((fl, n1, n2, p, q, ad), I46, J46)
              show (vp_in (nI 9) 279) ∧ _
              refine ⟨(mm_inl (by decide)), ?_⟩
              show mm_b _ _ _ _ _ [some (.ref 46), none, some (.int (-1))] [.int (I46 50 9), .int (nI 9), .ref 50] ((fl, n1, n2, p, q, ad), I46, J46)
              show (vp_in (nI 9) 279) ∧ _
              refine ⟨(mm_inl (by decide)), ?_⟩
              show mm_b _ _ _ _ _ [some (.ref 46), none, some (.int (-1))] [] ((fl, n1, n2, p, q, ad), (mm_up I46 50 9 ((I46 50 9) ||| ((nI 1) <<< ((-1) &&& 31)))), J46)
              show mm_wc d 176 [.ref 46] ((fl, 0, 0, p, q, ad), (mm_up I46 50 9 ((I46 50 9) ||| ((nI 1) <<< ((-1) &&& 31)))), J46) _
              refine mm_wcm ((h46.1 c4).1 c5) ?_
              rintro v τ ⟨I47, J47, rfl, rfl, h47⟩
              refine mm_r0' ⟨rfl, ?_⟩
              show mm_b _ _ _ _ _ [some (.ref 46), none, some (.int (-1))] [] ((fl, n1, n2, p, q, ad), I47, J47)
              show mm_wc d 186 [.ref 46] ((fl, 0, 0, p, q, ad), I47, J47) _
              refine mm_wcm h47 ?_
              rintro v τ ⟨r48, I48, J48, rfl, rfl, h48⟩
              refine mm_r1' ⟨rfl, ?_⟩
              exact h48
            · exact ((h46.1 c4).2 c5)
          · show mm_b _ _ _ _ _ [some (.ref 46), none, some (.int (-1))] [] ((fl, n1, n2, p, q, ad), I46, J46)
            show (vp_in (nI 9) 279) ∧ _
            refine ⟨(mm_inl (by decide)), ?_⟩
            show mm_b _ _ _ _ _ [some (.ref 46), none, some (.int (-1))] [.int (I46 50 9)] ((fl, n1, n2, p, q, ad), I46, J46)
            show mm_wc d 170 [.int (I46 50 9), .int (-1)] ((fl, 0, 0, p, q, ad), I46, J46) _
            refine mm_wcm (h46.2 c4) ?_
            rintro v τ ⟨r49, I49, J49, rfl, rfl, h49⟩
            refine mm_r1' ⟨rfl, ?_⟩
            show mm_b _ _ _ _ _ [some (.ref 46), none, some (.int (-1))] [.int r49] ((fl, n1, n2, p, q, ad), I49, J49)
            show (r49 = (nI 0) → _) ∧ (¬ r49 = (nI 0) → _)
            refine ⟨fun c5 => ?_, fun c5 => ?_⟩
            · show mm_u _ _ _ _ _ _ [some (.ref 46), none, some (.int (-1))] [] ((fl, n1, n2, p, q, ad), I49, J49)
              show ((I49 46 13) = (nI 0) → _) ∧ (¬ (I49 46 13) = (nI 0) → _)
              refine ⟨fun c6 => ?_, fun c6 => ?_⟩
              · show mm_u _ _ _ _ _ _ [some (.ref 46), none, some (.int (-1))] [] ((fl, n1, n2, p, q, ad), I49, J49)
                show (vp_in (nI 9) 279) ∧ _
                refine ⟨(mm_inl (by decide)), ?_⟩
                show mm_b _ _ _ _ _ [some (.ref 46), none, some (.int (-1))] [.int (I49 50 9), .int (nI 9), .ref 50] ((fl, n1, n2, p, q, ad), I49, J49)
                show (vp_in (nI 9) 279) ∧ _
                refine ⟨(mm_inl (by decide)), ?_⟩
                show mm_b _ _ _ _ _ [some (.ref 46), none, some (.int (-1))] [] ((fl, n1, n2, p, q, ad), (mm_up I49 50 9 ((I49 50 9) ||| ((nI 1) <<< ((-1) &&& 31)))), J49)
                show mm_wc d 176 [.ref 46] ((fl, 0, 0, p, q, ad), (mm_up I49 50 9 ((I49 50 9) ||| ((nI 1) <<< ((-1) &&& 31)))), J49) _
                refine mm_wcm ((h49.1 c5).1 c6) ?_
                rintro v τ ⟨I50, J50, rfl, rfl, h50⟩
                refine mm_r0' ⟨rfl, ?_⟩
                show mm_b _ _ _ _ _ [some (.ref 46), none, some (.int (-1))] [] ((fl, n1, n2, p, q, ad), I50, J50)
                show mm_wc d 186 [.ref 46] ((fl, 0, 0, p, q, ad), I50, J50) _
                refine mm_wcm h50 ?_
                rintro v τ ⟨r51, I51, J51, rfl, rfl, h51⟩
                refine mm_r1' ⟨rfl, ?_⟩
                exact h51
              · exact ((h49.1 c5).2 c6)
            · show mm_b _ _ _ _ _ [some (.ref 46), none, some (.int (-1))] [] ((fl, n1, n2, p, q, ad), I49, J49)
              show mm_wc d 177 [.ref 46, .int (nI 3), .int (I49 46 4)] ((fl, 0, 0, p, q, ad), I49, J49) _
              refine mm_wcm (h49.2 c5) ?_
              rintro v τ ⟨I52, J52, rfl, rfl, h52⟩
              refine mm_r0' ⟨rfl, ?_⟩
              show mm_b _ _ _ _ _ [some (.ref 46), none, some (.int (-1))] [] ((fl, n1, n2, p, q, ad), I52, J52)
              show ((I52 46 13) = (nI 0) → _) ∧ (¬ (I52 46 13) = (nI 0) → _)
              refine ⟨fun c6 => ?_, fun c6 => ?_⟩
              · show mm_u _ _ _ _ _ _ [some (.ref 46), none, some (.int (-1))] [] ((fl, n1, n2, p, q, ad), I52, J52)
                show (vp_in (nI 9) 279) ∧ _
                refine ⟨(mm_inl (by decide)), ?_⟩
                show mm_b _ _ _ _ _ [some (.ref 46), none, some (.int (-1))] [.int (I52 50 9), .int (nI 9), .ref 50] ((fl, n1, n2, p, q, ad), I52, J52)
                show (vp_in (nI 9) 279) ∧ _
                refine ⟨(mm_inl (by decide)), ?_⟩
                show mm_b _ _ _ _ _ [some (.ref 46), none, some (.int (-1))] [] ((fl, n1, n2, p, q, ad), (mm_up I52 50 9 ((I52 50 9) ||| ((nI 1) <<< ((-1) &&& 31)))), J52)
                show mm_wc d 176 [.ref 46] ((fl, 0, 0, p, q, ad), (mm_up I52 50 9 ((I52 50 9) ||| ((nI 1) <<< ((-1) &&& 31)))), J52) _
                refine mm_wcm (h52.1 c6) ?_
                rintro v τ ⟨I53, J53, rfl, rfl, h53⟩
                refine mm_r0' ⟨rfl, ?_⟩
                show mm_b _ _ _ _ _ [some (.ref 46), none, some (.int (-1))] [] ((fl, n1, n2, p, q, ad), I53, J53)
                show mm_wc d 186 [.ref 46] ((fl, 0, 0, p, q, ad), I53, J53) _
                refine mm_wcm h53 ?_
                rintro v τ ⟨r54, I54, J54, rfl, rfl, h54⟩
                refine mm_r1' ⟨rfl, ?_⟩
                exact h54
              · exact (h52.2 c6)
/- 199 ThreeBreathsModel fault -/
theorem fx_199 {d : Nat} {fl : Nat → Bool} {n1 n2 : Nat} {p q : Bool} {ad : Nat → Nat} {I : mmI} {J : mmJ} {Q : mmQ} (h : Q (some (.int (I 46 9))) ((fl, n1, n2, p, q, ad), (mm_up I 46 0 (nI 0)), J)) : mm_wc (d + 1) 199 [.ref 46] ((fl, n1, n2, p, q, ad), I, J) Q := by
  refine mm_call (c := 199) rfl rfl ?_
  refine mm_go [] 80 ?_
  exact h
/- 200 ThreeBreathsModel where -/
theorem fx_200 {d : Nat} {fl : Nat → Bool} {n1 n2 : Nat} {p q : Bool} {ad : Nat → Nat} {I : mmI} {J : mmJ} {Q : mmQ} (h : ((¬ (I 46 11) = (nI 4) → Q (some (.int (-1))) ((fl, n1, n2, p, q, ad), (mm_up I 46 0 (nI 0)), J)) ∧ ((I 46 11) = (nI 4) → Q (some (.int (I 46 10))) ((fl, n1, n2, p, q, ad), (mm_up I 46 0 (nI 0)), J)))) : mm_wc (d + 1) 200 [.ref 46] ((fl, n1, n2, p, q, ad), I, J) Q := by
  refine mm_call (c := 200) rfl rfl ?_
  refine mm_go [] 80 ?_
  show (¬ (I 46 11) = (nI 4) → _) ∧ ((I 46 11) = (nI 4) → _)
  refine ⟨fun c0 => ?_, fun c0 => ?_⟩
  · exact (h.1 c0)
  · exact (h.2 c0)
/- 201 ThreeBreathsModel isCandle -/
theorem fx_201 {d : Nat} {x0 : Int32} {fl : Nat → Bool} {n1 n2 : Nat} {p q : Bool} {ad : Nat → Nat} {I : mmI} {J : mmJ} {Q : mmQ} (h : (((I 46 14) = (nI 0) → Q (some (.int (nI 0))) ((fl, n1, n2, p, q, ad), I, J)) ∧ (¬ (I 46 14) = (nI 0) → mm_wc d 169 [.int x0, .int (nI 0), .int ((I 49 3) - (nI 1))] ((fl, 0, 0, p, q, ad), I, J) (fun v τ => ∃ r1 I1 J1, v = some (.int r1) ∧ τ = ((fl, 0, 0, p, q, ad), I1, J1) ∧ ((r1 = (nI 0) → Q (some (.int (nI 0))) ((fl, n1, n2, p, q, ad), I1, J1)) ∧ (¬ r1 = (nI 0) → Q (some (.int (nI 1))) ((fl, n1, n2, p, q, ad), I1, J1))))))) : mm_wc (d + 1) 201 [.ref 46, .int x0] ((fl, n1, n2, p, q, ad), I, J) Q := by
  refine mm_call (c := 201) rfl rfl ?_
  refine mm_go [] 80 ?_
  show ((I 46 14) = (nI 0) → _) ∧ (¬ (I 46 14) = (nI 0) → _)
  refine ⟨fun c0 => ?_, fun c0 => ?_⟩
  · show mm_u _ _ _ _ _ _ [some (.ref 46), some (.int x0)] [] ((fl, n1, n2, p, q, ad), I, J)
    show (((nI 0) : Int32) = 0 ∨ ((nI 0) : Int32) = 1) ∧ _
    refine ⟨(by decide), ?_⟩
    exact (h.1 c0)
  · show mm_b _ _ _ _ _ [some (.ref 46), some (.int x0)] [] ((fl, n1, n2, p, q, ad), I, J)
    show (vp_in (nI 3) 279) ∧ _
    refine ⟨(mm_inl (by decide)), ?_⟩
    show mm_b _ _ _ _ _ [some (.ref 46), some (.int x0)] [.int (I 49 3), .int (nI 0), .int x0] ((fl, n1, n2, p, q, ad), I, J)
    show mm_wc d 169 [.int x0, .int (nI 0), .int ((I 49 3) - (nI 1))] ((fl, 0, 0, p, q, ad), I, J) _
    refine mm_wcm (h.2 c0) ?_
    rintro v τ ⟨r1, I1, J1, rfl, rfl, h1⟩
    refine mm_r1' ⟨rfl, ?_⟩
    show mm_b _ _ _ _ _ [some (.ref 46), some (.int x0)] [.int r1] ((fl, n1, n2, p, q, ad), I1, J1)
    show (r1 = (nI 0) → _) ∧ (¬ r1 = (nI 0) → _)
    refine ⟨fun c1 => ?_, fun c1 => ?_⟩
    · show mm_u _ _ _ _ _ _ [some (.ref 46), some (.int x0)] [] ((fl, n1, n2, p, q, ad), I1, J1)
      show (((nI 0) : Int32) = 0 ∨ ((nI 0) : Int32) = 1) ∧ _
      refine ⟨(by decide), ?_⟩
      exact (h1.1 c1)
    · show mm_b _ _ _ _ _ [some (.ref 46), some (.int x0)] [] ((fl, n1, n2, p, q, ad), I1, J1)
      show (((nI 1) : Int32) = 0 ∨ ((nI 1) : Int32) = 1) ∧ _
      refine ⟨(by decide), ?_⟩
      exact (h1.2 c1)
/- 202 ThreeBreathsModel isPlace -/
theorem fx_202 {d : Nat} {x0 : Int32} {fl : Nat → Bool} {n1 n2 : Nat} {p q : Bool} {ad : Nat → Nat} {I : mmI} {J : mmJ} {Q : mmQ} (h : (((I 46 14) = (nI 0) → Q (some (.int (nI 0))) ((fl, n1, n2, p, q, ad), I, J)) ∧ (¬ (I 46 14) = (nI 0) → mm_wc d 169 [.int x0, .int (nI 0), .int ((I 49 4) - (nI 1))] ((fl, 0, 0, p, q, ad), I, J) (fun v τ => ∃ r1 I1 J1, v = some (.int r1) ∧ τ = ((fl, 0, 0, p, q, ad), I1, J1) ∧ ((r1 = (nI 0) → Q (some (.int (nI 0))) ((fl, n1, n2, p, q, ad), I1, J1)) ∧ (¬ r1 = (nI 0) → Q (some (.int (nI 1))) ((fl, n1, n2, p, q, ad), I1, J1))))))) : mm_wc (d + 1) 202 [.ref 46, .int x0] ((fl, n1, n2, p, q, ad), I, J) Q := by
  refine mm_call (c := 202) rfl rfl ?_
  refine mm_go [] 80 ?_
  show ((I 46 14) = (nI 0) → _) ∧ (¬ (I 46 14) = (nI 0) → _)
  refine ⟨fun c0 => ?_, fun c0 => ?_⟩
  · show mm_u _ _ _ _ _ _ [some (.ref 46), some (.int x0)] [] ((fl, n1, n2, p, q, ad), I, J)
    show (((nI 0) : Int32) = 0 ∨ ((nI 0) : Int32) = 1) ∧ _
    refine ⟨(by decide), ?_⟩
    exact (h.1 c0)
  · show mm_b _ _ _ _ _ [some (.ref 46), some (.int x0)] [] ((fl, n1, n2, p, q, ad), I, J)
    show (vp_in (nI 4) 279) ∧ _
    refine ⟨(mm_inl (by decide)), ?_⟩
    show mm_b _ _ _ _ _ [some (.ref 46), some (.int x0)] [.int (I 49 4), .int (nI 0), .int x0] ((fl, n1, n2, p, q, ad), I, J)
    show mm_wc d 169 [.int x0, .int (nI 0), .int ((I 49 4) - (nI 1))] ((fl, 0, 0, p, q, ad), I, J) _
    refine mm_wcm (h.2 c0) ?_
    rintro v τ ⟨r1, I1, J1, rfl, rfl, h1⟩
    refine mm_r1' ⟨rfl, ?_⟩
    show mm_b _ _ _ _ _ [some (.ref 46), some (.int x0)] [.int r1] ((fl, n1, n2, p, q, ad), I1, J1)
    show (r1 = (nI 0) → _) ∧ (¬ r1 = (nI 0) → _)
    refine ⟨fun c1 => ?_, fun c1 => ?_⟩
    · show mm_u _ _ _ _ _ _ [some (.ref 46), some (.int x0)] [] ((fl, n1, n2, p, q, ad), I1, J1)
      show (((nI 0) : Int32) = 0 ∨ ((nI 0) : Int32) = 1) ∧ _
      refine ⟨(by decide), ?_⟩
      exact (h1.1 c1)
    · show mm_b _ _ _ _ _ [some (.ref 46), some (.int x0)] [] ((fl, n1, n2, p, q, ad), I1, J1)
      show (((nI 1) : Int32) = 0 ∨ ((nI 1) : Int32) = 1) ∧ _
      refine ⟨(by decide), ?_⟩
      exact (h1.2 c1)
/- 203 ThreeBreathsModel isPerson -/
theorem fx_203 {d : Nat} {x0 : Int32} {fl : Nat → Bool} {n1 n2 : Nat} {p q : Bool} {ad : Nat → Nat} {I : mmI} {J : mmJ} {Q : mmQ} (h : (((I 46 14) = (nI 0) → Q (some (.int (nI 0))) ((fl, n1, n2, p, q, ad), I, J)) ∧ (¬ (I 46 14) = (nI 0) → mm_wc d 169 [.int x0, .int (nI 0), .int ((I 49 6) - (nI 1))] ((fl, 0, 0, p, q, ad), I, J) (fun v τ => ∃ r1 I1 J1, v = some (.int r1) ∧ τ = ((fl, 0, 0, p, q, ad), I1, J1) ∧ ((r1 = (nI 0) → Q (some (.int (nI 0))) ((fl, n1, n2, p, q, ad), I1, J1)) ∧ (¬ r1 = (nI 0) → Q (some (.int (nI 1))) ((fl, n1, n2, p, q, ad), I1, J1))))))) : mm_wc (d + 1) 203 [.ref 46, .int x0] ((fl, n1, n2, p, q, ad), I, J) Q := by
  refine mm_call (c := 203) rfl rfl ?_
  refine mm_go [] 80 ?_
  show ((I 46 14) = (nI 0) → _) ∧ (¬ (I 46 14) = (nI 0) → _)
  refine ⟨fun c0 => ?_, fun c0 => ?_⟩
  · show mm_u _ _ _ _ _ _ [some (.ref 46), some (.int x0)] [] ((fl, n1, n2, p, q, ad), I, J)
    show (((nI 0) : Int32) = 0 ∨ ((nI 0) : Int32) = 1) ∧ _
    refine ⟨(by decide), ?_⟩
    exact (h.1 c0)
  · show mm_b _ _ _ _ _ [some (.ref 46), some (.int x0)] [] ((fl, n1, n2, p, q, ad), I, J)
    show (vp_in (nI 6) 279) ∧ _
    refine ⟨(mm_inl (by decide)), ?_⟩
    show mm_b _ _ _ _ _ [some (.ref 46), some (.int x0)] [.int (I 49 6), .int (nI 0), .int x0] ((fl, n1, n2, p, q, ad), I, J)
    show mm_wc d 169 [.int x0, .int (nI 0), .int ((I 49 6) - (nI 1))] ((fl, 0, 0, p, q, ad), I, J) _
    refine mm_wcm (h.2 c0) ?_
    rintro v τ ⟨r1, I1, J1, rfl, rfl, h1⟩
    refine mm_r1' ⟨rfl, ?_⟩
    show mm_b _ _ _ _ _ [some (.ref 46), some (.int x0)] [.int r1] ((fl, n1, n2, p, q, ad), I1, J1)
    show (r1 = (nI 0) → _) ∧ (¬ r1 = (nI 0) → _)
    refine ⟨fun c1 => ?_, fun c1 => ?_⟩
    · show mm_u _ _ _ _ _ _ [some (.ref 46), some (.int x0)] [] ((fl, n1, n2, p, q, ad), I1, J1)
      show (((nI 0) : Int32) = 0 ∨ ((nI 0) : Int32) = 1) ∧ _
      refine ⟨(by decide), ?_⟩
      exact (h1.1 c1)
    · show mm_b _ _ _ _ _ [some (.ref 46), some (.int x0)] [] ((fl, n1, n2, p, q, ad), I1, J1)
      show (((nI 1) : Int32) = 0 ∨ ((nI 1) : Int32) = 1) ∧ _
      refine ⟨(by decide), ?_⟩
      exact (h1.2 c1)
/- 204 ThreeBreathsModel isBreath -/
theorem fx_204 {d : Nat} {x0 : Int32} {fl : Nat → Bool} {n1 n2 : Nat} {p q : Bool} {ad : Nat → Nat} {I : mmI} {J : mmJ} {Q : mmQ} (h : (((I 46 14) = (nI 0) → Q (some (.int (nI 0))) ((fl, n1, n2, p, q, ad), I, J)) ∧ (¬ (I 46 14) = (nI 0) → mm_wc d 206 [.ref 46] ((fl, 0, 0, p, q, ad), I, J) (fun v τ => ∃ r1 I1 J1, v = some (.int r1) ∧ τ = ((fl, 0, 0, p, q, ad), I1, J1) ∧ mm_wc d 169 [.int x0, .int (nI 0), .int (r1 - (nI 1))] ((fl, 0, 0, p, q, ad), I1, J1) (fun v τ => ∃ r2 I2 J2, v = some (.int r2) ∧ τ = ((fl, 0, 0, p, q, ad), I2, J2) ∧ ((r2 = (nI 0) → Q (some (.int (nI 0))) ((fl, n1, n2, p, q, ad), I2, J2)) ∧ (¬ r2 = (nI 0) → Q (some (.int (nI 1))) ((fl, n1, n2, p, q, ad), I2, J2)))))))) : mm_wc (d + 1) 204 [.ref 46, .int x0] ((fl, n1, n2, p, q, ad), I, J) Q := by
  refine mm_call (c := 204) rfl rfl ?_
  refine mm_go [] 80 ?_
  show ((I 46 14) = (nI 0) → _) ∧ (¬ (I 46 14) = (nI 0) → _)
  refine ⟨fun c0 => ?_, fun c0 => ?_⟩
  · show mm_u _ _ _ _ _ _ [some (.ref 46), some (.int x0)] [] ((fl, n1, n2, p, q, ad), I, J)
    show (((nI 0) : Int32) = 0 ∨ ((nI 0) : Int32) = 1) ∧ _
    refine ⟨(by decide), ?_⟩
    exact (h.1 c0)
  · show mm_b _ _ _ _ _ [some (.ref 46), some (.int x0)] [] ((fl, n1, n2, p, q, ad), I, J)
    show mm_wc d 206 [.ref 46] ((fl, 0, 0, p, q, ad), I, J) _
    refine mm_wcm (h.2 c0) ?_
    rintro v τ ⟨r1, I1, J1, rfl, rfl, h1⟩
    refine mm_r1' ⟨rfl, ?_⟩
    show mm_b _ _ _ _ _ [some (.ref 46), some (.int x0)] [.int r1, .int (nI 0), .int x0] ((fl, n1, n2, p, q, ad), I1, J1)
    show mm_wc d 169 [.int x0, .int (nI 0), .int (r1 - (nI 1))] ((fl, 0, 0, p, q, ad), I1, J1) _
    refine mm_wcm h1 ?_
    rintro v τ ⟨r2, I2, J2, rfl, rfl, h2⟩
    refine mm_r1' ⟨rfl, ?_⟩
    show mm_b _ _ _ _ _ [some (.ref 46), some (.int x0)] [.int r2] ((fl, n1, n2, p, q, ad), I2, J2)
    show (r2 = (nI 0) → _) ∧ (¬ r2 = (nI 0) → _)
    refine ⟨fun c1 => ?_, fun c1 => ?_⟩
    · show mm_u _ _ _ _ _ _ [some (.ref 46), some (.int x0)] [] ((fl, n1, n2, p, q, ad), I2, J2)
      show (((nI 0) : Int32) = 0 ∨ ((nI 0) : Int32) = 1) ∧ _
      refine ⟨(by decide), ?_⟩
      exact (h2.1 c1)
    · show mm_b _ _ _ _ _ [some (.ref 46), some (.int x0)] [] ((fl, n1, n2, p, q, ad), I2, J2)
      show (((nI 1) : Int32) = 0 ∨ ((nI 1) : Int32) = 1) ∧ _
      refine ⟨(by decide), ?_⟩
      exact (h2.2 c1)
/- 205 ThreeBreathsModel allCandles -/
theorem fx_205 {d : Nat} {fl : Nat → Bool} {n1 n2 : Nat} {p q : Bool} {ad : Nat → Nat} {I : mmI} {J : mmJ} {Q : mmQ} (h : Q (some (.int (((nI 1) <<< ((I 49 3) &&& 31)) - (nI 1)))) ((fl, n1, n2, p, q, ad), I, J)) : mm_wc (d + 1) 205 [.ref 46] ((fl, n1, n2, p, q, ad), I, J) Q := by
  refine mm_call (c := 205) rfl rfl ?_
  refine mm_go [] 80 ?_
  show (vp_in (nI 3) 279) ∧ _
  refine ⟨(mm_inl (by decide)), ?_⟩
  exact h
/- 206 ThreeBreathsModel breathMany -/
theorem fx_206 {d : Nat} {fl : Nat → Bool} {n1 n2 : Nat} {p q : Bool} {ad : Nat → Nat} {I : mmI} {J : mmJ} {Q : mmQ} (h : Q (some (.int (((nI 16) * (I 49 4)) * (I 49 6)))) ((fl, n1, n2, p, q, ad), I, J)) : mm_wc (d + 1) 206 [.ref 46] ((fl, n1, n2, p, q, ad), I, J) Q := by
  refine mm_call (c := 206) rfl rfl ?_
  refine mm_go [] 80 ?_
  show (vp_in (nI 4) 279) ∧ _
  refine ⟨(mm_inl (by decide)), ?_⟩
  show mm_b _ _ _ _ _ [some (.ref 46)] [.int (I 49 4), .int (nI 16)] ((fl, n1, n2, p, q, ad), I, J)
  show (vp_in (nI 6) 279) ∧ _
  refine ⟨(mm_inl (by decide)), ?_⟩
  exact h
/- 207 ThreeBreathsModel personOf -/
theorem fx_207 {d : Nat} {x0 : Int32} {fl : Nat → Bool} {n1 n2 : Nat} {p q : Bool} {ad : Nat → Nat} {I : mmI} {J : mmJ} {Q : mmQ} (h : (¬ (I 49 4) = 0 ∧ Q (some (.int ((x0 / (nI 16)) / (I 49 4)))) ((fl, n1, n2, p, q, ad), I, J))) : mm_wc (d + 1) 207 [.ref 46, .int x0] ((fl, n1, n2, p, q, ad), I, J) Q := by
  refine mm_call (c := 207) rfl rfl ?_
  refine mm_go [] 80 ?_
  show (¬ ((nI 16) : Int32) = 0) ∧ _
  refine ⟨(by decide), ?_⟩
  show mm_b _ _ _ _ _ [some (.ref 46), some (.int x0)] [.int (x0 / (nI 16))] ((fl, n1, n2, p, q, ad), I, J)
  show (vp_in (nI 4) 279) ∧ _
  refine ⟨(mm_inl (by decide)), ?_⟩
  show mm_b _ _ _ _ _ [some (.ref 46), some (.int x0)] [.int (I 49 4), .int (x0 / (nI 16))] ((fl, n1, n2, p, q, ad), I, J)
  show ¬ (I 49 4) = 0 ∧ _
  refine ⟨h.1, ?_⟩
  exact h.2
/- 208 ThreeBreathsModel placeOf -/
theorem fx_208 {d : Nat} {x0 : Int32} {fl : Nat → Bool} {n1 n2 : Nat} {p q : Bool} {ad : Nat → Nat} {I : mmI} {J : mmJ} {Q : mmQ} (h : (¬ (I 49 4) = 0 ∧ Q (some (.int ((x0 / (nI 16)) - (x0 / (nI 16)) / (I 49 4) * (I 49 4)))) ((fl, n1, n2, p, q, ad), I, J))) : mm_wc (d + 1) 208 [.ref 46, .int x0] ((fl, n1, n2, p, q, ad), I, J) Q := by
  refine mm_call (c := 208) rfl rfl ?_
  refine mm_go [] 80 ?_
  show (¬ ((nI 16) : Int32) = 0) ∧ _
  refine ⟨(by decide), ?_⟩
  show mm_b _ _ _ _ _ [some (.ref 46), some (.int x0)] [.int (x0 / (nI 16))] ((fl, n1, n2, p, q, ad), I, J)
  show (vp_in (nI 4) 279) ∧ _
  refine ⟨(mm_inl (by decide)), ?_⟩
  show mm_b _ _ _ _ _ [some (.ref 46), some (.int x0)] [.int (I 49 4), .int (x0 / (nI 16))] ((fl, n1, n2, p, q, ad), I, J)
  show ¬ (I 49 4) = 0 ∧ _
  refine ⟨h.1, ?_⟩
  exact h.2
/- 209 ThreeBreathsModel isIn -/
theorem fx_209 {d : Nat} {x0 : Int32} {x1 : Int32} {fl : Nat → Bool} {n1 n2 : Nat} {p q : Bool} {ad : Nat → Nat} {I : mmI} {J : mmJ} {Q : mmQ} (h : mm_wc d 207 [.ref 46, .int x0] ((fl, 0, 0, p, q, ad), I, J) (fun v τ => ∃ r1 I1 J1, v = some (.int r1) ∧ τ = ((fl, 0, 0, p, q, ad), I1, J1) ∧ (vp_in ((nI 13) + x1) 279 ∧ mm_wc d 208 [.ref 46, .int x0] ((fl, 0, 0, p, q, ad), I1, J1) (fun v τ => ∃ r2 I2 J2, v = some (.int r2) ∧ τ = ((fl, 0, 0, p, q, ad), I2, J2) ∧ (vp_in ((nI 46) + r2) 279 ∧ (vp_in ((nI 24) + x1) 279 ∧ mm_wc d 208 [.ref 46, .int x0] ((fl, 0, 0, p, q, ad), I2, J2) (fun v τ => ∃ r3 I3 J3, v = some (.int r3) ∧ τ = ((fl, 0, 0, p, q, ad), I3, J3) ∧ (vp_in ((nI 51) + r3) 279 ∧ ((¬ ((I1 49 (((nI 13) + x1)).toNatClampNeg) - (I2 49 (((nI 46) + r2)).toNatClampNeg)) = (nI 0) → (vp_in (x0 - x0 / (nI 16) * (nI 16)) 16 ∧ (vp_in (x0 - x0 / (nI 16) * (nI 16)) 16 ∧ (vp_in (x0 - x0 / (nI 16) * (nI 16)) 16 ∧ (vp_in (x0 - x0 / (nI 16) * (nI 16)) 16 ∧ (vp_in ((nI 35) + x1) 279 ∧ ((¬ (I3 49 (((nI 35) + x1)).toNatClampNeg) = (nI 1) → ((((((I1 49 (((nI 13) + x1)).toNatClampNeg) - (I2 49 (((nI 46) + r2)).toNatClampNeg)) * (I3 55 ((x0 - x0 / (nI 16) * (nI 16))).toNatClampNeg)) + (((I2 49 (((nI 24) + x1)).toNatClampNeg) - (I3 49 (((nI 51) + r3)).toNatClampNeg)) * (I3 56 ((x0 - x0 / (nI 16) * (nI 16))).toNatClampNeg))) ≤ (nI 0) → Q (some (.int (nI 0))) ((fl, n1, n2, p, q, ad), I3, J3)) ∧ (¬ ((((I1 49 (((nI 13) + x1)).toNatClampNeg) - (I2 49 (((nI 46) + r2)).toNatClampNeg)) * (I3 55 ((x0 - x0 / (nI 16) * (nI 16))).toNatClampNeg)) + (((I2 49 (((nI 24) + x1)).toNatClampNeg) - (I3 49 (((nI 51) + r3)).toNatClampNeg)) * (I3 56 ((x0 - x0 / (nI 16) * (nI 16))).toNatClampNeg))) ≤ (nI 0) → (((nI 0) ≤ (((I3 55 ((x0 - x0 / (nI 16) * (nI 16))).toNatClampNeg) * ((I2 49 (((nI 24) + x1)).toNatClampNeg) - (I3 49 (((nI 51) + r3)).toNatClampNeg))) - ((I3 56 ((x0 - x0 / (nI 16) * (nI 16))).toNatClampNeg) * ((I1 49 (((nI 13) + x1)).toNatClampNeg) - (I2 49 (((nI 46) + r2)).toNatClampNeg)))) → (vp_in ((nI 68) + r1) 279 ∧ ((((I3 49 (((nI 68) + r1)).toNatClampNeg) * ((((I1 49 (((nI 13) + x1)).toNatClampNeg) - (I2 49 (((nI 46) + r2)).toNatClampNeg)) * (I3 55 ((x0 - x0 / (nI 16) * (nI 16))).toNatClampNeg)) + (((I2 49 (((nI 24) + x1)).toNatClampNeg) - (I3 49 (((nI 51) + r3)).toNatClampNeg)) * (I3 56 ((x0 - x0 / (nI 16) * (nI 16))).toNatClampNeg)))) < ((nI 10) * (((I3 55 ((x0 - x0 / (nI 16) * (nI 16))).toNatClampNeg) * ((I2 49 (((nI 24) + x1)).toNatClampNeg) - (I3 49 (((nI 51) + r3)).toNatClampNeg))) - ((I3 56 ((x0 - x0 / (nI 16) * (nI 16))).toNatClampNeg) * ((I1 49 (((nI 13) + x1)).toNatClampNeg) - (I2 49 (((nI 46) + r2)).toNatClampNeg))))) → Q (some (.int (nI 0))) ((fl, n1, n2, p, q, ad), I3, J3)) ∧ (¬ ((I3 49 (((nI 68) + r1)).toNatClampNeg) * ((((I1 49 (((nI 13) + x1)).toNatClampNeg) - (I2 49 (((nI 46) + r2)).toNatClampNeg)) * (I3 55 ((x0 - x0 / (nI 16) * (nI 16))).toNatClampNeg)) + (((I2 49 (((nI 24) + x1)).toNatClampNeg) - (I3 49 (((nI 51) + r3)).toNatClampNeg)) * (I3 56 ((x0 - x0 / (nI 16) * (nI 16))).toNatClampNeg)))) < ((nI 10) * (((I3 55 ((x0 - x0 / (nI 16) * (nI 16))).toNatClampNeg) * ((I2 49 (((nI 24) + x1)).toNatClampNeg) - (I3 49 (((nI 51) + r3)).toNatClampNeg))) - ((I3 56 ((x0 - x0 / (nI 16) * (nI 16))).toNatClampNeg) * ((I1 49 (((nI 13) + x1)).toNatClampNeg) - (I2 49 (((nI 46) + r2)).toNatClampNeg))))) → (vp_in ((nI 64) + r1) 279 ∧ (vp_in ((nI 64) + r1) 279 ∧ ((((I3 49 (((nI 64) + r1)).toNatClampNeg) * (I3 49 (((nI 64) + r1)).toNatClampNeg)) < (((((I1 49 (((nI 13) + x1)).toNatClampNeg) - (I2 49 (((nI 46) + r2)).toNatClampNeg)) * ((I1 49 (((nI 13) + x1)).toNatClampNeg) - (I2 49 (((nI 46) + r2)).toNatClampNeg))) + (((I2 49 (((nI 24) + x1)).toNatClampNeg) - (I3 49 (((nI 51) + r3)).toNatClampNeg)) * ((I2 49 (((nI 24) + x1)).toNatClampNeg) - (I3 49 (((nI 51) + r3)).toNatClampNeg)))) * (nI 1)) → Q (some (.int (nI 0))) ((fl, n1, n2, p, q, ad), I3, J3)) ∧ (¬ ((I3 49 (((nI 64) + r1)).toNatClampNeg) * (I3 49 (((nI 64) + r1)).toNatClampNeg)) < (((((I1 49 (((nI 13) + x1)).toNatClampNeg) - (I2 49 (((nI 46) + r2)).toNatClampNeg)) * ((I1 49 (((nI 13) + x1)).toNatClampNeg) - (I2 49 (((nI 46) + r2)).toNatClampNeg))) + (((I2 49 (((nI 24) + x1)).toNatClampNeg) - (I3 49 (((nI 51) + r3)).toNatClampNeg)) * ((I2 49 (((nI 24) + x1)).toNatClampNeg) - (I3 49 (((nI 51) + r3)).toNatClampNeg)))) * (nI 1)) → Q (some (.int (nI 1))) ((fl, n1, n2, p, q, ad), I3, J3))))))))) ∧ (¬ (nI 0) ≤ (((I3 55 ((x0 - x0 / (nI 16) * (nI 16))).toNatClampNeg) * ((I2 49 (((nI 24) + x1)).toNatClampNeg) - (I3 49 (((nI 51) + r3)).toNatClampNeg))) - ((I3 56 ((x0 - x0 / (nI 16) * (nI 16))).toNatClampNeg) * ((I1 49 (((nI 13) + x1)).toNatClampNeg) - (I2 49 (((nI 46) + r2)).toNatClampNeg)))) → (vp_in ((nI 68) + r1) 279 ∧ ((((I3 49 (((nI 68) + r1)).toNatClampNeg) * ((((I1 49 (((nI 13) + x1)).toNatClampNeg) - (I2 49 (((nI 46) + r2)).toNatClampNeg)) * (I3 55 ((x0 - x0 / (nI 16) * (nI 16))).toNatClampNeg)) + (((I2 49 (((nI 24) + x1)).toNatClampNeg) - (I3 49 (((nI 51) + r3)).toNatClampNeg)) * (I3 56 ((x0 - x0 / (nI 16) * (nI 16))).toNatClampNeg)))) < ((nI 10) * (-(((I3 55 ((x0 - x0 / (nI 16) * (nI 16))).toNatClampNeg) * ((I2 49 (((nI 24) + x1)).toNatClampNeg) - (I3 49 (((nI 51) + r3)).toNatClampNeg))) - ((I3 56 ((x0 - x0 / (nI 16) * (nI 16))).toNatClampNeg) * ((I1 49 (((nI 13) + x1)).toNatClampNeg) - (I2 49 (((nI 46) + r2)).toNatClampNeg)))))) → Q (some (.int (nI 0))) ((fl, n1, n2, p, q, ad), I3, J3)) ∧ (¬ ((I3 49 (((nI 68) + r1)).toNatClampNeg) * ((((I1 49 (((nI 13) + x1)).toNatClampNeg) - (I2 49 (((nI 46) + r2)).toNatClampNeg)) * (I3 55 ((x0 - x0 / (nI 16) * (nI 16))).toNatClampNeg)) + (((I2 49 (((nI 24) + x1)).toNatClampNeg) - (I3 49 (((nI 51) + r3)).toNatClampNeg)) * (I3 56 ((x0 - x0 / (nI 16) * (nI 16))).toNatClampNeg)))) < ((nI 10) * (-(((I3 55 ((x0 - x0 / (nI 16) * (nI 16))).toNatClampNeg) * ((I2 49 (((nI 24) + x1)).toNatClampNeg) - (I3 49 (((nI 51) + r3)).toNatClampNeg))) - ((I3 56 ((x0 - x0 / (nI 16) * (nI 16))).toNatClampNeg) * ((I1 49 (((nI 13) + x1)).toNatClampNeg) - (I2 49 (((nI 46) + r2)).toNatClampNeg)))))) → (vp_in ((nI 64) + r1) 279 ∧ (vp_in ((nI 64) + r1) 279 ∧ ((((I3 49 (((nI 64) + r1)).toNatClampNeg) * (I3 49 (((nI 64) + r1)).toNatClampNeg)) < (((((I1 49 (((nI 13) + x1)).toNatClampNeg) - (I2 49 (((nI 46) + r2)).toNatClampNeg)) * ((I1 49 (((nI 13) + x1)).toNatClampNeg) - (I2 49 (((nI 46) + r2)).toNatClampNeg))) + (((I2 49 (((nI 24) + x1)).toNatClampNeg) - (I3 49 (((nI 51) + r3)).toNatClampNeg)) * ((I2 49 (((nI 24) + x1)).toNatClampNeg) - (I3 49 (((nI 51) + r3)).toNatClampNeg)))) * (nI 1)) → Q (some (.int (nI 0))) ((fl, n1, n2, p, q, ad), I3, J3)) ∧ (¬ ((I3 49 (((nI 64) + r1)).toNatClampNeg) * (I3 49 (((nI 64) + r1)).toNatClampNeg)) < (((((I1 49 (((nI 13) + x1)).toNatClampNeg) - (I2 49 (((nI 46) + r2)).toNatClampNeg)) * ((I1 49 (((nI 13) + x1)).toNatClampNeg) - (I2 49 (((nI 46) + r2)).toNatClampNeg))) + (((I2 49 (((nI 24) + x1)).toNatClampNeg) - (I3 49 (((nI 51) + r3)).toNatClampNeg)) * ((I2 49 (((nI 24) + x1)).toNatClampNeg) - (I3 49 (((nI 51) + r3)).toNatClampNeg)))) * (nI 1)) → Q (some (.int (nI 1))) ((fl, n1, n2, p, q, ad), I3, J3))))))))))))) ∧ ((I3 49 (((nI 35) + x1)).toNatClampNeg) = (nI 1) → ((((((I1 49 (((nI 13) + x1)).toNatClampNeg) - (I2 49 (((nI 46) + r2)).toNatClampNeg)) * (I3 55 ((x0 - x0 / (nI 16) * (nI 16))).toNatClampNeg)) + (((I2 49 (((nI 24) + x1)).toNatClampNeg) - (I3 49 (((nI 51) + r3)).toNatClampNeg)) * (I3 56 ((x0 - x0 / (nI 16) * (nI 16))).toNatClampNeg))) ≤ (nI 0) → Q (some (.int (nI 0))) ((fl, n1, n2, p, q, ad), I3, J3)) ∧ (¬ ((((I1 49 (((nI 13) + x1)).toNatClampNeg) - (I2 49 (((nI 46) + r2)).toNatClampNeg)) * (I3 55 ((x0 - x0 / (nI 16) * (nI 16))).toNatClampNeg)) + (((I2 49 (((nI 24) + x1)).toNatClampNeg) - (I3 49 (((nI 51) + r3)).toNatClampNeg)) * (I3 56 ((x0 - x0 / (nI 16) * (nI 16))).toNatClampNeg))) ≤ (nI 0) → (((nI 0) ≤ (((I3 55 ((x0 - x0 / (nI 16) * (nI 16))).toNatClampNeg) * ((I2 49 (((nI 24) + x1)).toNatClampNeg) - (I3 49 (((nI 51) + r3)).toNatClampNeg))) - ((I3 56 ((x0 - x0 / (nI 16) * (nI 16))).toNatClampNeg) * ((I1 49 (((nI 13) + x1)).toNatClampNeg) - (I2 49 (((nI 46) + r2)).toNatClampNeg)))) → (vp_in ((nI 68) + r1) 279 ∧ ((((I3 49 (((nI 68) + r1)).toNatClampNeg) * ((((I1 49 (((nI 13) + x1)).toNatClampNeg) - (I2 49 (((nI 46) + r2)).toNatClampNeg)) * (I3 55 ((x0 - x0 / (nI 16) * (nI 16))).toNatClampNeg)) + (((I2 49 (((nI 24) + x1)).toNatClampNeg) - (I3 49 (((nI 51) + r3)).toNatClampNeg)) * (I3 56 ((x0 - x0 / (nI 16) * (nI 16))).toNatClampNeg)))) < ((nI 10) * (((I3 55 ((x0 - x0 / (nI 16) * (nI 16))).toNatClampNeg) * ((I2 49 (((nI 24) + x1)).toNatClampNeg) - (I3 49 (((nI 51) + r3)).toNatClampNeg))) - ((I3 56 ((x0 - x0 / (nI 16) * (nI 16))).toNatClampNeg) * ((I1 49 (((nI 13) + x1)).toNatClampNeg) - (I2 49 (((nI 46) + r2)).toNatClampNeg))))) → Q (some (.int (nI 0))) ((fl, n1, n2, p, q, ad), I3, J3)) ∧ (¬ ((I3 49 (((nI 68) + r1)).toNatClampNeg) * ((((I1 49 (((nI 13) + x1)).toNatClampNeg) - (I2 49 (((nI 46) + r2)).toNatClampNeg)) * (I3 55 ((x0 - x0 / (nI 16) * (nI 16))).toNatClampNeg)) + (((I2 49 (((nI 24) + x1)).toNatClampNeg) - (I3 49 (((nI 51) + r3)).toNatClampNeg)) * (I3 56 ((x0 - x0 / (nI 16) * (nI 16))).toNatClampNeg)))) < ((nI 10) * (((I3 55 ((x0 - x0 / (nI 16) * (nI 16))).toNatClampNeg) * ((I2 49 (((nI 24) + x1)).toNatClampNeg) - (I3 49 (((nI 51) + r3)).toNatClampNeg))) - ((I3 56 ((x0 - x0 / (nI 16) * (nI 16))).toNatClampNeg) * ((I1 49 (((nI 13) + x1)).toNatClampNeg) - (I2 49 (((nI 46) + r2)).toNatClampNeg))))) → (vp_in ((nI 64) + r1) 279 ∧ (vp_in ((nI 64) + r1) 279 ∧ ((((I3 49 (((nI 64) + r1)).toNatClampNeg) * (I3 49 (((nI 64) + r1)).toNatClampNeg)) < (((((I1 49 (((nI 13) + x1)).toNatClampNeg) - (I2 49 (((nI 46) + r2)).toNatClampNeg)) * ((I1 49 (((nI 13) + x1)).toNatClampNeg) - (I2 49 (((nI 46) + r2)).toNatClampNeg))) + (((I2 49 (((nI 24) + x1)).toNatClampNeg) - (I3 49 (((nI 51) + r3)).toNatClampNeg)) * ((I2 49 (((nI 24) + x1)).toNatClampNeg) - (I3 49 (((nI 51) + r3)).toNatClampNeg)))) * (nI 4)) → Q (some (.int (nI 0))) ((fl, n1, n2, p, q, ad), I3, J3)) ∧ (¬ ((I3 49 (((nI 64) + r1)).toNatClampNeg) * (I3 49 (((nI 64) + r1)).toNatClampNeg)) < (((((I1 49 (((nI 13) + x1)).toNatClampNeg) - (I2 49 (((nI 46) + r2)).toNatClampNeg)) * ((I1 49 (((nI 13) + x1)).toNatClampNeg) - (I2 49 (((nI 46) + r2)).toNatClampNeg))) + (((I2 49 (((nI 24) + x1)).toNatClampNeg) - (I3 49 (((nI 51) + r3)).toNatClampNeg)) * ((I2 49 (((nI 24) + x1)).toNatClampNeg) - (I3 49 (((nI 51) + r3)).toNatClampNeg)))) * (nI 4)) → Q (some (.int (nI 1))) ((fl, n1, n2, p, q, ad), I3, J3))))))))) ∧ (¬ (nI 0) ≤ (((I3 55 ((x0 - x0 / (nI 16) * (nI 16))).toNatClampNeg) * ((I2 49 (((nI 24) + x1)).toNatClampNeg) - (I3 49 (((nI 51) + r3)).toNatClampNeg))) - ((I3 56 ((x0 - x0 / (nI 16) * (nI 16))).toNatClampNeg) * ((I1 49 (((nI 13) + x1)).toNatClampNeg) - (I2 49 (((nI 46) + r2)).toNatClampNeg)))) → (vp_in ((nI 68) + r1) 279 ∧ ((((I3 49 (((nI 68) + r1)).toNatClampNeg) * ((((I1 49 (((nI 13) + x1)).toNatClampNeg) - (I2 49 (((nI 46) + r2)).toNatClampNeg)) * (I3 55 ((x0 - x0 / (nI 16) * (nI 16))).toNatClampNeg)) + (((I2 49 (((nI 24) + x1)).toNatClampNeg) - (I3 49 (((nI 51) + r3)).toNatClampNeg)) * (I3 56 ((x0 - x0 / (nI 16) * (nI 16))).toNatClampNeg)))) < ((nI 10) * (-(((I3 55 ((x0 - x0 / (nI 16) * (nI 16))).toNatClampNeg) * ((I2 49 (((nI 24) + x1)).toNatClampNeg) - (I3 49 (((nI 51) + r3)).toNatClampNeg))) - ((I3 56 ((x0 - x0 / (nI 16) * (nI 16))).toNatClampNeg) * ((I1 49 (((nI 13) + x1)).toNatClampNeg) - (I2 49 (((nI 46) + r2)).toNatClampNeg)))))) → Q (some (.int (nI 0))) ((fl, n1, n2, p, q, ad), I3, J3)) ∧ (¬ ((I3 49 (((nI 68) + r1)).toNatClampNeg) * ((((I1 49 (((nI 13) + x1)).toNatClampNeg) - (I2 49 (((nI 46) + r2)).toNatClampNeg)) * (I3 55 ((x0 - x0 / (nI 16) * (nI 16))).toNatClampNeg)) + (((I2 49 (((nI 24) + x1)).toNatClampNeg) - (I3 49 (((nI 51) + r3)).toNatClampNeg)) * (I3 56 ((x0 - x0 / (nI 16) * (nI 16))).toNatClampNeg)))) < ((nI 10) * (-(((I3 55 ((x0 - x0 / (nI 16) * (nI 16))).toNatClampNeg) * ((I2 49 (((nI 24) + x1)).toNatClampNeg) - (I3 49 (((nI 51) + r3)).toNatClampNeg))) - ((I3 56 ((x0 - x0 / (nI 16) * (nI 16))).toNatClampNeg) * ((I1 49 (((nI 13) + x1)).toNatClampNeg) - (I2 49 (((nI 46) + r2)).toNatClampNeg)))))) → (vp_in ((nI 64) + r1) 279 ∧ (vp_in ((nI 64) + r1) 279 ∧ ((((I3 49 (((nI 64) + r1)).toNatClampNeg) * (I3 49 (((nI 64) + r1)).toNatClampNeg)) < (((((I1 49 (((nI 13) + x1)).toNatClampNeg) - (I2 49 (((nI 46) + r2)).toNatClampNeg)) * ((I1 49 (((nI 13) + x1)).toNatClampNeg) - (I2 49 (((nI 46) + r2)).toNatClampNeg))) + (((I2 49 (((nI 24) + x1)).toNatClampNeg) - (I3 49 (((nI 51) + r3)).toNatClampNeg)) * ((I2 49 (((nI 24) + x1)).toNatClampNeg) - (I3 49 (((nI 51) + r3)).toNatClampNeg)))) * (nI 4)) → Q (some (.int (nI 0))) ((fl, n1, n2, p, q, ad), I3, J3)) ∧ (¬ ((I3 49 (((nI 64) + r1)).toNatClampNeg) * (I3 49 (((nI 64) + r1)).toNatClampNeg)) < (((((I1 49 (((nI 13) + x1)).toNatClampNeg) - (I2 49 (((nI 46) + r2)).toNatClampNeg)) * ((I1 49 (((nI 13) + x1)).toNatClampNeg) - (I2 49 (((nI 46) + r2)).toNatClampNeg))) + (((I2 49 (((nI 24) + x1)).toNatClampNeg) - (I3 49 (((nI 51) + r3)).toNatClampNeg)) * ((I2 49 (((nI 24) + x1)).toNatClampNeg) - (I3 49 (((nI 51) + r3)).toNatClampNeg)))) * (nI 4)) → Q (some (.int (nI 1))) ((fl, n1, n2, p, q, ad), I3, J3)))))))))))))))))))) ∧ (((I1 49 (((nI 13) + x1)).toNatClampNeg) - (I2 49 (((nI 46) + r2)).toNatClampNeg)) = (nI 0) → ((¬ ((I2 49 (((nI 24) + x1)).toNatClampNeg) - (I3 49 (((nI 51) + r3)).toNatClampNeg)) = (nI 0) → (vp_in (x0 - x0 / (nI 16) * (nI 16)) 16 ∧ (vp_in (x0 - x0 / (nI 16) * (nI 16)) 16 ∧ (vp_in (x0 - x0 / (nI 16) * (nI 16)) 16 ∧ (vp_in (x0 - x0 / (nI 16) * (nI 16)) 16 ∧ (vp_in ((nI 35) + x1) 279 ∧ ((¬ (I3 49 (((nI 35) + x1)).toNatClampNeg) = (nI 1) → ((((((I1 49 (((nI 13) + x1)).toNatClampNeg) - (I2 49 (((nI 46) + r2)).toNatClampNeg)) * (I3 55 ((x0 - x0 / (nI 16) * (nI 16))).toNatClampNeg)) + (((I2 49 (((nI 24) + x1)).toNatClampNeg) - (I3 49 (((nI 51) + r3)).toNatClampNeg)) * (I3 56 ((x0 - x0 / (nI 16) * (nI 16))).toNatClampNeg))) ≤ (nI 0) → Q (some (.int (nI 0))) ((fl, n1, n2, p, q, ad), I3, J3)) ∧ (¬ ((((I1 49 (((nI 13) + x1)).toNatClampNeg) - (I2 49 (((nI 46) + r2)).toNatClampNeg)) * (I3 55 ((x0 - x0 / (nI 16) * (nI 16))).toNatClampNeg)) + (((I2 49 (((nI 24) + x1)).toNatClampNeg) - (I3 49 (((nI 51) + r3)).toNatClampNeg)) * (I3 56 ((x0 - x0 / (nI 16) * (nI 16))).toNatClampNeg))) ≤ (nI 0) → (((nI 0) ≤ (((I3 55 ((x0 - x0 / (nI 16) * (nI 16))).toNatClampNeg) * ((I2 49 (((nI 24) + x1)).toNatClampNeg) - (I3 49 (((nI 51) + r3)).toNatClampNeg))) - ((I3 56 ((x0 - x0 / (nI 16) * (nI 16))).toNatClampNeg) * ((I1 49 (((nI 13) + x1)).toNatClampNeg) - (I2 49 (((nI 46) + r2)).toNatClampNeg)))) → (vp_in ((nI 68) + r1) 279 ∧ ((((I3 49 (((nI 68) + r1)).toNatClampNeg) * ((((I1 49 (((nI 13) + x1)).toNatClampNeg) - (I2 49 (((nI 46) + r2)).toNatClampNeg)) * (I3 55 ((x0 - x0 / (nI 16) * (nI 16))).toNatClampNeg)) + (((I2 49 (((nI 24) + x1)).toNatClampNeg) - (I3 49 (((nI 51) + r3)).toNatClampNeg)) * (I3 56 ((x0 - x0 / (nI 16) * (nI 16))).toNatClampNeg)))) < ((nI 10) * (((I3 55 ((x0 - x0 / (nI 16) * (nI 16))).toNatClampNeg) * ((I2 49 (((nI 24) + x1)).toNatClampNeg) - (I3 49 (((nI 51) + r3)).toNatClampNeg))) - ((I3 56 ((x0 - x0 / (nI 16) * (nI 16))).toNatClampNeg) * ((I1 49 (((nI 13) + x1)).toNatClampNeg) - (I2 49 (((nI 46) + r2)).toNatClampNeg))))) → Q (some (.int (nI 0))) ((fl, n1, n2, p, q, ad), I3, J3)) ∧ (¬ ((I3 49 (((nI 68) + r1)).toNatClampNeg) * ((((I1 49 (((nI 13) + x1)).toNatClampNeg) - (I2 49 (((nI 46) + r2)).toNatClampNeg)) * (I3 55 ((x0 - x0 / (nI 16) * (nI 16))).toNatClampNeg)) + (((I2 49 (((nI 24) + x1)).toNatClampNeg) - (I3 49 (((nI 51) + r3)).toNatClampNeg)) * (I3 56 ((x0 - x0 / (nI 16) * (nI 16))).toNatClampNeg)))) < ((nI 10) * (((I3 55 ((x0 - x0 / (nI 16) * (nI 16))).toNatClampNeg) * ((I2 49 (((nI 24) + x1)).toNatClampNeg) - (I3 49 (((nI 51) + r3)).toNatClampNeg))) - ((I3 56 ((x0 - x0 / (nI 16) * (nI 16))).toNatClampNeg) * ((I1 49 (((nI 13) + x1)).toNatClampNeg) - (I2 49 (((nI 46) + r2)).toNatClampNeg))))) → (vp_in ((nI 64) + r1) 279 ∧ (vp_in ((nI 64) + r1) 279 ∧ ((((I3 49 (((nI 64) + r1)).toNatClampNeg) * (I3 49 (((nI 64) + r1)).toNatClampNeg)) < (((((I1 49 (((nI 13) + x1)).toNatClampNeg) - (I2 49 (((nI 46) + r2)).toNatClampNeg)) * ((I1 49 (((nI 13) + x1)).toNatClampNeg) - (I2 49 (((nI 46) + r2)).toNatClampNeg))) + (((I2 49 (((nI 24) + x1)).toNatClampNeg) - (I3 49 (((nI 51) + r3)).toNatClampNeg)) * ((I2 49 (((nI 24) + x1)).toNatClampNeg) - (I3 49 (((nI 51) + r3)).toNatClampNeg)))) * (nI 1)) → Q (some (.int (nI 0))) ((fl, n1, n2, p, q, ad), I3, J3)) ∧ (¬ ((I3 49 (((nI 64) + r1)).toNatClampNeg) * (I3 49 (((nI 64) + r1)).toNatClampNeg)) < (((((I1 49 (((nI 13) + x1)).toNatClampNeg) - (I2 49 (((nI 46) + r2)).toNatClampNeg)) * ((I1 49 (((nI 13) + x1)).toNatClampNeg) - (I2 49 (((nI 46) + r2)).toNatClampNeg))) + (((I2 49 (((nI 24) + x1)).toNatClampNeg) - (I3 49 (((nI 51) + r3)).toNatClampNeg)) * ((I2 49 (((nI 24) + x1)).toNatClampNeg) - (I3 49 (((nI 51) + r3)).toNatClampNeg)))) * (nI 1)) → Q (some (.int (nI 1))) ((fl, n1, n2, p, q, ad), I3, J3))))))))) ∧ (¬ (nI 0) ≤ (((I3 55 ((x0 - x0 / (nI 16) * (nI 16))).toNatClampNeg) * ((I2 49 (((nI 24) + x1)).toNatClampNeg) - (I3 49 (((nI 51) + r3)).toNatClampNeg))) - ((I3 56 ((x0 - x0 / (nI 16) * (nI 16))).toNatClampNeg) * ((I1 49 (((nI 13) + x1)).toNatClampNeg) - (I2 49 (((nI 46) + r2)).toNatClampNeg)))) → (vp_in ((nI 68) + r1) 279 ∧ ((((I3 49 (((nI 68) + r1)).toNatClampNeg) * ((((I1 49 (((nI 13) + x1)).toNatClampNeg) - (I2 49 (((nI 46) + r2)).toNatClampNeg)) * (I3 55 ((x0 - x0 / (nI 16) * (nI 16))).toNatClampNeg)) + (((I2 49 (((nI 24) + x1)).toNatClampNeg) - (I3 49 (((nI 51) + r3)).toNatClampNeg)) * (I3 56 ((x0 - x0 / (nI 16) * (nI 16))).toNatClampNeg)))) < ((nI 10) * (-(((I3 55 ((x0 - x0 / (nI 16) * (nI 16))).toNatClampNeg) * ((I2 49 (((nI 24) + x1)).toNatClampNeg) - (I3 49 (((nI 51) + r3)).toNatClampNeg))) - ((I3 56 ((x0 - x0 / (nI 16) * (nI 16))).toNatClampNeg) * ((I1 49 (((nI 13) + x1)).toNatClampNeg) - (I2 49 (((nI 46) + r2)).toNatClampNeg)))))) → Q (some (.int (nI 0))) ((fl, n1, n2, p, q, ad), I3, J3)) ∧ (¬ ((I3 49 (((nI 68) + r1)).toNatClampNeg) * ((((I1 49 (((nI 13) + x1)).toNatClampNeg) - (I2 49 (((nI 46) + r2)).toNatClampNeg)) * (I3 55 ((x0 - x0 / (nI 16) * (nI 16))).toNatClampNeg)) + (((I2 49 (((nI 24) + x1)).toNatClampNeg) - (I3 49 (((nI 51) + r3)).toNatClampNeg)) * (I3 56 ((x0 - x0 / (nI 16) * (nI 16))).toNatClampNeg)))) < ((nI 10) * (-(((I3 55 ((x0 - x0 / (nI 16) * (nI 16))).toNatClampNeg) * ((I2 49 (((nI 24) + x1)).toNatClampNeg) - (I3 49 (((nI 51) + r3)).toNatClampNeg))) - ((I3 56 ((x0 - x0 / (nI 16) * (nI 16))).toNatClampNeg) * ((I1 49 (((nI 13) + x1)).toNatClampNeg) - (I2 49 (((nI 46) + r2)).toNatClampNeg)))))) → (vp_in ((nI 64) + r1) 279 ∧ (vp_in ((nI 64) + r1) 279 ∧ ((((I3 49 (((nI 64) + r1)).toNatClampNeg) * (I3 49 (((nI 64) + r1)).toNatClampNeg)) < (((((I1 49 (((nI 13) + x1)).toNatClampNeg) - (I2 49 (((nI 46) + r2)).toNatClampNeg)) * ((I1 49 (((nI 13) + x1)).toNatClampNeg) - (I2 49 (((nI 46) + r2)).toNatClampNeg))) + (((I2 49 (((nI 24) + x1)).toNatClampNeg) - (I3 49 (((nI 51) + r3)).toNatClampNeg)) * ((I2 49 (((nI 24) + x1)).toNatClampNeg) - (I3 49 (((nI 51) + r3)).toNatClampNeg)))) * (nI 1)) → Q (some (.int (nI 0))) ((fl, n1, n2, p, q, ad), I3, J3)) ∧ (¬ ((I3 49 (((nI 64) + r1)).toNatClampNeg) * (I3 49 (((nI 64) + r1)).toNatClampNeg)) < (((((I1 49 (((nI 13) + x1)).toNatClampNeg) - (I2 49 (((nI 46) + r2)).toNatClampNeg)) * ((I1 49 (((nI 13) + x1)).toNatClampNeg) - (I2 49 (((nI 46) + r2)).toNatClampNeg))) + (((I2 49 (((nI 24) + x1)).toNatClampNeg) - (I3 49 (((nI 51) + r3)).toNatClampNeg)) * ((I2 49 (((nI 24) + x1)).toNatClampNeg) - (I3 49 (((nI 51) + r3)).toNatClampNeg)))) * (nI 1)) → Q (some (.int (nI 1))) ((fl, n1, n2, p, q, ad), I3, J3))))))))))))) ∧ ((I3 49 (((nI 35) + x1)).toNatClampNeg) = (nI 1) → ((((((I1 49 (((nI 13) + x1)).toNatClampNeg) - (I2 49 (((nI 46) + r2)).toNatClampNeg)) * (I3 55 ((x0 - x0 / (nI 16) * (nI 16))).toNatClampNeg)) + (((I2 49 (((nI 24) + x1)).toNatClampNeg) - (I3 49 (((nI 51) + r3)).toNatClampNeg)) * (I3 56 ((x0 - x0 / (nI 16) * (nI 16))).toNatClampNeg))) ≤ (nI 0) → Q (some (.int (nI 0))) ((fl, n1, n2, p, q, ad), I3, J3)) ∧ (¬ ((((I1 49 (((nI 13) + x1)).toNatClampNeg) - (I2 49 (((nI 46) + r2)).toNatClampNeg)) * (I3 55 ((x0 - x0 / (nI 16) * (nI 16))).toNatClampNeg)) + (((I2 49 (((nI 24) + x1)).toNatClampNeg) - (I3 49 (((nI 51) + r3)).toNatClampNeg)) * (I3 56 ((x0 - x0 / (nI 16) * (nI 16))).toNatClampNeg))) ≤ (nI 0) → (((nI 0) ≤ (((I3 55 ((x0 - x0 / (nI 16) * (nI 16))).toNatClampNeg) * ((I2 49 (((nI 24) + x1)).toNatClampNeg) - (I3 49 (((nI 51) + r3)).toNatClampNeg))) - ((I3 56 ((x0 - x0 / (nI 16) * (nI 16))).toNatClampNeg) * ((I1 49 (((nI 13) + x1)).toNatClampNeg) - (I2 49 (((nI 46) + r2)).toNatClampNeg)))) → (vp_in ((nI 68) + r1) 279 ∧ ((((I3 49 (((nI 68) + r1)).toNatClampNeg) * ((((I1 49 (((nI 13) + x1)).toNatClampNeg) - (I2 49 (((nI 46) + r2)).toNatClampNeg)) * (I3 55 ((x0 - x0 / (nI 16) * (nI 16))).toNatClampNeg)) + (((I2 49 (((nI 24) + x1)).toNatClampNeg) - (I3 49 (((nI 51) + r3)).toNatClampNeg)) * (I3 56 ((x0 - x0 / (nI 16) * (nI 16))).toNatClampNeg)))) < ((nI 10) * (((I3 55 ((x0 - x0 / (nI 16) * (nI 16))).toNatClampNeg) * ((I2 49 (((nI 24) + x1)).toNatClampNeg) - (I3 49 (((nI 51) + r3)).toNatClampNeg))) - ((I3 56 ((x0 - x0 / (nI 16) * (nI 16))).toNatClampNeg) * ((I1 49 (((nI 13) + x1)).toNatClampNeg) - (I2 49 (((nI 46) + r2)).toNatClampNeg))))) → Q (some (.int (nI 0))) ((fl, n1, n2, p, q, ad), I3, J3)) ∧ (¬ ((I3 49 (((nI 68) + r1)).toNatClampNeg) * ((((I1 49 (((nI 13) + x1)).toNatClampNeg) - (I2 49 (((nI 46) + r2)).toNatClampNeg)) * (I3 55 ((x0 - x0 / (nI 16) * (nI 16))).toNatClampNeg)) + (((I2 49 (((nI 24) + x1)).toNatClampNeg) - (I3 49 (((nI 51) + r3)).toNatClampNeg)) * (I3 56 ((x0 - x0 / (nI 16) * (nI 16))).toNatClampNeg)))) < ((nI 10) * (((I3 55 ((x0 - x0 / (nI 16) * (nI 16))).toNatClampNeg) * ((I2 49 (((nI 24) + x1)).toNatClampNeg) - (I3 49 (((nI 51) + r3)).toNatClampNeg))) - ((I3 56 ((x0 - x0 / (nI 16) * (nI 16))).toNatClampNeg) * ((I1 49 (((nI 13) + x1)).toNatClampNeg) - (I2 49 (((nI 46) + r2)).toNatClampNeg))))) → (vp_in ((nI 64) + r1) 279 ∧ (vp_in ((nI 64) + r1) 279 ∧ ((((I3 49 (((nI 64) + r1)).toNatClampNeg) * (I3 49 (((nI 64) + r1)).toNatClampNeg)) < (((((I1 49 (((nI 13) + x1)).toNatClampNeg) - (I2 49 (((nI 46) + r2)).toNatClampNeg)) * ((I1 49 (((nI 13) + x1)).toNatClampNeg) - (I2 49 (((nI 46) + r2)).toNatClampNeg))) + (((I2 49 (((nI 24) + x1)).toNatClampNeg) - (I3 49 (((nI 51) + r3)).toNatClampNeg)) * ((I2 49 (((nI 24) + x1)).toNatClampNeg) - (I3 49 (((nI 51) + r3)).toNatClampNeg)))) * (nI 4)) → Q (some (.int (nI 0))) ((fl, n1, n2, p, q, ad), I3, J3)) ∧ (¬ ((I3 49 (((nI 64) + r1)).toNatClampNeg) * (I3 49 (((nI 64) + r1)).toNatClampNeg)) < (((((I1 49 (((nI 13) + x1)).toNatClampNeg) - (I2 49 (((nI 46) + r2)).toNatClampNeg)) * ((I1 49 (((nI 13) + x1)).toNatClampNeg) - (I2 49 (((nI 46) + r2)).toNatClampNeg))) + (((I2 49 (((nI 24) + x1)).toNatClampNeg) - (I3 49 (((nI 51) + r3)).toNatClampNeg)) * ((I2 49 (((nI 24) + x1)).toNatClampNeg) - (I3 49 (((nI 51) + r3)).toNatClampNeg)))) * (nI 4)) → Q (some (.int (nI 1))) ((fl, n1, n2, p, q, ad), I3, J3))))))))) ∧ (¬ (nI 0) ≤ (((I3 55 ((x0 - x0 / (nI 16) * (nI 16))).toNatClampNeg) * ((I2 49 (((nI 24) + x1)).toNatClampNeg) - (I3 49 (((nI 51) + r3)).toNatClampNeg))) - ((I3 56 ((x0 - x0 / (nI 16) * (nI 16))).toNatClampNeg) * ((I1 49 (((nI 13) + x1)).toNatClampNeg) - (I2 49 (((nI 46) + r2)).toNatClampNeg)))) → (vp_in ((nI 68) + r1) 279 ∧ ((((I3 49 (((nI 68) + r1)).toNatClampNeg) * ((((I1 49 (((nI 13) + x1)).toNatClampNeg) - (I2 49 (((nI 46) + r2)).toNatClampNeg)) * (I3 55 ((x0 - x0 / (nI 16) * (nI 16))).toNatClampNeg)) + (((I2 49 (((nI 24) + x1)).toNatClampNeg) - (I3 49 (((nI 51) + r3)).toNatClampNeg)) * (I3 56 ((x0 - x0 / (nI 16) * (nI 16))).toNatClampNeg)))) < ((nI 10) * (-(((I3 55 ((x0 - x0 / (nI 16) * (nI 16))).toNatClampNeg) * ((I2 49 (((nI 24) + x1)).toNatClampNeg) - (I3 49 (((nI 51) + r3)).toNatClampNeg))) - ((I3 56 ((x0 - x0 / (nI 16) * (nI 16))).toNatClampNeg) * ((I1 49 (((nI 13) + x1)).toNatClampNeg) - (I2 49 (((nI 46) + r2)).toNatClampNeg)))))) → Q (some (.int (nI 0))) ((fl, n1, n2, p, q, ad), I3, J3)) ∧ (¬ ((I3 49 (((nI 68) + r1)).toNatClampNeg) * ((((I1 49 (((nI 13) + x1)).toNatClampNeg) - (I2 49 (((nI 46) + r2)).toNatClampNeg)) * (I3 55 ((x0 - x0 / (nI 16) * (nI 16))).toNatClampNeg)) + (((I2 49 (((nI 24) + x1)).toNatClampNeg) - (I3 49 (((nI 51) + r3)).toNatClampNeg)) * (I3 56 ((x0 - x0 / (nI 16) * (nI 16))).toNatClampNeg)))) < ((nI 10) * (-(((I3 55 ((x0 - x0 / (nI 16) * (nI 16))).toNatClampNeg) * ((I2 49 (((nI 24) + x1)).toNatClampNeg) - (I3 49 (((nI 51) + r3)).toNatClampNeg))) - ((I3 56 ((x0 - x0 / (nI 16) * (nI 16))).toNatClampNeg) * ((I1 49 (((nI 13) + x1)).toNatClampNeg) - (I2 49 (((nI 46) + r2)).toNatClampNeg)))))) → (vp_in ((nI 64) + r1) 279 ∧ (vp_in ((nI 64) + r1) 279 ∧ ((((I3 49 (((nI 64) + r1)).toNatClampNeg) * (I3 49 (((nI 64) + r1)).toNatClampNeg)) < (((((I1 49 (((nI 13) + x1)).toNatClampNeg) - (I2 49 (((nI 46) + r2)).toNatClampNeg)) * ((I1 49 (((nI 13) + x1)).toNatClampNeg) - (I2 49 (((nI 46) + r2)).toNatClampNeg))) + (((I2 49 (((nI 24) + x1)).toNatClampNeg) - (I3 49 (((nI 51) + r3)).toNatClampNeg)) * ((I2 49 (((nI 24) + x1)).toNatClampNeg) - (I3 49 (((nI 51) + r3)).toNatClampNeg)))) * (nI 4)) → Q (some (.int (nI 0))) ((fl, n1, n2, p, q, ad), I3, J3)) ∧ (¬ ((I3 49 (((nI 64) + r1)).toNatClampNeg) * (I3 49 (((nI 64) + r1)).toNatClampNeg)) < (((((I1 49 (((nI 13) + x1)).toNatClampNeg) - (I2 49 (((nI 46) + r2)).toNatClampNeg)) * ((I1 49 (((nI 13) + x1)).toNatClampNeg) - (I2 49 (((nI 46) + r2)).toNatClampNeg))) + (((I2 49 (((nI 24) + x1)).toNatClampNeg) - (I3 49 (((nI 51) + r3)).toNatClampNeg)) * ((I2 49 (((nI 24) + x1)).toNatClampNeg) - (I3 49 (((nI 51) + r3)).toNatClampNeg)))) * (nI 4)) → Q (some (.int (nI 1))) ((fl, n1, n2, p, q, ad), I3, J3)))))))))))))))))))) ∧ (((I2 49 (((nI 24) + x1)).toNatClampNeg) - (I3 49 (((nI 51) + r3)).toNatClampNeg)) = (nI 0) → Q (some (.int (nI 1))) ((fl, n1, n2, p, q, ad), I3, J3))))))))))))) : mm_wc (d + 1) 209 [.ref 46, .int x0, .int x1] ((fl, n1, n2, p, q, ad), I, J) Q := by
  refine mm_call (c := 209) rfl rfl ?_
  refine mm_go [] 80 ?_
  show mm_wc d 207 [.ref 46, .int x0] ((fl, 0, 0, p, q, ad), I, J) _
  refine mm_wcm h ?_
  rintro v τ ⟨r1, I1, J1, rfl, rfl, h1⟩
  refine mm_r1' ⟨rfl, ?_⟩
  show mm_b _ _ _ _ _ [some (.ref 46), some (.int x0), some (.int x1), none, none, none, none, none, none] [.int r1] ((fl, n1, n2, p, q, ad), I1, J1)
  show vp_in ((nI 13) + x1) 279 ∧ _
  refine ⟨h1.1, ?_⟩
  show mm_b _ _ _ _ _ [some (.ref 46), some (.int x0), some (.int x1), some (.int r1), none, none, none, none, none] [.int (I1 49 (((nI 13) + x1)).toNatClampNeg)] ((fl, n1, n2, p, q, ad), I1, J1)
  show mm_wc d 208 [.ref 46, .int x0] ((fl, 0, 0, p, q, ad), I1, J1) _
  refine mm_wcm (h1.2) ?_
  rintro v τ ⟨r2, I2, J2, rfl, rfl, h2⟩
  refine mm_r1' ⟨rfl, ?_⟩
  show mm_b _ _ _ _ _ [some (.ref 46), some (.int x0), some (.int x1), some (.int r1), none, none, none, none, none] [.int r2, .int (nI 46), .ref 49, .int (I1 49 (((nI 13) + x1)).toNatClampNeg)] ((fl, n1, n2, p, q, ad), I2, J2)
  show vp_in ((nI 46) + r2) 279 ∧ _
  refine ⟨h2.1, ?_⟩
  show mm_b _ _ _ _ _ [some (.ref 46), some (.int x0), some (.int x1), some (.int r1), none, none, none, none, none] [.int (I2 49 (((nI 46) + r2)).toNatClampNeg), .int (I1 49 (((nI 13) + x1)).toNatClampNeg)] ((fl, n1, n2, p, q, ad), I2, J2)
  show vp_in ((nI 24) + x1) 279 ∧ _
  refine ⟨h2.2.1, ?_⟩
  show mm_b _ _ _ _ _ [some (.ref 46), some (.int x0), some (.int x1), some (.int r1), some (.int ((I1 49 (((nI 13) + x1)).toNatClampNeg) - (I2 49 (((nI 46) + r2)).toNatClampNeg))), none, none, none, none] [.int (I2 49 (((nI 24) + x1)).toNatClampNeg)] ((fl, n1, n2, p, q, ad), I2, J2)
  show mm_wc d 208 [.ref 46, .int x0] ((fl, 0, 0, p, q, ad), I2, J2) _
  refine mm_wcm (h2.2.2) ?_
  rintro v τ ⟨r3, I3, J3, rfl, rfl, h3⟩
  refine mm_r1' ⟨rfl, ?_⟩
  show mm_b _ _ _ _ _ [some (.ref 46), some (.int x0), some (.int x1), some (.int r1), some (.int ((I1 49 (((nI 13) + x1)).toNatClampNeg) - (I2 49 (((nI 46) + r2)).toNatClampNeg))), none, none, none, none] [.int r3, .int (nI 51), .ref 49, .int (I2 49 (((nI 24) + x1)).toNatClampNeg)] ((fl, n1, n2, p, q, ad), I3, J3)
  show vp_in ((nI 51) + r3) 279 ∧ _
  refine ⟨h3.1, ?_⟩
  show mm_b _ _ _ _ _ [some (.ref 46), some (.int x0), some (.int x1), some (.int r1), some (.int ((I1 49 (((nI 13) + x1)).toNatClampNeg) - (I2 49 (((nI 46) + r2)).toNatClampNeg))), none, none, none, none] [.int (I3 49 (((nI 51) + r3)).toNatClampNeg), .int (I2 49 (((nI 24) + x1)).toNatClampNeg)] ((fl, n1, n2, p, q, ad), I3, J3)
  show (¬ ((I1 49 (((nI 13) + x1)).toNatClampNeg) - (I2 49 (((nI 46) + r2)).toNatClampNeg)) = (nI 0) → _) ∧ (((I1 49 (((nI 13) + x1)).toNatClampNeg) - (I2 49 (((nI 46) + r2)).toNatClampNeg)) = (nI 0) → _)
  refine ⟨fun c0 => ?_, fun c0 => ?_⟩
  · show mm_u _ _ _ _ _ _ [some (.ref 46), some (.int x0), some (.int x1), some (.int r1), some (.int ((I1 49 (((nI 13) + x1)).toNatClampNeg) - (I2 49 (((nI 46) + r2)).toNatClampNeg))), some (.int ((I2 49 (((nI 24) + x1)).toNatClampNeg) - (I3 49 (((nI 51) + r3)).toNatClampNeg))), none, none, none] [] ((fl, n1, n2, p, q, ad), I3, J3)
    show (¬ ((nI 16) : Int32) = 0) ∧ _
    refine ⟨(by decide), ?_⟩
    show mm_b _ _ _ _ _ [some (.ref 46), some (.int x0), some (.int x1), some (.int r1), some (.int ((I1 49 (((nI 13) + x1)).toNatClampNeg) - (I2 49 (((nI 46) + r2)).toNatClampNeg))), some (.int ((I2 49 (((nI 24) + x1)).toNatClampNeg) - (I3 49 (((nI 51) + r3)).toNatClampNeg))), none, none, none] [.int (x0 - x0 / (nI 16) * (nI 16)), .ref 55, .int ((I1 49 (((nI 13) + x1)).toNatClampNeg) - (I2 49 (((nI 46) + r2)).toNatClampNeg))] ((fl, n1, n2, p, q, ad), I3, J3)
    show vp_in (x0 - x0 / (nI 16) * (nI 16)) 16 ∧ _
    refine ⟨(h3.2.1 c0).1, ?_⟩
    show mm_b _ _ _ _ _ [some (.ref 46), some (.int x0), some (.int x1), some (.int r1), some (.int ((I1 49 (((nI 13) + x1)).toNatClampNeg) - (I2 49 (((nI 46) + r2)).toNatClampNeg))), some (.int ((I2 49 (((nI 24) + x1)).toNatClampNeg) - (I3 49 (((nI 51) + r3)).toNatClampNeg))), none, none, none] [.int (I3 55 ((x0 - x0 / (nI 16) * (nI 16))).toNatClampNeg), .int ((I1 49 (((nI 13) + x1)).toNatClampNeg) - (I2 49 (((nI 46) + r2)).toNatClampNeg))] ((fl, n1, n2, p, q, ad), I3, J3)
    show (¬ ((nI 16) : Int32) = 0) ∧ _
    refine ⟨(by decide), ?_⟩
    show mm_b _ _ _ _ _ [some (.ref 46), some (.int x0), some (.int x1), some (.int r1), some (.int ((I1 49 (((nI 13) + x1)).toNatClampNeg) - (I2 49 (((nI 46) + r2)).toNatClampNeg))), some (.int ((I2 49 (((nI 24) + x1)).toNatClampNeg) - (I3 49 (((nI 51) + r3)).toNatClampNeg))), none, none, none] [.int (x0 - x0 / (nI 16) * (nI 16)), .ref 56, .int ((I2 49 (((nI 24) + x1)).toNatClampNeg) - (I3 49 (((nI 51) + r3)).toNatClampNeg)), .int (((I1 49 (((nI 13) + x1)).toNatClampNeg) - (I2 49 (((nI 46) + r2)).toNatClampNeg)) * (I3 55 ((x0 - x0 / (nI 16) * (nI 16))).toNatClampNeg))] ((fl, n1, n2, p, q, ad), I3, J3)
    show vp_in (x0 - x0 / (nI 16) * (nI 16)) 16 ∧ _
    refine ⟨(h3.2.1 c0).2.1, ?_⟩
    show mm_b _ _ _ _ _ [some (.ref 46), some (.int x0), some (.int x1), some (.int r1), some (.int ((I1 49 (((nI 13) + x1)).toNatClampNeg) - (I2 49 (((nI 46) + r2)).toNatClampNeg))), some (.int ((I2 49 (((nI 24) + x1)).toNatClampNeg) - (I3 49 (((nI 51) + r3)).toNatClampNeg))), none, none, none] [.int (I3 56 ((x0 - x0 / (nI 16) * (nI 16))).toNatClampNeg), .int ((I2 49 (((nI 24) + x1)).toNatClampNeg) - (I3 49 (((nI 51) + r3)).toNatClampNeg)), .int (((I1 49 (((nI 13) + x1)).toNatClampNeg) - (I2 49 (((nI 46) + r2)).toNatClampNeg)) * (I3 55 ((x0 - x0 / (nI 16) * (nI 16))).toNatClampNeg))] ((fl, n1, n2, p, q, ad), I3, J3)
    show (¬ ((nI 16) : Int32) = 0) ∧ _
    refine ⟨(by decide), ?_⟩
    show mm_b _ _ _ _ _ [some (.ref 46), some (.int x0), some (.int x1), some (.int r1), some (.int ((I1 49 (((nI 13) + x1)).toNatClampNeg) - (I2 49 (((nI 46) + r2)).toNatClampNeg))), some (.int ((I2 49 (((nI 24) + x1)).toNatClampNeg) - (I3 49 (((nI 51) + r3)).toNatClampNeg))), some (.int ((((I1 49 (((nI 13) + x1)).toNatClampNeg) - (I2 49 (((nI 46) + r2)).toNatClampNeg)) * (I3 55 ((x0 - x0 / (nI 16) * (nI 16))).toNatClampNeg)) + (((I2 49 (((nI 24) + x1)).toNatClampNeg) - (I3 49 (((nI 51) + r3)).toNatClampNeg)) * (I3 56 ((x0 - x0 / (nI 16) * (nI 16))).toNatClampNeg)))), none, none] [.int (x0 - x0 / (nI 16) * (nI 16)), .ref 55] ((fl, n1, n2, p, q, ad), I3, J3)
    show vp_in (x0 - x0 / (nI 16) * (nI 16)) 16 ∧ _
    refine ⟨(h3.2.1 c0).2.2.1, ?_⟩
    show mm_b _ _ _ _ _ [some (.ref 46), some (.int x0), some (.int x1), some (.int r1), some (.int ((I1 49 (((nI 13) + x1)).toNatClampNeg) - (I2 49 (((nI 46) + r2)).toNatClampNeg))), some (.int ((I2 49 (((nI 24) + x1)).toNatClampNeg) - (I3 49 (((nI 51) + r3)).toNatClampNeg))), some (.int ((((I1 49 (((nI 13) + x1)).toNatClampNeg) - (I2 49 (((nI 46) + r2)).toNatClampNeg)) * (I3 55 ((x0 - x0 / (nI 16) * (nI 16))).toNatClampNeg)) + (((I2 49 (((nI 24) + x1)).toNatClampNeg) - (I3 49 (((nI 51) + r3)).toNatClampNeg)) * (I3 56 ((x0 - x0 / (nI 16) * (nI 16))).toNatClampNeg)))), none, none] [.int (I3 55 ((x0 - x0 / (nI 16) * (nI 16))).toNatClampNeg)] ((fl, n1, n2, p, q, ad), I3, J3)
    show (¬ ((nI 16) : Int32) = 0) ∧ _
    refine ⟨(by decide), ?_⟩
    show mm_b _ _ _ _ _ [some (.ref 46), some (.int x0), some (.int x1), some (.int r1), some (.int ((I1 49 (((nI 13) + x1)).toNatClampNeg) - (I2 49 (((nI 46) + r2)).toNatClampNeg))), some (.int ((I2 49 (((nI 24) + x1)).toNatClampNeg) - (I3 49 (((nI 51) + r3)).toNatClampNeg))), some (.int ((((I1 49 (((nI 13) + x1)).toNatClampNeg) - (I2 49 (((nI 46) + r2)).toNatClampNeg)) * (I3 55 ((x0 - x0 / (nI 16) * (nI 16))).toNatClampNeg)) + (((I2 49 (((nI 24) + x1)).toNatClampNeg) - (I3 49 (((nI 51) + r3)).toNatClampNeg)) * (I3 56 ((x0 - x0 / (nI 16) * (nI 16))).toNatClampNeg)))), none, none] [.int (x0 - x0 / (nI 16) * (nI 16)), .ref 56, .int ((I3 55 ((x0 - x0 / (nI 16) * (nI 16))).toNatClampNeg) * ((I2 49 (((nI 24) + x1)).toNatClampNeg) - (I3 49 (((nI 51) + r3)).toNatClampNeg)))] ((fl, n1, n2, p, q, ad), I3, J3)
    show vp_in (x0 - x0 / (nI 16) * (nI 16)) 16 ∧ _
    refine ⟨(h3.2.1 c0).2.2.2.1, ?_⟩
    show mm_b _ _ _ _ _ [some (.ref 46), some (.int x0), some (.int x1), some (.int r1), some (.int ((I1 49 (((nI 13) + x1)).toNatClampNeg) - (I2 49 (((nI 46) + r2)).toNatClampNeg))), some (.int ((I2 49 (((nI 24) + x1)).toNatClampNeg) - (I3 49 (((nI 51) + r3)).toNatClampNeg))), some (.int ((((I1 49 (((nI 13) + x1)).toNatClampNeg) - (I2 49 (((nI 46) + r2)).toNatClampNeg)) * (I3 55 ((x0 - x0 / (nI 16) * (nI 16))).toNatClampNeg)) + (((I2 49 (((nI 24) + x1)).toNatClampNeg) - (I3 49 (((nI 51) + r3)).toNatClampNeg)) * (I3 56 ((x0 - x0 / (nI 16) * (nI 16))).toNatClampNeg)))), none, none] [.int (I3 56 ((x0 - x0 / (nI 16) * (nI 16))).toNatClampNeg), .int ((I3 55 ((x0 - x0 / (nI 16) * (nI 16))).toNatClampNeg) * ((I2 49 (((nI 24) + x1)).toNatClampNeg) - (I3 49 (((nI 51) + r3)).toNatClampNeg)))] ((fl, n1, n2, p, q, ad), I3, J3)
    show vp_in ((nI 35) + x1) 279 ∧ _
    refine ⟨(h3.2.1 c0).2.2.2.2.1, ?_⟩
    show mm_b _ _ _ _ _ [some (.ref 46), some (.int x0), some (.int x1), some (.int r1), some (.int ((I1 49 (((nI 13) + x1)).toNatClampNeg) - (I2 49 (((nI 46) + r2)).toNatClampNeg))), some (.int ((I2 49 (((nI 24) + x1)).toNatClampNeg) - (I3 49 (((nI 51) + r3)).toNatClampNeg))), some (.int ((((I1 49 (((nI 13) + x1)).toNatClampNeg) - (I2 49 (((nI 46) + r2)).toNatClampNeg)) * (I3 55 ((x0 - x0 / (nI 16) * (nI 16))).toNatClampNeg)) + (((I2 49 (((nI 24) + x1)).toNatClampNeg) - (I3 49 (((nI 51) + r3)).toNatClampNeg)) * (I3 56 ((x0 - x0 / (nI 16) * (nI 16))).toNatClampNeg)))), some (.int (((I3 55 ((x0 - x0 / (nI 16) * (nI 16))).toNatClampNeg) * ((I2 49 (((nI 24) + x1)).toNatClampNeg) - (I3 49 (((nI 51) + r3)).toNatClampNeg))) - ((I3 56 ((x0 - x0 / (nI 16) * (nI 16))).toNatClampNeg) * ((I1 49 (((nI 13) + x1)).toNatClampNeg) - (I2 49 (((nI 46) + r2)).toNatClampNeg))))), none] [.int (I3 49 (((nI 35) + x1)).toNatClampNeg), .int ((((I1 49 (((nI 13) + x1)).toNatClampNeg) - (I2 49 (((nI 46) + r2)).toNatClampNeg)) * ((I1 49 (((nI 13) + x1)).toNatClampNeg) - (I2 49 (((nI 46) + r2)).toNatClampNeg))) + (((I2 49 (((nI 24) + x1)).toNatClampNeg) - (I3 49 (((nI 51) + r3)).toNatClampNeg)) * ((I2 49 (((nI 24) + x1)).toNatClampNeg) - (I3 49 (((nI 51) + r3)).toNatClampNeg))))] ((fl, n1, n2, p, q, ad), I3, J3)
    show (¬ (I3 49 (((nI 35) + x1)).toNatClampNeg) = (nI 1) → _) ∧ ((I3 49 (((nI 35) + x1)).toNatClampNeg) = (nI 1) → _)
    refine ⟨fun c1 => ?_, fun c1 => ?_⟩
    · show mm_u _ _ _ _ _ _ [some (.ref 46), some (.int x0), some (.int x1), some (.int r1), some (.int ((I1 49 (((nI 13) + x1)).toNatClampNeg) - (I2 49 (((nI 46) + r2)).toNatClampNeg))), some (.int ((I2 49 (((nI 24) + x1)).toNatClampNeg) - (I3 49 (((nI 51) + r3)).toNatClampNeg))), some (.int ((((I1 49 (((nI 13) + x1)).toNatClampNeg) - (I2 49 (((nI 46) + r2)).toNatClampNeg)) * (I3 55 ((x0 - x0 / (nI 16) * (nI 16))).toNatClampNeg)) + (((I2 49 (((nI 24) + x1)).toNatClampNeg) - (I3 49 (((nI 51) + r3)).toNatClampNeg)) * (I3 56 ((x0 - x0 / (nI 16) * (nI 16))).toNatClampNeg)))), some (.int (((I3 55 ((x0 - x0 / (nI 16) * (nI 16))).toNatClampNeg) * ((I2 49 (((nI 24) + x1)).toNatClampNeg) - (I3 49 (((nI 51) + r3)).toNatClampNeg))) - ((I3 56 ((x0 - x0 / (nI 16) * (nI 16))).toNatClampNeg) * ((I1 49 (((nI 13) + x1)).toNatClampNeg) - (I2 49 (((nI 46) + r2)).toNatClampNeg))))), none] [.int ((((I1 49 (((nI 13) + x1)).toNatClampNeg) - (I2 49 (((nI 46) + r2)).toNatClampNeg)) * ((I1 49 (((nI 13) + x1)).toNatClampNeg) - (I2 49 (((nI 46) + r2)).toNatClampNeg))) + (((I2 49 (((nI 24) + x1)).toNatClampNeg) - (I3 49 (((nI 51) + r3)).toNatClampNeg)) * ((I2 49 (((nI 24) + x1)).toNatClampNeg) - (I3 49 (((nI 51) + r3)).toNatClampNeg))))] ((fl, n1, n2, p, q, ad), I3, J3)
      show (((((I1 49 (((nI 13) + x1)).toNatClampNeg) - (I2 49 (((nI 46) + r2)).toNatClampNeg)) * (I3 55 ((x0 - x0 / (nI 16) * (nI 16))).toNatClampNeg)) + (((I2 49 (((nI 24) + x1)).toNatClampNeg) - (I3 49 (((nI 51) + r3)).toNatClampNeg)) * (I3 56 ((x0 - x0 / (nI 16) * (nI 16))).toNatClampNeg))) ≤ (nI 0) → _) ∧ (¬ ((((I1 49 (((nI 13) + x1)).toNatClampNeg) - (I2 49 (((nI 46) + r2)).toNatClampNeg)) * (I3 55 ((x0 - x0 / (nI 16) * (nI 16))).toNatClampNeg)) + (((I2 49 (((nI 24) + x1)).toNatClampNeg) - (I3 49 (((nI 51) + r3)).toNatClampNeg)) * (I3 56 ((x0 - x0 / (nI 16) * (nI 16))).toNatClampNeg))) ≤ (nI 0) → _)
      refine ⟨fun c2 => ?_, fun c2 => ?_⟩
      · show mm_u _ _ _ _ _ _ [some (.ref 46), none, none, some (.int r1), none, none, some (.int ((((I1 49 (((nI 13) + x1)).toNatClampNeg) - (I2 49 (((nI 46) + r2)).toNatClampNeg)) * (I3 55 ((x0 - x0 / (nI 16) * (nI 16))).toNatClampNeg)) + (((I2 49 (((nI 24) + x1)).toNatClampNeg) - (I3 49 (((nI 51) + r3)).toNatClampNeg)) * (I3 56 ((x0 - x0 / (nI 16) * (nI 16))).toNatClampNeg)))), some (.int (((I3 55 ((x0 - x0 / (nI 16) * (nI 16))).toNatClampNeg) * ((I2 49 (((nI 24) + x1)).toNatClampNeg) - (I3 49 (((nI 51) + r3)).toNatClampNeg))) - ((I3 56 ((x0 - x0 / (nI 16) * (nI 16))).toNatClampNeg) * ((I1 49 (((nI 13) + x1)).toNatClampNeg) - (I2 49 (((nI 46) + r2)).toNatClampNeg))))), some (.int (((((I1 49 (((nI 13) + x1)).toNatClampNeg) - (I2 49 (((nI 46) + r2)).toNatClampNeg)) * ((I1 49 (((nI 13) + x1)).toNatClampNeg) - (I2 49 (((nI 46) + r2)).toNatClampNeg))) + (((I2 49 (((nI 24) + x1)).toNatClampNeg) - (I3 49 (((nI 51) + r3)).toNatClampNeg)) * ((I2 49 (((nI 24) + x1)).toNatClampNeg) - (I3 49 (((nI 51) + r3)).toNatClampNeg)))) * (nI 1)))] [] ((fl, n1, n2, p, q, ad), I3, J3)
        show (((nI 0) : Int32) = 0 ∨ ((nI 0) : Int32) = 1) ∧ _
        refine ⟨(by decide), ?_⟩
        exact (((h3.2.1 c0).2.2.2.2.2.1 c1).1 c2)
      · show mm_b _ _ _ _ _ [some (.ref 46), none, none, some (.int r1), none, none, some (.int ((((I1 49 (((nI 13) + x1)).toNatClampNeg) - (I2 49 (((nI 46) + r2)).toNatClampNeg)) * (I3 55 ((x0 - x0 / (nI 16) * (nI 16))).toNatClampNeg)) + (((I2 49 (((nI 24) + x1)).toNatClampNeg) - (I3 49 (((nI 51) + r3)).toNatClampNeg)) * (I3 56 ((x0 - x0 / (nI 16) * (nI 16))).toNatClampNeg)))), some (.int (((I3 55 ((x0 - x0 / (nI 16) * (nI 16))).toNatClampNeg) * ((I2 49 (((nI 24) + x1)).toNatClampNeg) - (I3 49 (((nI 51) + r3)).toNatClampNeg))) - ((I3 56 ((x0 - x0 / (nI 16) * (nI 16))).toNatClampNeg) * ((I1 49 (((nI 13) + x1)).toNatClampNeg) - (I2 49 (((nI 46) + r2)).toNatClampNeg))))), some (.int (((((I1 49 (((nI 13) + x1)).toNatClampNeg) - (I2 49 (((nI 46) + r2)).toNatClampNeg)) * ((I1 49 (((nI 13) + x1)).toNatClampNeg) - (I2 49 (((nI 46) + r2)).toNatClampNeg))) + (((I2 49 (((nI 24) + x1)).toNatClampNeg) - (I3 49 (((nI 51) + r3)).toNatClampNeg)) * ((I2 49 (((nI 24) + x1)).toNatClampNeg) - (I3 49 (((nI 51) + r3)).toNatClampNeg)))) * (nI 1)))] [] ((fl, n1, n2, p, q, ad), I3, J3)
        show ((nI 0) ≤ (((I3 55 ((x0 - x0 / (nI 16) * (nI 16))).toNatClampNeg) * ((I2 49 (((nI 24) + x1)).toNatClampNeg) - (I3 49 (((nI 51) + r3)).toNatClampNeg))) - ((I3 56 ((x0 - x0 / (nI 16) * (nI 16))).toNatClampNeg) * ((I1 49 (((nI 13) + x1)).toNatClampNeg) - (I2 49 (((nI 46) + r2)).toNatClampNeg)))) → _) ∧ (¬ (nI 0) ≤ (((I3 55 ((x0 - x0 / (nI 16) * (nI 16))).toNatClampNeg) * ((I2 49 (((nI 24) + x1)).toNatClampNeg) - (I3 49 (((nI 51) + r3)).toNatClampNeg))) - ((I3 56 ((x0 - x0 / (nI 16) * (nI 16))).toNatClampNeg) * ((I1 49 (((nI 13) + x1)).toNatClampNeg) - (I2 49 (((nI 46) + r2)).toNatClampNeg)))) → _)
        refine ⟨fun c3 => ?_, fun c3 => ?_⟩
        · show mm_u _ _ _ _ _ _ [some (.ref 46), none, none, some (.int r1), none, none, some (.int ((((I1 49 (((nI 13) + x1)).toNatClampNeg) - (I2 49 (((nI 46) + r2)).toNatClampNeg)) * (I3 55 ((x0 - x0 / (nI 16) * (nI 16))).toNatClampNeg)) + (((I2 49 (((nI 24) + x1)).toNatClampNeg) - (I3 49 (((nI 51) + r3)).toNatClampNeg)) * (I3 56 ((x0 - x0 / (nI 16) * (nI 16))).toNatClampNeg)))), some (.int (((I3 55 ((x0 - x0 / (nI 16) * (nI 16))).toNatClampNeg) * ((I2 49 (((nI 24) + x1)).toNatClampNeg) - (I3 49 (((nI 51) + r3)).toNatClampNeg))) - ((I3 56 ((x0 - x0 / (nI 16) * (nI 16))).toNatClampNeg) * ((I1 49 (((nI 13) + x1)).toNatClampNeg) - (I2 49 (((nI 46) + r2)).toNatClampNeg))))), some (.int (((((I1 49 (((nI 13) + x1)).toNatClampNeg) - (I2 49 (((nI 46) + r2)).toNatClampNeg)) * ((I1 49 (((nI 13) + x1)).toNatClampNeg) - (I2 49 (((nI 46) + r2)).toNatClampNeg))) + (((I2 49 (((nI 24) + x1)).toNatClampNeg) - (I3 49 (((nI 51) + r3)).toNatClampNeg)) * ((I2 49 (((nI 24) + x1)).toNatClampNeg) - (I3 49 (((nI 51) + r3)).toNatClampNeg)))) * (nI 1)))] [.int (nI 10)] ((fl, n1, n2, p, q, ad), I3, J3)
          show vp_in ((nI 68) + r1) 279 ∧ _
          refine ⟨((((h3.2.1 c0).2.2.2.2.2.1 c1).2 c2).1 c3).1, ?_⟩
          show mm_b _ _ _ _ _ [some (.ref 46), none, none, some (.int r1), none, none, some (.int ((((I1 49 (((nI 13) + x1)).toNatClampNeg) - (I2 49 (((nI 46) + r2)).toNatClampNeg)) * (I3 55 ((x0 - x0 / (nI 16) * (nI 16))).toNatClampNeg)) + (((I2 49 (((nI 24) + x1)).toNatClampNeg) - (I3 49 (((nI 51) + r3)).toNatClampNeg)) * (I3 56 ((x0 - x0 / (nI 16) * (nI 16))).toNatClampNeg)))), none, some (.int (((((I1 49 (((nI 13) + x1)).toNatClampNeg) - (I2 49 (((nI 46) + r2)).toNatClampNeg)) * ((I1 49 (((nI 13) + x1)).toNatClampNeg) - (I2 49 (((nI 46) + r2)).toNatClampNeg))) + (((I2 49 (((nI 24) + x1)).toNatClampNeg) - (I3 49 (((nI 51) + r3)).toNatClampNeg)) * ((I2 49 (((nI 24) + x1)).toNatClampNeg) - (I3 49 (((nI 51) + r3)).toNatClampNeg)))) * (nI 1)))] [.int (I3 49 (((nI 68) + r1)).toNatClampNeg), .int ((nI 10) * (((I3 55 ((x0 - x0 / (nI 16) * (nI 16))).toNatClampNeg) * ((I2 49 (((nI 24) + x1)).toNatClampNeg) - (I3 49 (((nI 51) + r3)).toNatClampNeg))) - ((I3 56 ((x0 - x0 / (nI 16) * (nI 16))).toNatClampNeg) * ((I1 49 (((nI 13) + x1)).toNatClampNeg) - (I2 49 (((nI 46) + r2)).toNatClampNeg)))))] ((fl, n1, n2, p, q, ad), I3, J3)
          show (((I3 49 (((nI 68) + r1)).toNatClampNeg) * ((((I1 49 (((nI 13) + x1)).toNatClampNeg) - (I2 49 (((nI 46) + r2)).toNatClampNeg)) * (I3 55 ((x0 - x0 / (nI 16) * (nI 16))).toNatClampNeg)) + (((I2 49 (((nI 24) + x1)).toNatClampNeg) - (I3 49 (((nI 51) + r3)).toNatClampNeg)) * (I3 56 ((x0 - x0 / (nI 16) * (nI 16))).toNatClampNeg)))) < ((nI 10) * (((I3 55 ((x0 - x0 / (nI 16) * (nI 16))).toNatClampNeg) * ((I2 49 (((nI 24) + x1)).toNatClampNeg) - (I3 49 (((nI 51) + r3)).toNatClampNeg))) - ((I3 56 ((x0 - x0 / (nI 16) * (nI 16))).toNatClampNeg) * ((I1 49 (((nI 13) + x1)).toNatClampNeg) - (I2 49 (((nI 46) + r2)).toNatClampNeg))))) → _) ∧ (¬ ((I3 49 (((nI 68) + r1)).toNatClampNeg) * ((((I1 49 (((nI 13) + x1)).toNatClampNeg) - (I2 49 (((nI 46) + r2)).toNatClampNeg)) * (I3 55 ((x0 - x0 / (nI 16) * (nI 16))).toNatClampNeg)) + (((I2 49 (((nI 24) + x1)).toNatClampNeg) - (I3 49 (((nI 51) + r3)).toNatClampNeg)) * (I3 56 ((x0 - x0 / (nI 16) * (nI 16))).toNatClampNeg)))) < ((nI 10) * (((I3 55 ((x0 - x0 / (nI 16) * (nI 16))).toNatClampNeg) * ((I2 49 (((nI 24) + x1)).toNatClampNeg) - (I3 49 (((nI 51) + r3)).toNatClampNeg))) - ((I3 56 ((x0 - x0 / (nI 16) * (nI 16))).toNatClampNeg) * ((I1 49 (((nI 13) + x1)).toNatClampNeg) - (I2 49 (((nI 46) + r2)).toNatClampNeg))))) → _)
          refine ⟨fun c4 => ?_, fun c4 => ?_⟩
          · show mm_u _ _ _ _ _ _ [some (.ref 46), none, none, some (.int r1), none, none, some (.int ((((I1 49 (((nI 13) + x1)).toNatClampNeg) - (I2 49 (((nI 46) + r2)).toNatClampNeg)) * (I3 55 ((x0 - x0 / (nI 16) * (nI 16))).toNatClampNeg)) + (((I2 49 (((nI 24) + x1)).toNatClampNeg) - (I3 49 (((nI 51) + r3)).toNatClampNeg)) * (I3 56 ((x0 - x0 / (nI 16) * (nI 16))).toNatClampNeg)))), none, some (.int (((((I1 49 (((nI 13) + x1)).toNatClampNeg) - (I2 49 (((nI 46) + r2)).toNatClampNeg)) * ((I1 49 (((nI 13) + x1)).toNatClampNeg) - (I2 49 (((nI 46) + r2)).toNatClampNeg))) + (((I2 49 (((nI 24) + x1)).toNatClampNeg) - (I3 49 (((nI 51) + r3)).toNatClampNeg)) * ((I2 49 (((nI 24) + x1)).toNatClampNeg) - (I3 49 (((nI 51) + r3)).toNatClampNeg)))) * (nI 1)))] [] ((fl, n1, n2, p, q, ad), I3, J3)
            show (((nI 0) : Int32) = 0 ∨ ((nI 0) : Int32) = 1) ∧ _
            refine ⟨(by decide), ?_⟩
            exact (((((h3.2.1 c0).2.2.2.2.2.1 c1).2 c2).1 c3).2.1 c4)
          · show mm_b _ _ _ _ _ [some (.ref 46), none, none, some (.int r1), none, none, some (.int ((((I1 49 (((nI 13) + x1)).toNatClampNeg) - (I2 49 (((nI 46) + r2)).toNatClampNeg)) * (I3 55 ((x0 - x0 / (nI 16) * (nI 16))).toNatClampNeg)) + (((I2 49 (((nI 24) + x1)).toNatClampNeg) - (I3 49 (((nI 51) + r3)).toNatClampNeg)) * (I3 56 ((x0 - x0 / (nI 16) * (nI 16))).toNatClampNeg)))), none, some (.int (((((I1 49 (((nI 13) + x1)).toNatClampNeg) - (I2 49 (((nI 46) + r2)).toNatClampNeg)) * ((I1 49 (((nI 13) + x1)).toNatClampNeg) - (I2 49 (((nI 46) + r2)).toNatClampNeg))) + (((I2 49 (((nI 24) + x1)).toNatClampNeg) - (I3 49 (((nI 51) + r3)).toNatClampNeg)) * ((I2 49 (((nI 24) + x1)).toNatClampNeg) - (I3 49 (((nI 51) + r3)).toNatClampNeg)))) * (nI 1)))] [] ((fl, n1, n2, p, q, ad), I3, J3)
            show vp_in ((nI 64) + r1) 279 ∧ _
            refine ⟨(((((h3.2.1 c0).2.2.2.2.2.1 c1).2 c2).1 c3).2.2 c4).1, ?_⟩
            show mm_b _ _ _ _ _ [some (.ref 46), none, none, some (.int r1), none, none, some (.int ((((I1 49 (((nI 13) + x1)).toNatClampNeg) - (I2 49 (((nI 46) + r2)).toNatClampNeg)) * (I3 55 ((x0 - x0 / (nI 16) * (nI 16))).toNatClampNeg)) + (((I2 49 (((nI 24) + x1)).toNatClampNeg) - (I3 49 (((nI 51) + r3)).toNatClampNeg)) * (I3 56 ((x0 - x0 / (nI 16) * (nI 16))).toNatClampNeg)))), none, some (.int (((((I1 49 (((nI 13) + x1)).toNatClampNeg) - (I2 49 (((nI 46) + r2)).toNatClampNeg)) * ((I1 49 (((nI 13) + x1)).toNatClampNeg) - (I2 49 (((nI 46) + r2)).toNatClampNeg))) + (((I2 49 (((nI 24) + x1)).toNatClampNeg) - (I3 49 (((nI 51) + r3)).toNatClampNeg)) * ((I2 49 (((nI 24) + x1)).toNatClampNeg) - (I3 49 (((nI 51) + r3)).toNatClampNeg)))) * (nI 1)))] [.int (I3 49 (((nI 64) + r1)).toNatClampNeg), .int (((((I1 49 (((nI 13) + x1)).toNatClampNeg) - (I2 49 (((nI 46) + r2)).toNatClampNeg)) * ((I1 49 (((nI 13) + x1)).toNatClampNeg) - (I2 49 (((nI 46) + r2)).toNatClampNeg))) + (((I2 49 (((nI 24) + x1)).toNatClampNeg) - (I3 49 (((nI 51) + r3)).toNatClampNeg)) * ((I2 49 (((nI 24) + x1)).toNatClampNeg) - (I3 49 (((nI 51) + r3)).toNatClampNeg)))) * (nI 1))] ((fl, n1, n2, p, q, ad), I3, J3)
            show vp_in ((nI 64) + r1) 279 ∧ _
            refine ⟨(((((h3.2.1 c0).2.2.2.2.2.1 c1).2 c2).1 c3).2.2 c4).2.1, ?_⟩
            show mm_b _ _ _ _ _ [some (.ref 46), none, none, some (.int r1), none, none, some (.int ((((I1 49 (((nI 13) + x1)).toNatClampNeg) - (I2 49 (((nI 46) + r2)).toNatClampNeg)) * (I3 55 ((x0 - x0 / (nI 16) * (nI 16))).toNatClampNeg)) + (((I2 49 (((nI 24) + x1)).toNatClampNeg) - (I3 49 (((nI 51) + r3)).toNatClampNeg)) * (I3 56 ((x0 - x0 / (nI 16) * (nI 16))).toNatClampNeg)))), none, some (.int (((((I1 49 (((nI 13) + x1)).toNatClampNeg) - (I2 49 (((nI 46) + r2)).toNatClampNeg)) * ((I1 49 (((nI 13) + x1)).toNatClampNeg) - (I2 49 (((nI 46) + r2)).toNatClampNeg))) + (((I2 49 (((nI 24) + x1)).toNatClampNeg) - (I3 49 (((nI 51) + r3)).toNatClampNeg)) * ((I2 49 (((nI 24) + x1)).toNatClampNeg) - (I3 49 (((nI 51) + r3)).toNatClampNeg)))) * (nI 1)))] [.int (I3 49 (((nI 64) + r1)).toNatClampNeg), .int (I3 49 (((nI 64) + r1)).toNatClampNeg), .int (((((I1 49 (((nI 13) + x1)).toNatClampNeg) - (I2 49 (((nI 46) + r2)).toNatClampNeg)) * ((I1 49 (((nI 13) + x1)).toNatClampNeg) - (I2 49 (((nI 46) + r2)).toNatClampNeg))) + (((I2 49 (((nI 24) + x1)).toNatClampNeg) - (I3 49 (((nI 51) + r3)).toNatClampNeg)) * ((I2 49 (((nI 24) + x1)).toNatClampNeg) - (I3 49 (((nI 51) + r3)).toNatClampNeg)))) * (nI 1))] ((fl, n1, n2, p, q, ad), I3, J3)
            show (((I3 49 (((nI 64) + r1)).toNatClampNeg) * (I3 49 (((nI 64) + r1)).toNatClampNeg)) < (((((I1 49 (((nI 13) + x1)).toNatClampNeg) - (I2 49 (((nI 46) + r2)).toNatClampNeg)) * ((I1 49 (((nI 13) + x1)).toNatClampNeg) - (I2 49 (((nI 46) + r2)).toNatClampNeg))) + (((I2 49 (((nI 24) + x1)).toNatClampNeg) - (I3 49 (((nI 51) + r3)).toNatClampNeg)) * ((I2 49 (((nI 24) + x1)).toNatClampNeg) - (I3 49 (((nI 51) + r3)).toNatClampNeg)))) * (nI 1)) → _) ∧ (¬ ((I3 49 (((nI 64) + r1)).toNatClampNeg) * (I3 49 (((nI 64) + r1)).toNatClampNeg)) < (((((I1 49 (((nI 13) + x1)).toNatClampNeg) - (I2 49 (((nI 46) + r2)).toNatClampNeg)) * ((I1 49 (((nI 13) + x1)).toNatClampNeg) - (I2 49 (((nI 46) + r2)).toNatClampNeg))) + (((I2 49 (((nI 24) + x1)).toNatClampNeg) - (I3 49 (((nI 51) + r3)).toNatClampNeg)) * ((I2 49 (((nI 24) + x1)).toNatClampNeg) - (I3 49 (((nI 51) + r3)).toNatClampNeg)))) * (nI 1)) → _)
            refine ⟨fun c5 => ?_, fun c5 => ?_⟩
            · show mm_u _ _ _ _ _ _ [some (.ref 46), none, none, some (.int r1), none, none, some (.int ((((I1 49 (((nI 13) + x1)).toNatClampNeg) - (I2 49 (((nI 46) + r2)).toNatClampNeg)) * (I3 55 ((x0 - x0 / (nI 16) * (nI 16))).toNatClampNeg)) + (((I2 49 (((nI 24) + x1)).toNatClampNeg) - (I3 49 (((nI 51) + r3)).toNatClampNeg)) * (I3 56 ((x0 - x0 / (nI 16) * (nI 16))).toNatClampNeg)))), none, some (.int (((((I1 49 (((nI 13) + x1)).toNatClampNeg) - (I2 49 (((nI 46) + r2)).toNatClampNeg)) * ((I1 49 (((nI 13) + x1)).toNatClampNeg) - (I2 49 (((nI 46) + r2)).toNatClampNeg))) + (((I2 49 (((nI 24) + x1)).toNatClampNeg) - (I3 49 (((nI 51) + r3)).toNatClampNeg)) * ((I2 49 (((nI 24) + x1)).toNatClampNeg) - (I3 49 (((nI 51) + r3)).toNatClampNeg)))) * (nI 1)))] [] ((fl, n1, n2, p, q, ad), I3, J3)
              show (((nI 0) : Int32) = 0 ∨ ((nI 0) : Int32) = 1) ∧ _
              refine ⟨(by decide), ?_⟩
              exact ((((((h3.2.1 c0).2.2.2.2.2.1 c1).2 c2).1 c3).2.2 c4).2.2.1 c5)
            · show mm_b _ _ _ _ _ [some (.ref 46), none, none, some (.int r1), none, none, some (.int ((((I1 49 (((nI 13) + x1)).toNatClampNeg) - (I2 49 (((nI 46) + r2)).toNatClampNeg)) * (I3 55 ((x0 - x0 / (nI 16) * (nI 16))).toNatClampNeg)) + (((I2 49 (((nI 24) + x1)).toNatClampNeg) - (I3 49 (((nI 51) + r3)).toNatClampNeg)) * (I3 56 ((x0 - x0 / (nI 16) * (nI 16))).toNatClampNeg)))), none, some (.int (((((I1 49 (((nI 13) + x1)).toNatClampNeg) - (I2 49 (((nI 46) + r2)).toNatClampNeg)) * ((I1 49 (((nI 13) + x1)).toNatClampNeg) - (I2 49 (((nI 46) + r2)).toNatClampNeg))) + (((I2 49 (((nI 24) + x1)).toNatClampNeg) - (I3 49 (((nI 51) + r3)).toNatClampNeg)) * ((I2 49 (((nI 24) + x1)).toNatClampNeg) - (I3 49 (((nI 51) + r3)).toNatClampNeg)))) * (nI 1)))] [] ((fl, n1, n2, p, q, ad), I3, J3)
              show (((nI 1) : Int32) = 0 ∨ ((nI 1) : Int32) = 1) ∧ _
              refine ⟨(by decide), ?_⟩
              exact ((((((h3.2.1 c0).2.2.2.2.2.1 c1).2 c2).1 c3).2.2 c4).2.2.2 c5)
        · show mm_b _ _ _ _ _ [some (.ref 46), none, none, some (.int r1), none, none, some (.int ((((I1 49 (((nI 13) + x1)).toNatClampNeg) - (I2 49 (((nI 46) + r2)).toNatClampNeg)) * (I3 55 ((x0 - x0 / (nI 16) * (nI 16))).toNatClampNeg)) + (((I2 49 (((nI 24) + x1)).toNatClampNeg) - (I3 49 (((nI 51) + r3)).toNatClampNeg)) * (I3 56 ((x0 - x0 / (nI 16) * (nI 16))).toNatClampNeg)))), some (.int (((I3 55 ((x0 - x0 / (nI 16) * (nI 16))).toNatClampNeg) * ((I2 49 (((nI 24) + x1)).toNatClampNeg) - (I3 49 (((nI 51) + r3)).toNatClampNeg))) - ((I3 56 ((x0 - x0 / (nI 16) * (nI 16))).toNatClampNeg) * ((I1 49 (((nI 13) + x1)).toNatClampNeg) - (I2 49 (((nI 46) + r2)).toNatClampNeg))))), some (.int (((((I1 49 (((nI 13) + x1)).toNatClampNeg) - (I2 49 (((nI 46) + r2)).toNatClampNeg)) * ((I1 49 (((nI 13) + x1)).toNatClampNeg) - (I2 49 (((nI 46) + r2)).toNatClampNeg))) + (((I2 49 (((nI 24) + x1)).toNatClampNeg) - (I3 49 (((nI 51) + r3)).toNatClampNeg)) * ((I2 49 (((nI 24) + x1)).toNatClampNeg) - (I3 49 (((nI 51) + r3)).toNatClampNeg)))) * (nI 1)))] [.int (nI 10)] ((fl, n1, n2, p, q, ad), I3, J3)
          show vp_in ((nI 68) + r1) 279 ∧ _
          refine ⟨((((h3.2.1 c0).2.2.2.2.2.1 c1).2 c2).2 c3).1, ?_⟩
          show mm_b _ _ _ _ _ [some (.ref 46), none, none, some (.int r1), none, none, some (.int ((((I1 49 (((nI 13) + x1)).toNatClampNeg) - (I2 49 (((nI 46) + r2)).toNatClampNeg)) * (I3 55 ((x0 - x0 / (nI 16) * (nI 16))).toNatClampNeg)) + (((I2 49 (((nI 24) + x1)).toNatClampNeg) - (I3 49 (((nI 51) + r3)).toNatClampNeg)) * (I3 56 ((x0 - x0 / (nI 16) * (nI 16))).toNatClampNeg)))), none, some (.int (((((I1 49 (((nI 13) + x1)).toNatClampNeg) - (I2 49 (((nI 46) + r2)).toNatClampNeg)) * ((I1 49 (((nI 13) + x1)).toNatClampNeg) - (I2 49 (((nI 46) + r2)).toNatClampNeg))) + (((I2 49 (((nI 24) + x1)).toNatClampNeg) - (I3 49 (((nI 51) + r3)).toNatClampNeg)) * ((I2 49 (((nI 24) + x1)).toNatClampNeg) - (I3 49 (((nI 51) + r3)).toNatClampNeg)))) * (nI 1)))] [.int (I3 49 (((nI 68) + r1)).toNatClampNeg), .int ((nI 10) * (-(((I3 55 ((x0 - x0 / (nI 16) * (nI 16))).toNatClampNeg) * ((I2 49 (((nI 24) + x1)).toNatClampNeg) - (I3 49 (((nI 51) + r3)).toNatClampNeg))) - ((I3 56 ((x0 - x0 / (nI 16) * (nI 16))).toNatClampNeg) * ((I1 49 (((nI 13) + x1)).toNatClampNeg) - (I2 49 (((nI 46) + r2)).toNatClampNeg))))))] ((fl, n1, n2, p, q, ad), I3, J3)
          show (((I3 49 (((nI 68) + r1)).toNatClampNeg) * ((((I1 49 (((nI 13) + x1)).toNatClampNeg) - (I2 49 (((nI 46) + r2)).toNatClampNeg)) * (I3 55 ((x0 - x0 / (nI 16) * (nI 16))).toNatClampNeg)) + (((I2 49 (((nI 24) + x1)).toNatClampNeg) - (I3 49 (((nI 51) + r3)).toNatClampNeg)) * (I3 56 ((x0 - x0 / (nI 16) * (nI 16))).toNatClampNeg)))) < ((nI 10) * (-(((I3 55 ((x0 - x0 / (nI 16) * (nI 16))).toNatClampNeg) * ((I2 49 (((nI 24) + x1)).toNatClampNeg) - (I3 49 (((nI 51) + r3)).toNatClampNeg))) - ((I3 56 ((x0 - x0 / (nI 16) * (nI 16))).toNatClampNeg) * ((I1 49 (((nI 13) + x1)).toNatClampNeg) - (I2 49 (((nI 46) + r2)).toNatClampNeg)))))) → _) ∧ (¬ ((I3 49 (((nI 68) + r1)).toNatClampNeg) * ((((I1 49 (((nI 13) + x1)).toNatClampNeg) - (I2 49 (((nI 46) + r2)).toNatClampNeg)) * (I3 55 ((x0 - x0 / (nI 16) * (nI 16))).toNatClampNeg)) + (((I2 49 (((nI 24) + x1)).toNatClampNeg) - (I3 49 (((nI 51) + r3)).toNatClampNeg)) * (I3 56 ((x0 - x0 / (nI 16) * (nI 16))).toNatClampNeg)))) < ((nI 10) * (-(((I3 55 ((x0 - x0 / (nI 16) * (nI 16))).toNatClampNeg) * ((I2 49 (((nI 24) + x1)).toNatClampNeg) - (I3 49 (((nI 51) + r3)).toNatClampNeg))) - ((I3 56 ((x0 - x0 / (nI 16) * (nI 16))).toNatClampNeg) * ((I1 49 (((nI 13) + x1)).toNatClampNeg) - (I2 49 (((nI 46) + r2)).toNatClampNeg)))))) → _)
          refine ⟨fun c4 => ?_, fun c4 => ?_⟩
          · show mm_u _ _ _ _ _ _ [some (.ref 46), none, none, some (.int r1), none, none, some (.int ((((I1 49 (((nI 13) + x1)).toNatClampNeg) - (I2 49 (((nI 46) + r2)).toNatClampNeg)) * (I3 55 ((x0 - x0 / (nI 16) * (nI 16))).toNatClampNeg)) + (((I2 49 (((nI 24) + x1)).toNatClampNeg) - (I3 49 (((nI 51) + r3)).toNatClampNeg)) * (I3 56 ((x0 - x0 / (nI 16) * (nI 16))).toNatClampNeg)))), none, some (.int (((((I1 49 (((nI 13) + x1)).toNatClampNeg) - (I2 49 (((nI 46) + r2)).toNatClampNeg)) * ((I1 49 (((nI 13) + x1)).toNatClampNeg) - (I2 49 (((nI 46) + r2)).toNatClampNeg))) + (((I2 49 (((nI 24) + x1)).toNatClampNeg) - (I3 49 (((nI 51) + r3)).toNatClampNeg)) * ((I2 49 (((nI 24) + x1)).toNatClampNeg) - (I3 49 (((nI 51) + r3)).toNatClampNeg)))) * (nI 1)))] [] ((fl, n1, n2, p, q, ad), I3, J3)
            show (((nI 0) : Int32) = 0 ∨ ((nI 0) : Int32) = 1) ∧ _
            refine ⟨(by decide), ?_⟩
            exact (((((h3.2.1 c0).2.2.2.2.2.1 c1).2 c2).2 c3).2.1 c4)
          · show mm_b _ _ _ _ _ [some (.ref 46), none, none, some (.int r1), none, none, some (.int ((((I1 49 (((nI 13) + x1)).toNatClampNeg) - (I2 49 (((nI 46) + r2)).toNatClampNeg)) * (I3 55 ((x0 - x0 / (nI 16) * (nI 16))).toNatClampNeg)) + (((I2 49 (((nI 24) + x1)).toNatClampNeg) - (I3 49 (((nI 51) + r3)).toNatClampNeg)) * (I3 56 ((x0 - x0 / (nI 16) * (nI 16))).toNatClampNeg)))), none, some (.int (((((I1 49 (((nI 13) + x1)).toNatClampNeg) - (I2 49 (((nI 46) + r2)).toNatClampNeg)) * ((I1 49 (((nI 13) + x1)).toNatClampNeg) - (I2 49 (((nI 46) + r2)).toNatClampNeg))) + (((I2 49 (((nI 24) + x1)).toNatClampNeg) - (I3 49 (((nI 51) + r3)).toNatClampNeg)) * ((I2 49 (((nI 24) + x1)).toNatClampNeg) - (I3 49 (((nI 51) + r3)).toNatClampNeg)))) * (nI 1)))] [] ((fl, n1, n2, p, q, ad), I3, J3)
            show vp_in ((nI 64) + r1) 279 ∧ _
            refine ⟨(((((h3.2.1 c0).2.2.2.2.2.1 c1).2 c2).2 c3).2.2 c4).1, ?_⟩
            show mm_b _ _ _ _ _ [some (.ref 46), none, none, some (.int r1), none, none, some (.int ((((I1 49 (((nI 13) + x1)).toNatClampNeg) - (I2 49 (((nI 46) + r2)).toNatClampNeg)) * (I3 55 ((x0 - x0 / (nI 16) * (nI 16))).toNatClampNeg)) + (((I2 49 (((nI 24) + x1)).toNatClampNeg) - (I3 49 (((nI 51) + r3)).toNatClampNeg)) * (I3 56 ((x0 - x0 / (nI 16) * (nI 16))).toNatClampNeg)))), none, some (.int (((((I1 49 (((nI 13) + x1)).toNatClampNeg) - (I2 49 (((nI 46) + r2)).toNatClampNeg)) * ((I1 49 (((nI 13) + x1)).toNatClampNeg) - (I2 49 (((nI 46) + r2)).toNatClampNeg))) + (((I2 49 (((nI 24) + x1)).toNatClampNeg) - (I3 49 (((nI 51) + r3)).toNatClampNeg)) * ((I2 49 (((nI 24) + x1)).toNatClampNeg) - (I3 49 (((nI 51) + r3)).toNatClampNeg)))) * (nI 1)))] [.int (I3 49 (((nI 64) + r1)).toNatClampNeg), .int (((((I1 49 (((nI 13) + x1)).toNatClampNeg) - (I2 49 (((nI 46) + r2)).toNatClampNeg)) * ((I1 49 (((nI 13) + x1)).toNatClampNeg) - (I2 49 (((nI 46) + r2)).toNatClampNeg))) + (((I2 49 (((nI 24) + x1)).toNatClampNeg) - (I3 49 (((nI 51) + r3)).toNatClampNeg)) * ((I2 49 (((nI 24) + x1)).toNatClampNeg) - (I3 49 (((nI 51) + r3)).toNatClampNeg)))) * (nI 1))] ((fl, n1, n2, p, q, ad), I3, J3)
            show vp_in ((nI 64) + r1) 279 ∧ _
            refine ⟨(((((h3.2.1 c0).2.2.2.2.2.1 c1).2 c2).2 c3).2.2 c4).2.1, ?_⟩
            show mm_b _ _ _ _ _ [some (.ref 46), none, none, some (.int r1), none, none, some (.int ((((I1 49 (((nI 13) + x1)).toNatClampNeg) - (I2 49 (((nI 46) + r2)).toNatClampNeg)) * (I3 55 ((x0 - x0 / (nI 16) * (nI 16))).toNatClampNeg)) + (((I2 49 (((nI 24) + x1)).toNatClampNeg) - (I3 49 (((nI 51) + r3)).toNatClampNeg)) * (I3 56 ((x0 - x0 / (nI 16) * (nI 16))).toNatClampNeg)))), none, some (.int (((((I1 49 (((nI 13) + x1)).toNatClampNeg) - (I2 49 (((nI 46) + r2)).toNatClampNeg)) * ((I1 49 (((nI 13) + x1)).toNatClampNeg) - (I2 49 (((nI 46) + r2)).toNatClampNeg))) + (((I2 49 (((nI 24) + x1)).toNatClampNeg) - (I3 49 (((nI 51) + r3)).toNatClampNeg)) * ((I2 49 (((nI 24) + x1)).toNatClampNeg) - (I3 49 (((nI 51) + r3)).toNatClampNeg)))) * (nI 1)))] [.int (I3 49 (((nI 64) + r1)).toNatClampNeg), .int (I3 49 (((nI 64) + r1)).toNatClampNeg), .int (((((I1 49 (((nI 13) + x1)).toNatClampNeg) - (I2 49 (((nI 46) + r2)).toNatClampNeg)) * ((I1 49 (((nI 13) + x1)).toNatClampNeg) - (I2 49 (((nI 46) + r2)).toNatClampNeg))) + (((I2 49 (((nI 24) + x1)).toNatClampNeg) - (I3 49 (((nI 51) + r3)).toNatClampNeg)) * ((I2 49 (((nI 24) + x1)).toNatClampNeg) - (I3 49 (((nI 51) + r3)).toNatClampNeg)))) * (nI 1))] ((fl, n1, n2, p, q, ad), I3, J3)
            show (((I3 49 (((nI 64) + r1)).toNatClampNeg) * (I3 49 (((nI 64) + r1)).toNatClampNeg)) < (((((I1 49 (((nI 13) + x1)).toNatClampNeg) - (I2 49 (((nI 46) + r2)).toNatClampNeg)) * ((I1 49 (((nI 13) + x1)).toNatClampNeg) - (I2 49 (((nI 46) + r2)).toNatClampNeg))) + (((I2 49 (((nI 24) + x1)).toNatClampNeg) - (I3 49 (((nI 51) + r3)).toNatClampNeg)) * ((I2 49 (((nI 24) + x1)).toNatClampNeg) - (I3 49 (((nI 51) + r3)).toNatClampNeg)))) * (nI 1)) → _) ∧ (¬ ((I3 49 (((nI 64) + r1)).toNatClampNeg) * (I3 49 (((nI 64) + r1)).toNatClampNeg)) < (((((I1 49 (((nI 13) + x1)).toNatClampNeg) - (I2 49 (((nI 46) + r2)).toNatClampNeg)) * ((I1 49 (((nI 13) + x1)).toNatClampNeg) - (I2 49 (((nI 46) + r2)).toNatClampNeg))) + (((I2 49 (((nI 24) + x1)).toNatClampNeg) - (I3 49 (((nI 51) + r3)).toNatClampNeg)) * ((I2 49 (((nI 24) + x1)).toNatClampNeg) - (I3 49 (((nI 51) + r3)).toNatClampNeg)))) * (nI 1)) → _)
            refine ⟨fun c5 => ?_, fun c5 => ?_⟩
            · show mm_u _ _ _ _ _ _ [some (.ref 46), none, none, some (.int r1), none, none, some (.int ((((I1 49 (((nI 13) + x1)).toNatClampNeg) - (I2 49 (((nI 46) + r2)).toNatClampNeg)) * (I3 55 ((x0 - x0 / (nI 16) * (nI 16))).toNatClampNeg)) + (((I2 49 (((nI 24) + x1)).toNatClampNeg) - (I3 49 (((nI 51) + r3)).toNatClampNeg)) * (I3 56 ((x0 - x0 / (nI 16) * (nI 16))).toNatClampNeg)))), none, some (.int (((((I1 49 (((nI 13) + x1)).toNatClampNeg) - (I2 49 (((nI 46) + r2)).toNatClampNeg)) * ((I1 49 (((nI 13) + x1)).toNatClampNeg) - (I2 49 (((nI 46) + r2)).toNatClampNeg))) + (((I2 49 (((nI 24) + x1)).toNatClampNeg) - (I3 49 (((nI 51) + r3)).toNatClampNeg)) * ((I2 49 (((nI 24) + x1)).toNatClampNeg) - (I3 49 (((nI 51) + r3)).toNatClampNeg)))) * (nI 1)))] [] ((fl, n1, n2, p, q, ad), I3, J3)
              show (((nI 0) : Int32) = 0 ∨ ((nI 0) : Int32) = 1) ∧ _
              refine ⟨(by decide), ?_⟩
              exact ((((((h3.2.1 c0).2.2.2.2.2.1 c1).2 c2).2 c3).2.2 c4).2.2.1 c5)
            · show mm_b _ _ _ _ _ [some (.ref 46), none, none, some (.int r1), none, none, some (.int ((((I1 49 (((nI 13) + x1)).toNatClampNeg) - (I2 49 (((nI 46) + r2)).toNatClampNeg)) * (I3 55 ((x0 - x0 / (nI 16) * (nI 16))).toNatClampNeg)) + (((I2 49 (((nI 24) + x1)).toNatClampNeg) - (I3 49 (((nI 51) + r3)).toNatClampNeg)) * (I3 56 ((x0 - x0 / (nI 16) * (nI 16))).toNatClampNeg)))), none, some (.int (((((I1 49 (((nI 13) + x1)).toNatClampNeg) - (I2 49 (((nI 46) + r2)).toNatClampNeg)) * ((I1 49 (((nI 13) + x1)).toNatClampNeg) - (I2 49 (((nI 46) + r2)).toNatClampNeg))) + (((I2 49 (((nI 24) + x1)).toNatClampNeg) - (I3 49 (((nI 51) + r3)).toNatClampNeg)) * ((I2 49 (((nI 24) + x1)).toNatClampNeg) - (I3 49 (((nI 51) + r3)).toNatClampNeg)))) * (nI 1)))] [] ((fl, n1, n2, p, q, ad), I3, J3)
              show (((nI 1) : Int32) = 0 ∨ ((nI 1) : Int32) = 1) ∧ _
              refine ⟨(by decide), ?_⟩
              exact ((((((h3.2.1 c0).2.2.2.2.2.1 c1).2 c2).2 c3).2.2 c4).2.2.2 c5)
    · show mm_b _ _ _ _ _ [some (.ref 46), some (.int x0), some (.int x1), some (.int r1), some (.int ((I1 49 (((nI 13) + x1)).toNatClampNeg) - (I2 49 (((nI 46) + r2)).toNatClampNeg))), some (.int ((I2 49 (((nI 24) + x1)).toNatClampNeg) - (I3 49 (((nI 51) + r3)).toNatClampNeg))), some (.int ((((I1 49 (((nI 13) + x1)).toNatClampNeg) - (I2 49 (((nI 46) + r2)).toNatClampNeg)) * (I3 55 ((x0 - x0 / (nI 16) * (nI 16))).toNatClampNeg)) + (((I2 49 (((nI 24) + x1)).toNatClampNeg) - (I3 49 (((nI 51) + r3)).toNatClampNeg)) * (I3 56 ((x0 - x0 / (nI 16) * (nI 16))).toNatClampNeg)))), some (.int (((I3 55 ((x0 - x0 / (nI 16) * (nI 16))).toNatClampNeg) * ((I2 49 (((nI 24) + x1)).toNatClampNeg) - (I3 49 (((nI 51) + r3)).toNatClampNeg))) - ((I3 56 ((x0 - x0 / (nI 16) * (nI 16))).toNatClampNeg) * ((I1 49 (((nI 13) + x1)).toNatClampNeg) - (I2 49 (((nI 46) + r2)).toNatClampNeg))))), none] [.int ((((I1 49 (((nI 13) + x1)).toNatClampNeg) - (I2 49 (((nI 46) + r2)).toNatClampNeg)) * ((I1 49 (((nI 13) + x1)).toNatClampNeg) - (I2 49 (((nI 46) + r2)).toNatClampNeg))) + (((I2 49 (((nI 24) + x1)).toNatClampNeg) - (I3 49 (((nI 51) + r3)).toNatClampNeg)) * ((I2 49 (((nI 24) + x1)).toNatClampNeg) - (I3 49 (((nI 51) + r3)).toNatClampNeg))))] ((fl, n1, n2, p, q, ad), I3, J3)
      show (((((I1 49 (((nI 13) + x1)).toNatClampNeg) - (I2 49 (((nI 46) + r2)).toNatClampNeg)) * (I3 55 ((x0 - x0 / (nI 16) * (nI 16))).toNatClampNeg)) + (((I2 49 (((nI 24) + x1)).toNatClampNeg) - (I3 49 (((nI 51) + r3)).toNatClampNeg)) * (I3 56 ((x0 - x0 / (nI 16) * (nI 16))).toNatClampNeg))) ≤ (nI 0) → _) ∧ (¬ ((((I1 49 (((nI 13) + x1)).toNatClampNeg) - (I2 49 (((nI 46) + r2)).toNatClampNeg)) * (I3 55 ((x0 - x0 / (nI 16) * (nI 16))).toNatClampNeg)) + (((I2 49 (((nI 24) + x1)).toNatClampNeg) - (I3 49 (((nI 51) + r3)).toNatClampNeg)) * (I3 56 ((x0 - x0 / (nI 16) * (nI 16))).toNatClampNeg))) ≤ (nI 0) → _)
      refine ⟨fun c2 => ?_, fun c2 => ?_⟩
      · show mm_u _ _ _ _ _ _ [some (.ref 46), none, none, some (.int r1), none, none, some (.int ((((I1 49 (((nI 13) + x1)).toNatClampNeg) - (I2 49 (((nI 46) + r2)).toNatClampNeg)) * (I3 55 ((x0 - x0 / (nI 16) * (nI 16))).toNatClampNeg)) + (((I2 49 (((nI 24) + x1)).toNatClampNeg) - (I3 49 (((nI 51) + r3)).toNatClampNeg)) * (I3 56 ((x0 - x0 / (nI 16) * (nI 16))).toNatClampNeg)))), some (.int (((I3 55 ((x0 - x0 / (nI 16) * (nI 16))).toNatClampNeg) * ((I2 49 (((nI 24) + x1)).toNatClampNeg) - (I3 49 (((nI 51) + r3)).toNatClampNeg))) - ((I3 56 ((x0 - x0 / (nI 16) * (nI 16))).toNatClampNeg) * ((I1 49 (((nI 13) + x1)).toNatClampNeg) - (I2 49 (((nI 46) + r2)).toNatClampNeg))))), some (.int (((((I1 49 (((nI 13) + x1)).toNatClampNeg) - (I2 49 (((nI 46) + r2)).toNatClampNeg)) * ((I1 49 (((nI 13) + x1)).toNatClampNeg) - (I2 49 (((nI 46) + r2)).toNatClampNeg))) + (((I2 49 (((nI 24) + x1)).toNatClampNeg) - (I3 49 (((nI 51) + r3)).toNatClampNeg)) * ((I2 49 (((nI 24) + x1)).toNatClampNeg) - (I3 49 (((nI 51) + r3)).toNatClampNeg)))) * (nI 4)))] [] ((fl, n1, n2, p, q, ad), I3, J3)
        show (((nI 0) : Int32) = 0 ∨ ((nI 0) : Int32) = 1) ∧ _
        refine ⟨(by decide), ?_⟩
        exact (((h3.2.1 c0).2.2.2.2.2.2 c1).1 c2)
      · show mm_b _ _ _ _ _ [some (.ref 46), none, none, some (.int r1), none, none, some (.int ((((I1 49 (((nI 13) + x1)).toNatClampNeg) - (I2 49 (((nI 46) + r2)).toNatClampNeg)) * (I3 55 ((x0 - x0 / (nI 16) * (nI 16))).toNatClampNeg)) + (((I2 49 (((nI 24) + x1)).toNatClampNeg) - (I3 49 (((nI 51) + r3)).toNatClampNeg)) * (I3 56 ((x0 - x0 / (nI 16) * (nI 16))).toNatClampNeg)))), some (.int (((I3 55 ((x0 - x0 / (nI 16) * (nI 16))).toNatClampNeg) * ((I2 49 (((nI 24) + x1)).toNatClampNeg) - (I3 49 (((nI 51) + r3)).toNatClampNeg))) - ((I3 56 ((x0 - x0 / (nI 16) * (nI 16))).toNatClampNeg) * ((I1 49 (((nI 13) + x1)).toNatClampNeg) - (I2 49 (((nI 46) + r2)).toNatClampNeg))))), some (.int (((((I1 49 (((nI 13) + x1)).toNatClampNeg) - (I2 49 (((nI 46) + r2)).toNatClampNeg)) * ((I1 49 (((nI 13) + x1)).toNatClampNeg) - (I2 49 (((nI 46) + r2)).toNatClampNeg))) + (((I2 49 (((nI 24) + x1)).toNatClampNeg) - (I3 49 (((nI 51) + r3)).toNatClampNeg)) * ((I2 49 (((nI 24) + x1)).toNatClampNeg) - (I3 49 (((nI 51) + r3)).toNatClampNeg)))) * (nI 4)))] [] ((fl, n1, n2, p, q, ad), I3, J3)
        show ((nI 0) ≤ (((I3 55 ((x0 - x0 / (nI 16) * (nI 16))).toNatClampNeg) * ((I2 49 (((nI 24) + x1)).toNatClampNeg) - (I3 49 (((nI 51) + r3)).toNatClampNeg))) - ((I3 56 ((x0 - x0 / (nI 16) * (nI 16))).toNatClampNeg) * ((I1 49 (((nI 13) + x1)).toNatClampNeg) - (I2 49 (((nI 46) + r2)).toNatClampNeg)))) → _) ∧ (¬ (nI 0) ≤ (((I3 55 ((x0 - x0 / (nI 16) * (nI 16))).toNatClampNeg) * ((I2 49 (((nI 24) + x1)).toNatClampNeg) - (I3 49 (((nI 51) + r3)).toNatClampNeg))) - ((I3 56 ((x0 - x0 / (nI 16) * (nI 16))).toNatClampNeg) * ((I1 49 (((nI 13) + x1)).toNatClampNeg) - (I2 49 (((nI 46) + r2)).toNatClampNeg)))) → _)
        refine ⟨fun c3 => ?_, fun c3 => ?_⟩
        · show mm_u _ _ _ _ _ _ [some (.ref 46), none, none, some (.int r1), none, none, some (.int ((((I1 49 (((nI 13) + x1)).toNatClampNeg) - (I2 49 (((nI 46) + r2)).toNatClampNeg)) * (I3 55 ((x0 - x0 / (nI 16) * (nI 16))).toNatClampNeg)) + (((I2 49 (((nI 24) + x1)).toNatClampNeg) - (I3 49 (((nI 51) + r3)).toNatClampNeg)) * (I3 56 ((x0 - x0 / (nI 16) * (nI 16))).toNatClampNeg)))), some (.int (((I3 55 ((x0 - x0 / (nI 16) * (nI 16))).toNatClampNeg) * ((I2 49 (((nI 24) + x1)).toNatClampNeg) - (I3 49 (((nI 51) + r3)).toNatClampNeg))) - ((I3 56 ((x0 - x0 / (nI 16) * (nI 16))).toNatClampNeg) * ((I1 49 (((nI 13) + x1)).toNatClampNeg) - (I2 49 (((nI 46) + r2)).toNatClampNeg))))), some (.int (((((I1 49 (((nI 13) + x1)).toNatClampNeg) - (I2 49 (((nI 46) + r2)).toNatClampNeg)) * ((I1 49 (((nI 13) + x1)).toNatClampNeg) - (I2 49 (((nI 46) + r2)).toNatClampNeg))) + (((I2 49 (((nI 24) + x1)).toNatClampNeg) - (I3 49 (((nI 51) + r3)).toNatClampNeg)) * ((I2 49 (((nI 24) + x1)).toNatClampNeg) - (I3 49 (((nI 51) + r3)).toNatClampNeg)))) * (nI 4)))] [.int (nI 10)] ((fl, n1, n2, p, q, ad), I3, J3)
          show vp_in ((nI 68) + r1) 279 ∧ _
          refine ⟨((((h3.2.1 c0).2.2.2.2.2.2 c1).2 c2).1 c3).1, ?_⟩
          show mm_b _ _ _ _ _ [some (.ref 46), none, none, some (.int r1), none, none, some (.int ((((I1 49 (((nI 13) + x1)).toNatClampNeg) - (I2 49 (((nI 46) + r2)).toNatClampNeg)) * (I3 55 ((x0 - x0 / (nI 16) * (nI 16))).toNatClampNeg)) + (((I2 49 (((nI 24) + x1)).toNatClampNeg) - (I3 49 (((nI 51) + r3)).toNatClampNeg)) * (I3 56 ((x0 - x0 / (nI 16) * (nI 16))).toNatClampNeg)))), none, some (.int (((((I1 49 (((nI 13) + x1)).toNatClampNeg) - (I2 49 (((nI 46) + r2)).toNatClampNeg)) * ((I1 49 (((nI 13) + x1)).toNatClampNeg) - (I2 49 (((nI 46) + r2)).toNatClampNeg))) + (((I2 49 (((nI 24) + x1)).toNatClampNeg) - (I3 49 (((nI 51) + r3)).toNatClampNeg)) * ((I2 49 (((nI 24) + x1)).toNatClampNeg) - (I3 49 (((nI 51) + r3)).toNatClampNeg)))) * (nI 4)))] [.int (I3 49 (((nI 68) + r1)).toNatClampNeg), .int ((nI 10) * (((I3 55 ((x0 - x0 / (nI 16) * (nI 16))).toNatClampNeg) * ((I2 49 (((nI 24) + x1)).toNatClampNeg) - (I3 49 (((nI 51) + r3)).toNatClampNeg))) - ((I3 56 ((x0 - x0 / (nI 16) * (nI 16))).toNatClampNeg) * ((I1 49 (((nI 13) + x1)).toNatClampNeg) - (I2 49 (((nI 46) + r2)).toNatClampNeg)))))] ((fl, n1, n2, p, q, ad), I3, J3)
          show (((I3 49 (((nI 68) + r1)).toNatClampNeg) * ((((I1 49 (((nI 13) + x1)).toNatClampNeg) - (I2 49 (((nI 46) + r2)).toNatClampNeg)) * (I3 55 ((x0 - x0 / (nI 16) * (nI 16))).toNatClampNeg)) + (((I2 49 (((nI 24) + x1)).toNatClampNeg) - (I3 49 (((nI 51) + r3)).toNatClampNeg)) * (I3 56 ((x0 - x0 / (nI 16) * (nI 16))).toNatClampNeg)))) < ((nI 10) * (((I3 55 ((x0 - x0 / (nI 16) * (nI 16))).toNatClampNeg) * ((I2 49 (((nI 24) + x1)).toNatClampNeg) - (I3 49 (((nI 51) + r3)).toNatClampNeg))) - ((I3 56 ((x0 - x0 / (nI 16) * (nI 16))).toNatClampNeg) * ((I1 49 (((nI 13) + x1)).toNatClampNeg) - (I2 49 (((nI 46) + r2)).toNatClampNeg))))) → _) ∧ (¬ ((I3 49 (((nI 68) + r1)).toNatClampNeg) * ((((I1 49 (((nI 13) + x1)).toNatClampNeg) - (I2 49 (((nI 46) + r2)).toNatClampNeg)) * (I3 55 ((x0 - x0 / (nI 16) * (nI 16))).toNatClampNeg)) + (((I2 49 (((nI 24) + x1)).toNatClampNeg) - (I3 49 (((nI 51) + r3)).toNatClampNeg)) * (I3 56 ((x0 - x0 / (nI 16) * (nI 16))).toNatClampNeg)))) < ((nI 10) * (((I3 55 ((x0 - x0 / (nI 16) * (nI 16))).toNatClampNeg) * ((I2 49 (((nI 24) + x1)).toNatClampNeg) - (I3 49 (((nI 51) + r3)).toNatClampNeg))) - ((I3 56 ((x0 - x0 / (nI 16) * (nI 16))).toNatClampNeg) * ((I1 49 (((nI 13) + x1)).toNatClampNeg) - (I2 49 (((nI 46) + r2)).toNatClampNeg))))) → _)
          refine ⟨fun c4 => ?_, fun c4 => ?_⟩
          · show mm_u _ _ _ _ _ _ [some (.ref 46), none, none, some (.int r1), none, none, some (.int ((((I1 49 (((nI 13) + x1)).toNatClampNeg) - (I2 49 (((nI 46) + r2)).toNatClampNeg)) * (I3 55 ((x0 - x0 / (nI 16) * (nI 16))).toNatClampNeg)) + (((I2 49 (((nI 24) + x1)).toNatClampNeg) - (I3 49 (((nI 51) + r3)).toNatClampNeg)) * (I3 56 ((x0 - x0 / (nI 16) * (nI 16))).toNatClampNeg)))), none, some (.int (((((I1 49 (((nI 13) + x1)).toNatClampNeg) - (I2 49 (((nI 46) + r2)).toNatClampNeg)) * ((I1 49 (((nI 13) + x1)).toNatClampNeg) - (I2 49 (((nI 46) + r2)).toNatClampNeg))) + (((I2 49 (((nI 24) + x1)).toNatClampNeg) - (I3 49 (((nI 51) + r3)).toNatClampNeg)) * ((I2 49 (((nI 24) + x1)).toNatClampNeg) - (I3 49 (((nI 51) + r3)).toNatClampNeg)))) * (nI 4)))] [] ((fl, n1, n2, p, q, ad), I3, J3)
            show (((nI 0) : Int32) = 0 ∨ ((nI 0) : Int32) = 1) ∧ _
            refine ⟨(by decide), ?_⟩
            exact (((((h3.2.1 c0).2.2.2.2.2.2 c1).2 c2).1 c3).2.1 c4)
          · show mm_b _ _ _ _ _ [some (.ref 46), none, none, some (.int r1), none, none, some (.int ((((I1 49 (((nI 13) + x1)).toNatClampNeg) - (I2 49 (((nI 46) + r2)).toNatClampNeg)) * (I3 55 ((x0 - x0 / (nI 16) * (nI 16))).toNatClampNeg)) + (((I2 49 (((nI 24) + x1)).toNatClampNeg) - (I3 49 (((nI 51) + r3)).toNatClampNeg)) * (I3 56 ((x0 - x0 / (nI 16) * (nI 16))).toNatClampNeg)))), none, some (.int (((((I1 49 (((nI 13) + x1)).toNatClampNeg) - (I2 49 (((nI 46) + r2)).toNatClampNeg)) * ((I1 49 (((nI 13) + x1)).toNatClampNeg) - (I2 49 (((nI 46) + r2)).toNatClampNeg))) + (((I2 49 (((nI 24) + x1)).toNatClampNeg) - (I3 49 (((nI 51) + r3)).toNatClampNeg)) * ((I2 49 (((nI 24) + x1)).toNatClampNeg) - (I3 49 (((nI 51) + r3)).toNatClampNeg)))) * (nI 4)))] [] ((fl, n1, n2, p, q, ad), I3, J3)
            show vp_in ((nI 64) + r1) 279 ∧ _
            refine ⟨(((((h3.2.1 c0).2.2.2.2.2.2 c1).2 c2).1 c3).2.2 c4).1, ?_⟩
            show mm_b _ _ _ _ _ [some (.ref 46), none, none, some (.int r1), none, none, some (.int ((((I1 49 (((nI 13) + x1)).toNatClampNeg) - (I2 49 (((nI 46) + r2)).toNatClampNeg)) * (I3 55 ((x0 - x0 / (nI 16) * (nI 16))).toNatClampNeg)) + (((I2 49 (((nI 24) + x1)).toNatClampNeg) - (I3 49 (((nI 51) + r3)).toNatClampNeg)) * (I3 56 ((x0 - x0 / (nI 16) * (nI 16))).toNatClampNeg)))), none, some (.int (((((I1 49 (((nI 13) + x1)).toNatClampNeg) - (I2 49 (((nI 46) + r2)).toNatClampNeg)) * ((I1 49 (((nI 13) + x1)).toNatClampNeg) - (I2 49 (((nI 46) + r2)).toNatClampNeg))) + (((I2 49 (((nI 24) + x1)).toNatClampNeg) - (I3 49 (((nI 51) + r3)).toNatClampNeg)) * ((I2 49 (((nI 24) + x1)).toNatClampNeg) - (I3 49 (((nI 51) + r3)).toNatClampNeg)))) * (nI 4)))] [.int (I3 49 (((nI 64) + r1)).toNatClampNeg), .int (((((I1 49 (((nI 13) + x1)).toNatClampNeg) - (I2 49 (((nI 46) + r2)).toNatClampNeg)) * ((I1 49 (((nI 13) + x1)).toNatClampNeg) - (I2 49 (((nI 46) + r2)).toNatClampNeg))) + (((I2 49 (((nI 24) + x1)).toNatClampNeg) - (I3 49 (((nI 51) + r3)).toNatClampNeg)) * ((I2 49 (((nI 24) + x1)).toNatClampNeg) - (I3 49 (((nI 51) + r3)).toNatClampNeg)))) * (nI 4))] ((fl, n1, n2, p, q, ad), I3, J3)
            show vp_in ((nI 64) + r1) 279 ∧ _
            refine ⟨(((((h3.2.1 c0).2.2.2.2.2.2 c1).2 c2).1 c3).2.2 c4).2.1, ?_⟩
            show mm_b _ _ _ _ _ [some (.ref 46), none, none, some (.int r1), none, none, some (.int ((((I1 49 (((nI 13) + x1)).toNatClampNeg) - (I2 49 (((nI 46) + r2)).toNatClampNeg)) * (I3 55 ((x0 - x0 / (nI 16) * (nI 16))).toNatClampNeg)) + (((I2 49 (((nI 24) + x1)).toNatClampNeg) - (I3 49 (((nI 51) + r3)).toNatClampNeg)) * (I3 56 ((x0 - x0 / (nI 16) * (nI 16))).toNatClampNeg)))), none, some (.int (((((I1 49 (((nI 13) + x1)).toNatClampNeg) - (I2 49 (((nI 46) + r2)).toNatClampNeg)) * ((I1 49 (((nI 13) + x1)).toNatClampNeg) - (I2 49 (((nI 46) + r2)).toNatClampNeg))) + (((I2 49 (((nI 24) + x1)).toNatClampNeg) - (I3 49 (((nI 51) + r3)).toNatClampNeg)) * ((I2 49 (((nI 24) + x1)).toNatClampNeg) - (I3 49 (((nI 51) + r3)).toNatClampNeg)))) * (nI 4)))] [.int (I3 49 (((nI 64) + r1)).toNatClampNeg), .int (I3 49 (((nI 64) + r1)).toNatClampNeg), .int (((((I1 49 (((nI 13) + x1)).toNatClampNeg) - (I2 49 (((nI 46) + r2)).toNatClampNeg)) * ((I1 49 (((nI 13) + x1)).toNatClampNeg) - (I2 49 (((nI 46) + r2)).toNatClampNeg))) + (((I2 49 (((nI 24) + x1)).toNatClampNeg) - (I3 49 (((nI 51) + r3)).toNatClampNeg)) * ((I2 49 (((nI 24) + x1)).toNatClampNeg) - (I3 49 (((nI 51) + r3)).toNatClampNeg)))) * (nI 4))] ((fl, n1, n2, p, q, ad), I3, J3)
            show (((I3 49 (((nI 64) + r1)).toNatClampNeg) * (I3 49 (((nI 64) + r1)).toNatClampNeg)) < (((((I1 49 (((nI 13) + x1)).toNatClampNeg) - (I2 49 (((nI 46) + r2)).toNatClampNeg)) * ((I1 49 (((nI 13) + x1)).toNatClampNeg) - (I2 49 (((nI 46) + r2)).toNatClampNeg))) + (((I2 49 (((nI 24) + x1)).toNatClampNeg) - (I3 49 (((nI 51) + r3)).toNatClampNeg)) * ((I2 49 (((nI 24) + x1)).toNatClampNeg) - (I3 49 (((nI 51) + r3)).toNatClampNeg)))) * (nI 4)) → _) ∧ (¬ ((I3 49 (((nI 64) + r1)).toNatClampNeg) * (I3 49 (((nI 64) + r1)).toNatClampNeg)) < (((((I1 49 (((nI 13) + x1)).toNatClampNeg) - (I2 49 (((nI 46) + r2)).toNatClampNeg)) * ((I1 49 (((nI 13) + x1)).toNatClampNeg) - (I2 49 (((nI 46) + r2)).toNatClampNeg))) + (((I2 49 (((nI 24) + x1)).toNatClampNeg) - (I3 49 (((nI 51) + r3)).toNatClampNeg)) * ((I2 49 (((nI 24) + x1)).toNatClampNeg) - (I3 49 (((nI 51) + r3)).toNatClampNeg)))) * (nI 4)) → _)
            refine ⟨fun c5 => ?_, fun c5 => ?_⟩
            · show mm_u _ _ _ _ _ _ [some (.ref 46), none, none, some (.int r1), none, none, some (.int ((((I1 49 (((nI 13) + x1)).toNatClampNeg) - (I2 49 (((nI 46) + r2)).toNatClampNeg)) * (I3 55 ((x0 - x0 / (nI 16) * (nI 16))).toNatClampNeg)) + (((I2 49 (((nI 24) + x1)).toNatClampNeg) - (I3 49 (((nI 51) + r3)).toNatClampNeg)) * (I3 56 ((x0 - x0 / (nI 16) * (nI 16))).toNatClampNeg)))), none, some (.int (((((I1 49 (((nI 13) + x1)).toNatClampNeg) - (I2 49 (((nI 46) + r2)).toNatClampNeg)) * ((I1 49 (((nI 13) + x1)).toNatClampNeg) - (I2 49 (((nI 46) + r2)).toNatClampNeg))) + (((I2 49 (((nI 24) + x1)).toNatClampNeg) - (I3 49 (((nI 51) + r3)).toNatClampNeg)) * ((I2 49 (((nI 24) + x1)).toNatClampNeg) - (I3 49 (((nI 51) + r3)).toNatClampNeg)))) * (nI 4)))] [] ((fl, n1, n2, p, q, ad), I3, J3)
              show (((nI 0) : Int32) = 0 ∨ ((nI 0) : Int32) = 1) ∧ _
              refine ⟨(by decide), ?_⟩
              exact ((((((h3.2.1 c0).2.2.2.2.2.2 c1).2 c2).1 c3).2.2 c4).2.2.1 c5)
            · show mm_b _ _ _ _ _ [some (.ref 46), none, none, some (.int r1), none, none, some (.int ((((I1 49 (((nI 13) + x1)).toNatClampNeg) - (I2 49 (((nI 46) + r2)).toNatClampNeg)) * (I3 55 ((x0 - x0 / (nI 16) * (nI 16))).toNatClampNeg)) + (((I2 49 (((nI 24) + x1)).toNatClampNeg) - (I3 49 (((nI 51) + r3)).toNatClampNeg)) * (I3 56 ((x0 - x0 / (nI 16) * (nI 16))).toNatClampNeg)))), none, some (.int (((((I1 49 (((nI 13) + x1)).toNatClampNeg) - (I2 49 (((nI 46) + r2)).toNatClampNeg)) * ((I1 49 (((nI 13) + x1)).toNatClampNeg) - (I2 49 (((nI 46) + r2)).toNatClampNeg))) + (((I2 49 (((nI 24) + x1)).toNatClampNeg) - (I3 49 (((nI 51) + r3)).toNatClampNeg)) * ((I2 49 (((nI 24) + x1)).toNatClampNeg) - (I3 49 (((nI 51) + r3)).toNatClampNeg)))) * (nI 4)))] [] ((fl, n1, n2, p, q, ad), I3, J3)
              show (((nI 1) : Int32) = 0 ∨ ((nI 1) : Int32) = 1) ∧ _
              refine ⟨(by decide), ?_⟩
              exact ((((((h3.2.1 c0).2.2.2.2.2.2 c1).2 c2).1 c3).2.2 c4).2.2.2 c5)
        · show mm_b _ _ _ _ _ [some (.ref 46), none, none, some (.int r1), none, none, some (.int ((((I1 49 (((nI 13) + x1)).toNatClampNeg) - (I2 49 (((nI 46) + r2)).toNatClampNeg)) * (I3 55 ((x0 - x0 / (nI 16) * (nI 16))).toNatClampNeg)) + (((I2 49 (((nI 24) + x1)).toNatClampNeg) - (I3 49 (((nI 51) + r3)).toNatClampNeg)) * (I3 56 ((x0 - x0 / (nI 16) * (nI 16))).toNatClampNeg)))), some (.int (((I3 55 ((x0 - x0 / (nI 16) * (nI 16))).toNatClampNeg) * ((I2 49 (((nI 24) + x1)).toNatClampNeg) - (I3 49 (((nI 51) + r3)).toNatClampNeg))) - ((I3 56 ((x0 - x0 / (nI 16) * (nI 16))).toNatClampNeg) * ((I1 49 (((nI 13) + x1)).toNatClampNeg) - (I2 49 (((nI 46) + r2)).toNatClampNeg))))), some (.int (((((I1 49 (((nI 13) + x1)).toNatClampNeg) - (I2 49 (((nI 46) + r2)).toNatClampNeg)) * ((I1 49 (((nI 13) + x1)).toNatClampNeg) - (I2 49 (((nI 46) + r2)).toNatClampNeg))) + (((I2 49 (((nI 24) + x1)).toNatClampNeg) - (I3 49 (((nI 51) + r3)).toNatClampNeg)) * ((I2 49 (((nI 24) + x1)).toNatClampNeg) - (I3 49 (((nI 51) + r3)).toNatClampNeg)))) * (nI 4)))] [.int (nI 10)] ((fl, n1, n2, p, q, ad), I3, J3)
          show vp_in ((nI 68) + r1) 279 ∧ _
          refine ⟨((((h3.2.1 c0).2.2.2.2.2.2 c1).2 c2).2 c3).1, ?_⟩
          show mm_b _ _ _ _ _ [some (.ref 46), none, none, some (.int r1), none, none, some (.int ((((I1 49 (((nI 13) + x1)).toNatClampNeg) - (I2 49 (((nI 46) + r2)).toNatClampNeg)) * (I3 55 ((x0 - x0 / (nI 16) * (nI 16))).toNatClampNeg)) + (((I2 49 (((nI 24) + x1)).toNatClampNeg) - (I3 49 (((nI 51) + r3)).toNatClampNeg)) * (I3 56 ((x0 - x0 / (nI 16) * (nI 16))).toNatClampNeg)))), none, some (.int (((((I1 49 (((nI 13) + x1)).toNatClampNeg) - (I2 49 (((nI 46) + r2)).toNatClampNeg)) * ((I1 49 (((nI 13) + x1)).toNatClampNeg) - (I2 49 (((nI 46) + r2)).toNatClampNeg))) + (((I2 49 (((nI 24) + x1)).toNatClampNeg) - (I3 49 (((nI 51) + r3)).toNatClampNeg)) * ((I2 49 (((nI 24) + x1)).toNatClampNeg) - (I3 49 (((nI 51) + r3)).toNatClampNeg)))) * (nI 4)))] [.int (I3 49 (((nI 68) + r1)).toNatClampNeg), .int ((nI 10) * (-(((I3 55 ((x0 - x0 / (nI 16) * (nI 16))).toNatClampNeg) * ((I2 49 (((nI 24) + x1)).toNatClampNeg) - (I3 49 (((nI 51) + r3)).toNatClampNeg))) - ((I3 56 ((x0 - x0 / (nI 16) * (nI 16))).toNatClampNeg) * ((I1 49 (((nI 13) + x1)).toNatClampNeg) - (I2 49 (((nI 46) + r2)).toNatClampNeg))))))] ((fl, n1, n2, p, q, ad), I3, J3)
          show (((I3 49 (((nI 68) + r1)).toNatClampNeg) * ((((I1 49 (((nI 13) + x1)).toNatClampNeg) - (I2 49 (((nI 46) + r2)).toNatClampNeg)) * (I3 55 ((x0 - x0 / (nI 16) * (nI 16))).toNatClampNeg)) + (((I2 49 (((nI 24) + x1)).toNatClampNeg) - (I3 49 (((nI 51) + r3)).toNatClampNeg)) * (I3 56 ((x0 - x0 / (nI 16) * (nI 16))).toNatClampNeg)))) < ((nI 10) * (-(((I3 55 ((x0 - x0 / (nI 16) * (nI 16))).toNatClampNeg) * ((I2 49 (((nI 24) + x1)).toNatClampNeg) - (I3 49 (((nI 51) + r3)).toNatClampNeg))) - ((I3 56 ((x0 - x0 / (nI 16) * (nI 16))).toNatClampNeg) * ((I1 49 (((nI 13) + x1)).toNatClampNeg) - (I2 49 (((nI 46) + r2)).toNatClampNeg)))))) → _) ∧ (¬ ((I3 49 (((nI 68) + r1)).toNatClampNeg) * ((((I1 49 (((nI 13) + x1)).toNatClampNeg) - (I2 49 (((nI 46) + r2)).toNatClampNeg)) * (I3 55 ((x0 - x0 / (nI 16) * (nI 16))).toNatClampNeg)) + (((I2 49 (((nI 24) + x1)).toNatClampNeg) - (I3 49 (((nI 51) + r3)).toNatClampNeg)) * (I3 56 ((x0 - x0 / (nI 16) * (nI 16))).toNatClampNeg)))) < ((nI 10) * (-(((I3 55 ((x0 - x0 / (nI 16) * (nI 16))).toNatClampNeg) * ((I2 49 (((nI 24) + x1)).toNatClampNeg) - (I3 49 (((nI 51) + r3)).toNatClampNeg))) - ((I3 56 ((x0 - x0 / (nI 16) * (nI 16))).toNatClampNeg) * ((I1 49 (((nI 13) + x1)).toNatClampNeg) - (I2 49 (((nI 46) + r2)).toNatClampNeg)))))) → _)
          refine ⟨fun c4 => ?_, fun c4 => ?_⟩
          · show mm_u _ _ _ _ _ _ [some (.ref 46), none, none, some (.int r1), none, none, some (.int ((((I1 49 (((nI 13) + x1)).toNatClampNeg) - (I2 49 (((nI 46) + r2)).toNatClampNeg)) * (I3 55 ((x0 - x0 / (nI 16) * (nI 16))).toNatClampNeg)) + (((I2 49 (((nI 24) + x1)).toNatClampNeg) - (I3 49 (((nI 51) + r3)).toNatClampNeg)) * (I3 56 ((x0 - x0 / (nI 16) * (nI 16))).toNatClampNeg)))), none, some (.int (((((I1 49 (((nI 13) + x1)).toNatClampNeg) - (I2 49 (((nI 46) + r2)).toNatClampNeg)) * ((I1 49 (((nI 13) + x1)).toNatClampNeg) - (I2 49 (((nI 46) + r2)).toNatClampNeg))) + (((I2 49 (((nI 24) + x1)).toNatClampNeg) - (I3 49 (((nI 51) + r3)).toNatClampNeg)) * ((I2 49 (((nI 24) + x1)).toNatClampNeg) - (I3 49 (((nI 51) + r3)).toNatClampNeg)))) * (nI 4)))] [] ((fl, n1, n2, p, q, ad), I3, J3)
            show (((nI 0) : Int32) = 0 ∨ ((nI 0) : Int32) = 1) ∧ _
            refine ⟨(by decide), ?_⟩
            exact (((((h3.2.1 c0).2.2.2.2.2.2 c1).2 c2).2 c3).2.1 c4)
          · show mm_b _ _ _ _ _ [some (.ref 46), none, none, some (.int r1), none, none, some (.int ((((I1 49 (((nI 13) + x1)).toNatClampNeg) - (I2 49 (((nI 46) + r2)).toNatClampNeg)) * (I3 55 ((x0 - x0 / (nI 16) * (nI 16))).toNatClampNeg)) + (((I2 49 (((nI 24) + x1)).toNatClampNeg) - (I3 49 (((nI 51) + r3)).toNatClampNeg)) * (I3 56 ((x0 - x0 / (nI 16) * (nI 16))).toNatClampNeg)))), none, some (.int (((((I1 49 (((nI 13) + x1)).toNatClampNeg) - (I2 49 (((nI 46) + r2)).toNatClampNeg)) * ((I1 49 (((nI 13) + x1)).toNatClampNeg) - (I2 49 (((nI 46) + r2)).toNatClampNeg))) + (((I2 49 (((nI 24) + x1)).toNatClampNeg) - (I3 49 (((nI 51) + r3)).toNatClampNeg)) * ((I2 49 (((nI 24) + x1)).toNatClampNeg) - (I3 49 (((nI 51) + r3)).toNatClampNeg)))) * (nI 4)))] [] ((fl, n1, n2, p, q, ad), I3, J3)
            show vp_in ((nI 64) + r1) 279 ∧ _
            refine ⟨(((((h3.2.1 c0).2.2.2.2.2.2 c1).2 c2).2 c3).2.2 c4).1, ?_⟩
            show mm_b _ _ _ _ _ [some (.ref 46), none, none, some (.int r1), none, none, some (.int ((((I1 49 (((nI 13) + x1)).toNatClampNeg) - (I2 49 (((nI 46) + r2)).toNatClampNeg)) * (I3 55 ((x0 - x0 / (nI 16) * (nI 16))).toNatClampNeg)) + (((I2 49 (((nI 24) + x1)).toNatClampNeg) - (I3 49 (((nI 51) + r3)).toNatClampNeg)) * (I3 56 ((x0 - x0 / (nI 16) * (nI 16))).toNatClampNeg)))), none, some (.int (((((I1 49 (((nI 13) + x1)).toNatClampNeg) - (I2 49 (((nI 46) + r2)).toNatClampNeg)) * ((I1 49 (((nI 13) + x1)).toNatClampNeg) - (I2 49 (((nI 46) + r2)).toNatClampNeg))) + (((I2 49 (((nI 24) + x1)).toNatClampNeg) - (I3 49 (((nI 51) + r3)).toNatClampNeg)) * ((I2 49 (((nI 24) + x1)).toNatClampNeg) - (I3 49 (((nI 51) + r3)).toNatClampNeg)))) * (nI 4)))] [.int (I3 49 (((nI 64) + r1)).toNatClampNeg), .int (((((I1 49 (((nI 13) + x1)).toNatClampNeg) - (I2 49 (((nI 46) + r2)).toNatClampNeg)) * ((I1 49 (((nI 13) + x1)).toNatClampNeg) - (I2 49 (((nI 46) + r2)).toNatClampNeg))) + (((I2 49 (((nI 24) + x1)).toNatClampNeg) - (I3 49 (((nI 51) + r3)).toNatClampNeg)) * ((I2 49 (((nI 24) + x1)).toNatClampNeg) - (I3 49 (((nI 51) + r3)).toNatClampNeg)))) * (nI 4))] ((fl, n1, n2, p, q, ad), I3, J3)
            show vp_in ((nI 64) + r1) 279 ∧ _
            refine ⟨(((((h3.2.1 c0).2.2.2.2.2.2 c1).2 c2).2 c3).2.2 c4).2.1, ?_⟩
            show mm_b _ _ _ _ _ [some (.ref 46), none, none, some (.int r1), none, none, some (.int ((((I1 49 (((nI 13) + x1)).toNatClampNeg) - (I2 49 (((nI 46) + r2)).toNatClampNeg)) * (I3 55 ((x0 - x0 / (nI 16) * (nI 16))).toNatClampNeg)) + (((I2 49 (((nI 24) + x1)).toNatClampNeg) - (I3 49 (((nI 51) + r3)).toNatClampNeg)) * (I3 56 ((x0 - x0 / (nI 16) * (nI 16))).toNatClampNeg)))), none, some (.int (((((I1 49 (((nI 13) + x1)).toNatClampNeg) - (I2 49 (((nI 46) + r2)).toNatClampNeg)) * ((I1 49 (((nI 13) + x1)).toNatClampNeg) - (I2 49 (((nI 46) + r2)).toNatClampNeg))) + (((I2 49 (((nI 24) + x1)).toNatClampNeg) - (I3 49 (((nI 51) + r3)).toNatClampNeg)) * ((I2 49 (((nI 24) + x1)).toNatClampNeg) - (I3 49 (((nI 51) + r3)).toNatClampNeg)))) * (nI 4)))] [.int (I3 49 (((nI 64) + r1)).toNatClampNeg), .int (I3 49 (((nI 64) + r1)).toNatClampNeg), .int (((((I1 49 (((nI 13) + x1)).toNatClampNeg) - (I2 49 (((nI 46) + r2)).toNatClampNeg)) * ((I1 49 (((nI 13) + x1)).toNatClampNeg) - (I2 49 (((nI 46) + r2)).toNatClampNeg))) + (((I2 49 (((nI 24) + x1)).toNatClampNeg) - (I3 49 (((nI 51) + r3)).toNatClampNeg)) * ((I2 49 (((nI 24) + x1)).toNatClampNeg) - (I3 49 (((nI 51) + r3)).toNatClampNeg)))) * (nI 4))] ((fl, n1, n2, p, q, ad), I3, J3)
            show (((I3 49 (((nI 64) + r1)).toNatClampNeg) * (I3 49 (((nI 64) + r1)).toNatClampNeg)) < (((((I1 49 (((nI 13) + x1)).toNatClampNeg) - (I2 49 (((nI 46) + r2)).toNatClampNeg)) * ((I1 49 (((nI 13) + x1)).toNatClampNeg) - (I2 49 (((nI 46) + r2)).toNatClampNeg))) + (((I2 49 (((nI 24) + x1)).toNatClampNeg) - (I3 49 (((nI 51) + r3)).toNatClampNeg)) * ((I2 49 (((nI 24) + x1)).toNatClampNeg) - (I3 49 (((nI 51) + r3)).toNatClampNeg)))) * (nI 4)) → _) ∧ (¬ ((I3 49 (((nI 64) + r1)).toNatClampNeg) * (I3 49 (((nI 64) + r1)).toNatClampNeg)) < (((((I1 49 (((nI 13) + x1)).toNatClampNeg) - (I2 49 (((nI 46) + r2)).toNatClampNeg)) * ((I1 49 (((nI 13) + x1)).toNatClampNeg) - (I2 49 (((nI 46) + r2)).toNatClampNeg))) + (((I2 49 (((nI 24) + x1)).toNatClampNeg) - (I3 49 (((nI 51) + r3)).toNatClampNeg)) * ((I2 49 (((nI 24) + x1)).toNatClampNeg) - (I3 49 (((nI 51) + r3)).toNatClampNeg)))) * (nI 4)) → _)
            refine ⟨fun c5 => ?_, fun c5 => ?_⟩
            · show mm_u _ _ _ _ _ _ [some (.ref 46), none, none, some (.int r1), none, none, some (.int ((((I1 49 (((nI 13) + x1)).toNatClampNeg) - (I2 49 (((nI 46) + r2)).toNatClampNeg)) * (I3 55 ((x0 - x0 / (nI 16) * (nI 16))).toNatClampNeg)) + (((I2 49 (((nI 24) + x1)).toNatClampNeg) - (I3 49 (((nI 51) + r3)).toNatClampNeg)) * (I3 56 ((x0 - x0 / (nI 16) * (nI 16))).toNatClampNeg)))), none, some (.int (((((I1 49 (((nI 13) + x1)).toNatClampNeg) - (I2 49 (((nI 46) + r2)).toNatClampNeg)) * ((I1 49 (((nI 13) + x1)).toNatClampNeg) - (I2 49 (((nI 46) + r2)).toNatClampNeg))) + (((I2 49 (((nI 24) + x1)).toNatClampNeg) - (I3 49 (((nI 51) + r3)).toNatClampNeg)) * ((I2 49 (((nI 24) + x1)).toNatClampNeg) - (I3 49 (((nI 51) + r3)).toNatClampNeg)))) * (nI 4)))] [] ((fl, n1, n2, p, q, ad), I3, J3)
              show (((nI 0) : Int32) = 0 ∨ ((nI 0) : Int32) = 1) ∧ _
              refine ⟨(by decide), ?_⟩
              exact ((((((h3.2.1 c0).2.2.2.2.2.2 c1).2 c2).2 c3).2.2 c4).2.2.1 c5)
            · show mm_b _ _ _ _ _ [some (.ref 46), none, none, some (.int r1), none, none, some (.int ((((I1 49 (((nI 13) + x1)).toNatClampNeg) - (I2 49 (((nI 46) + r2)).toNatClampNeg)) * (I3 55 ((x0 - x0 / (nI 16) * (nI 16))).toNatClampNeg)) + (((I2 49 (((nI 24) + x1)).toNatClampNeg) - (I3 49 (((nI 51) + r3)).toNatClampNeg)) * (I3 56 ((x0 - x0 / (nI 16) * (nI 16))).toNatClampNeg)))), none, some (.int (((((I1 49 (((nI 13) + x1)).toNatClampNeg) - (I2 49 (((nI 46) + r2)).toNatClampNeg)) * ((I1 49 (((nI 13) + x1)).toNatClampNeg) - (I2 49 (((nI 46) + r2)).toNatClampNeg))) + (((I2 49 (((nI 24) + x1)).toNatClampNeg) - (I3 49 (((nI 51) + r3)).toNatClampNeg)) * ((I2 49 (((nI 24) + x1)).toNatClampNeg) - (I3 49 (((nI 51) + r3)).toNatClampNeg)))) * (nI 4)))] [] ((fl, n1, n2, p, q, ad), I3, J3)
              show (((nI 1) : Int32) = 0 ∨ ((nI 1) : Int32) = 1) ∧ _
              refine ⟨(by decide), ?_⟩
              exact ((((((h3.2.1 c0).2.2.2.2.2.2 c1).2 c2).2 c3).2.2 c4).2.2.2 c5)
  · show mm_b _ _ _ _ _ [some (.ref 46), some (.int x0), some (.int x1), some (.int r1), some (.int ((I1 49 (((nI 13) + x1)).toNatClampNeg) - (I2 49 (((nI 46) + r2)).toNatClampNeg))), some (.int ((I2 49 (((nI 24) + x1)).toNatClampNeg) - (I3 49 (((nI 51) + r3)).toNatClampNeg))), none, none, none] [] ((fl, n1, n2, p, q, ad), I3, J3)
    show (¬ ((I2 49 (((nI 24) + x1)).toNatClampNeg) - (I3 49 (((nI 51) + r3)).toNatClampNeg)) = (nI 0) → _) ∧ (((I2 49 (((nI 24) + x1)).toNatClampNeg) - (I3 49 (((nI 51) + r3)).toNatClampNeg)) = (nI 0) → _)
    refine ⟨fun c1 => ?_, fun c1 => ?_⟩
    · show mm_u _ _ _ _ _ _ [some (.ref 46), some (.int x0), some (.int x1), some (.int r1), some (.int ((I1 49 (((nI 13) + x1)).toNatClampNeg) - (I2 49 (((nI 46) + r2)).toNatClampNeg))), some (.int ((I2 49 (((nI 24) + x1)).toNatClampNeg) - (I3 49 (((nI 51) + r3)).toNatClampNeg))), none, none, none] [] ((fl, n1, n2, p, q, ad), I3, J3)
      show (¬ ((nI 16) : Int32) = 0) ∧ _
      refine ⟨(by decide), ?_⟩
      show mm_b _ _ _ _ _ [some (.ref 46), some (.int x0), some (.int x1), some (.int r1), some (.int ((I1 49 (((nI 13) + x1)).toNatClampNeg) - (I2 49 (((nI 46) + r2)).toNatClampNeg))), some (.int ((I2 49 (((nI 24) + x1)).toNatClampNeg) - (I3 49 (((nI 51) + r3)).toNatClampNeg))), none, none, none] [.int (x0 - x0 / (nI 16) * (nI 16)), .ref 55, .int ((I1 49 (((nI 13) + x1)).toNatClampNeg) - (I2 49 (((nI 46) + r2)).toNatClampNeg))] ((fl, n1, n2, p, q, ad), I3, J3)
      show vp_in (x0 - x0 / (nI 16) * (nI 16)) 16 ∧ _
      refine ⟨((h3.2.2 c0).1 c1).1, ?_⟩
      show mm_b _ _ _ _ _ [some (.ref 46), some (.int x0), some (.int x1), some (.int r1), some (.int ((I1 49 (((nI 13) + x1)).toNatClampNeg) - (I2 49 (((nI 46) + r2)).toNatClampNeg))), some (.int ((I2 49 (((nI 24) + x1)).toNatClampNeg) - (I3 49 (((nI 51) + r3)).toNatClampNeg))), none, none, none] [.int (I3 55 ((x0 - x0 / (nI 16) * (nI 16))).toNatClampNeg), .int ((I1 49 (((nI 13) + x1)).toNatClampNeg) - (I2 49 (((nI 46) + r2)).toNatClampNeg))] ((fl, n1, n2, p, q, ad), I3, J3)
      show (¬ ((nI 16) : Int32) = 0) ∧ _
      refine ⟨(by decide), ?_⟩
      show mm_b _ _ _ _ _ [some (.ref 46), some (.int x0), some (.int x1), some (.int r1), some (.int ((I1 49 (((nI 13) + x1)).toNatClampNeg) - (I2 49 (((nI 46) + r2)).toNatClampNeg))), some (.int ((I2 49 (((nI 24) + x1)).toNatClampNeg) - (I3 49 (((nI 51) + r3)).toNatClampNeg))), none, none, none] [.int (x0 - x0 / (nI 16) * (nI 16)), .ref 56, .int ((I2 49 (((nI 24) + x1)).toNatClampNeg) - (I3 49 (((nI 51) + r3)).toNatClampNeg)), .int (((I1 49 (((nI 13) + x1)).toNatClampNeg) - (I2 49 (((nI 46) + r2)).toNatClampNeg)) * (I3 55 ((x0 - x0 / (nI 16) * (nI 16))).toNatClampNeg))] ((fl, n1, n2, p, q, ad), I3, J3)
      show vp_in (x0 - x0 / (nI 16) * (nI 16)) 16 ∧ _
      refine ⟨((h3.2.2 c0).1 c1).2.1, ?_⟩
      show mm_b _ _ _ _ _ [some (.ref 46), some (.int x0), some (.int x1), some (.int r1), some (.int ((I1 49 (((nI 13) + x1)).toNatClampNeg) - (I2 49 (((nI 46) + r2)).toNatClampNeg))), some (.int ((I2 49 (((nI 24) + x1)).toNatClampNeg) - (I3 49 (((nI 51) + r3)).toNatClampNeg))), none, none, none] [.int (I3 56 ((x0 - x0 / (nI 16) * (nI 16))).toNatClampNeg), .int ((I2 49 (((nI 24) + x1)).toNatClampNeg) - (I3 49 (((nI 51) + r3)).toNatClampNeg)), .int (((I1 49 (((nI 13) + x1)).toNatClampNeg) - (I2 49 (((nI 46) + r2)).toNatClampNeg)) * (I3 55 ((x0 - x0 / (nI 16) * (nI 16))).toNatClampNeg))] ((fl, n1, n2, p, q, ad), I3, J3)
      show (¬ ((nI 16) : Int32) = 0) ∧ _
      refine ⟨(by decide), ?_⟩
      show mm_b _ _ _ _ _ [some (.ref 46), some (.int x0), some (.int x1), some (.int r1), some (.int ((I1 49 (((nI 13) + x1)).toNatClampNeg) - (I2 49 (((nI 46) + r2)).toNatClampNeg))), some (.int ((I2 49 (((nI 24) + x1)).toNatClampNeg) - (I3 49 (((nI 51) + r3)).toNatClampNeg))), some (.int ((((I1 49 (((nI 13) + x1)).toNatClampNeg) - (I2 49 (((nI 46) + r2)).toNatClampNeg)) * (I3 55 ((x0 - x0 / (nI 16) * (nI 16))).toNatClampNeg)) + (((I2 49 (((nI 24) + x1)).toNatClampNeg) - (I3 49 (((nI 51) + r3)).toNatClampNeg)) * (I3 56 ((x0 - x0 / (nI 16) * (nI 16))).toNatClampNeg)))), none, none] [.int (x0 - x0 / (nI 16) * (nI 16)), .ref 55] ((fl, n1, n2, p, q, ad), I3, J3)
      show vp_in (x0 - x0 / (nI 16) * (nI 16)) 16 ∧ _
      refine ⟨((h3.2.2 c0).1 c1).2.2.1, ?_⟩
      show mm_b _ _ _ _ _ [some (.ref 46), some (.int x0), some (.int x1), some (.int r1), some (.int ((I1 49 (((nI 13) + x1)).toNatClampNeg) - (I2 49 (((nI 46) + r2)).toNatClampNeg))), some (.int ((I2 49 (((nI 24) + x1)).toNatClampNeg) - (I3 49 (((nI 51) + r3)).toNatClampNeg))), some (.int ((((I1 49 (((nI 13) + x1)).toNatClampNeg) - (I2 49 (((nI 46) + r2)).toNatClampNeg)) * (I3 55 ((x0 - x0 / (nI 16) * (nI 16))).toNatClampNeg)) + (((I2 49 (((nI 24) + x1)).toNatClampNeg) - (I3 49 (((nI 51) + r3)).toNatClampNeg)) * (I3 56 ((x0 - x0 / (nI 16) * (nI 16))).toNatClampNeg)))), none, none] [.int (I3 55 ((x0 - x0 / (nI 16) * (nI 16))).toNatClampNeg)] ((fl, n1, n2, p, q, ad), I3, J3)
      show (¬ ((nI 16) : Int32) = 0) ∧ _
      refine ⟨(by decide), ?_⟩
      show mm_b _ _ _ _ _ [some (.ref 46), some (.int x0), some (.int x1), some (.int r1), some (.int ((I1 49 (((nI 13) + x1)).toNatClampNeg) - (I2 49 (((nI 46) + r2)).toNatClampNeg))), some (.int ((I2 49 (((nI 24) + x1)).toNatClampNeg) - (I3 49 (((nI 51) + r3)).toNatClampNeg))), some (.int ((((I1 49 (((nI 13) + x1)).toNatClampNeg) - (I2 49 (((nI 46) + r2)).toNatClampNeg)) * (I3 55 ((x0 - x0 / (nI 16) * (nI 16))).toNatClampNeg)) + (((I2 49 (((nI 24) + x1)).toNatClampNeg) - (I3 49 (((nI 51) + r3)).toNatClampNeg)) * (I3 56 ((x0 - x0 / (nI 16) * (nI 16))).toNatClampNeg)))), none, none] [.int (x0 - x0 / (nI 16) * (nI 16)), .ref 56, .int ((I3 55 ((x0 - x0 / (nI 16) * (nI 16))).toNatClampNeg) * ((I2 49 (((nI 24) + x1)).toNatClampNeg) - (I3 49 (((nI 51) + r3)).toNatClampNeg)))] ((fl, n1, n2, p, q, ad), I3, J3)
      show vp_in (x0 - x0 / (nI 16) * (nI 16)) 16 ∧ _
      refine ⟨((h3.2.2 c0).1 c1).2.2.2.1, ?_⟩
      show mm_b _ _ _ _ _ [some (.ref 46), some (.int x0), some (.int x1), some (.int r1), some (.int ((I1 49 (((nI 13) + x1)).toNatClampNeg) - (I2 49 (((nI 46) + r2)).toNatClampNeg))), some (.int ((I2 49 (((nI 24) + x1)).toNatClampNeg) - (I3 49 (((nI 51) + r3)).toNatClampNeg))), some (.int ((((I1 49 (((nI 13) + x1)).toNatClampNeg) - (I2 49 (((nI 46) + r2)).toNatClampNeg)) * (I3 55 ((x0 - x0 / (nI 16) * (nI 16))).toNatClampNeg)) + (((I2 49 (((nI 24) + x1)).toNatClampNeg) - (I3 49 (((nI 51) + r3)).toNatClampNeg)) * (I3 56 ((x0 - x0 / (nI 16) * (nI 16))).toNatClampNeg)))), none, none] [.int (I3 56 ((x0 - x0 / (nI 16) * (nI 16))).toNatClampNeg), .int ((I3 55 ((x0 - x0 / (nI 16) * (nI 16))).toNatClampNeg) * ((I2 49 (((nI 24) + x1)).toNatClampNeg) - (I3 49 (((nI 51) + r3)).toNatClampNeg)))] ((fl, n1, n2, p, q, ad), I3, J3)
      show vp_in ((nI 35) + x1) 279 ∧ _
      refine ⟨((h3.2.2 c0).1 c1).2.2.2.2.1, ?_⟩
      show mm_b _ _ _ _ _ [some (.ref 46), some (.int x0), some (.int x1), some (.int r1), some (.int ((I1 49 (((nI 13) + x1)).toNatClampNeg) - (I2 49 (((nI 46) + r2)).toNatClampNeg))), some (.int ((I2 49 (((nI 24) + x1)).toNatClampNeg) - (I3 49 (((nI 51) + r3)).toNatClampNeg))), some (.int ((((I1 49 (((nI 13) + x1)).toNatClampNeg) - (I2 49 (((nI 46) + r2)).toNatClampNeg)) * (I3 55 ((x0 - x0 / (nI 16) * (nI 16))).toNatClampNeg)) + (((I2 49 (((nI 24) + x1)).toNatClampNeg) - (I3 49 (((nI 51) + r3)).toNatClampNeg)) * (I3 56 ((x0 - x0 / (nI 16) * (nI 16))).toNatClampNeg)))), some (.int (((I3 55 ((x0 - x0 / (nI 16) * (nI 16))).toNatClampNeg) * ((I2 49 (((nI 24) + x1)).toNatClampNeg) - (I3 49 (((nI 51) + r3)).toNatClampNeg))) - ((I3 56 ((x0 - x0 / (nI 16) * (nI 16))).toNatClampNeg) * ((I1 49 (((nI 13) + x1)).toNatClampNeg) - (I2 49 (((nI 46) + r2)).toNatClampNeg))))), none] [.int (I3 49 (((nI 35) + x1)).toNatClampNeg), .int ((((I1 49 (((nI 13) + x1)).toNatClampNeg) - (I2 49 (((nI 46) + r2)).toNatClampNeg)) * ((I1 49 (((nI 13) + x1)).toNatClampNeg) - (I2 49 (((nI 46) + r2)).toNatClampNeg))) + (((I2 49 (((nI 24) + x1)).toNatClampNeg) - (I3 49 (((nI 51) + r3)).toNatClampNeg)) * ((I2 49 (((nI 24) + x1)).toNatClampNeg) - (I3 49 (((nI 51) + r3)).toNatClampNeg))))] ((fl, n1, n2, p, q, ad), I3, J3)
      show (¬ (I3 49 (((nI 35) + x1)).toNatClampNeg) = (nI 1) → _) ∧ ((I3 49 (((nI 35) + x1)).toNatClampNeg) = (nI 1) → _)
      refine ⟨fun c2 => ?_, fun c2 => ?_⟩
      · show mm_u _ _ _ _ _ _ [some (.ref 46), some (.int x0), some (.int x1), some (.int r1), some (.int ((I1 49 (((nI 13) + x1)).toNatClampNeg) - (I2 49 (((nI 46) + r2)).toNatClampNeg))), some (.int ((I2 49 (((nI 24) + x1)).toNatClampNeg) - (I3 49 (((nI 51) + r3)).toNatClampNeg))), some (.int ((((I1 49 (((nI 13) + x1)).toNatClampNeg) - (I2 49 (((nI 46) + r2)).toNatClampNeg)) * (I3 55 ((x0 - x0 / (nI 16) * (nI 16))).toNatClampNeg)) + (((I2 49 (((nI 24) + x1)).toNatClampNeg) - (I3 49 (((nI 51) + r3)).toNatClampNeg)) * (I3 56 ((x0 - x0 / (nI 16) * (nI 16))).toNatClampNeg)))), some (.int (((I3 55 ((x0 - x0 / (nI 16) * (nI 16))).toNatClampNeg) * ((I2 49 (((nI 24) + x1)).toNatClampNeg) - (I3 49 (((nI 51) + r3)).toNatClampNeg))) - ((I3 56 ((x0 - x0 / (nI 16) * (nI 16))).toNatClampNeg) * ((I1 49 (((nI 13) + x1)).toNatClampNeg) - (I2 49 (((nI 46) + r2)).toNatClampNeg))))), none] [.int ((((I1 49 (((nI 13) + x1)).toNatClampNeg) - (I2 49 (((nI 46) + r2)).toNatClampNeg)) * ((I1 49 (((nI 13) + x1)).toNatClampNeg) - (I2 49 (((nI 46) + r2)).toNatClampNeg))) + (((I2 49 (((nI 24) + x1)).toNatClampNeg) - (I3 49 (((nI 51) + r3)).toNatClampNeg)) * ((I2 49 (((nI 24) + x1)).toNatClampNeg) - (I3 49 (((nI 51) + r3)).toNatClampNeg))))] ((fl, n1, n2, p, q, ad), I3, J3)
        show (((((I1 49 (((nI 13) + x1)).toNatClampNeg) - (I2 49 (((nI 46) + r2)).toNatClampNeg)) * (I3 55 ((x0 - x0 / (nI 16) * (nI 16))).toNatClampNeg)) + (((I2 49 (((nI 24) + x1)).toNatClampNeg) - (I3 49 (((nI 51) + r3)).toNatClampNeg)) * (I3 56 ((x0 - x0 / (nI 16) * (nI 16))).toNatClampNeg))) ≤ (nI 0) → _) ∧ (¬ ((((I1 49 (((nI 13) + x1)).toNatClampNeg) - (I2 49 (((nI 46) + r2)).toNatClampNeg)) * (I3 55 ((x0 - x0 / (nI 16) * (nI 16))).toNatClampNeg)) + (((I2 49 (((nI 24) + x1)).toNatClampNeg) - (I3 49 (((nI 51) + r3)).toNatClampNeg)) * (I3 56 ((x0 - x0 / (nI 16) * (nI 16))).toNatClampNeg))) ≤ (nI 0) → _)
        refine ⟨fun c3 => ?_, fun c3 => ?_⟩
        · show mm_u _ _ _ _ _ _ [some (.ref 46), none, none, some (.int r1), none, none, some (.int ((((I1 49 (((nI 13) + x1)).toNatClampNeg) - (I2 49 (((nI 46) + r2)).toNatClampNeg)) * (I3 55 ((x0 - x0 / (nI 16) * (nI 16))).toNatClampNeg)) + (((I2 49 (((nI 24) + x1)).toNatClampNeg) - (I3 49 (((nI 51) + r3)).toNatClampNeg)) * (I3 56 ((x0 - x0 / (nI 16) * (nI 16))).toNatClampNeg)))), some (.int (((I3 55 ((x0 - x0 / (nI 16) * (nI 16))).toNatClampNeg) * ((I2 49 (((nI 24) + x1)).toNatClampNeg) - (I3 49 (((nI 51) + r3)).toNatClampNeg))) - ((I3 56 ((x0 - x0 / (nI 16) * (nI 16))).toNatClampNeg) * ((I1 49 (((nI 13) + x1)).toNatClampNeg) - (I2 49 (((nI 46) + r2)).toNatClampNeg))))), some (.int (((((I1 49 (((nI 13) + x1)).toNatClampNeg) - (I2 49 (((nI 46) + r2)).toNatClampNeg)) * ((I1 49 (((nI 13) + x1)).toNatClampNeg) - (I2 49 (((nI 46) + r2)).toNatClampNeg))) + (((I2 49 (((nI 24) + x1)).toNatClampNeg) - (I3 49 (((nI 51) + r3)).toNatClampNeg)) * ((I2 49 (((nI 24) + x1)).toNatClampNeg) - (I3 49 (((nI 51) + r3)).toNatClampNeg)))) * (nI 1)))] [] ((fl, n1, n2, p, q, ad), I3, J3)
          show (((nI 0) : Int32) = 0 ∨ ((nI 0) : Int32) = 1) ∧ _
          refine ⟨(by decide), ?_⟩
          exact ((((h3.2.2 c0).1 c1).2.2.2.2.2.1 c2).1 c3)
        · show mm_b _ _ _ _ _ [some (.ref 46), none, none, some (.int r1), none, none, some (.int ((((I1 49 (((nI 13) + x1)).toNatClampNeg) - (I2 49 (((nI 46) + r2)).toNatClampNeg)) * (I3 55 ((x0 - x0 / (nI 16) * (nI 16))).toNatClampNeg)) + (((I2 49 (((nI 24) + x1)).toNatClampNeg) - (I3 49 (((nI 51) + r3)).toNatClampNeg)) * (I3 56 ((x0 - x0 / (nI 16) * (nI 16))).toNatClampNeg)))), some (.int (((I3 55 ((x0 - x0 / (nI 16) * (nI 16))).toNatClampNeg) * ((I2 49 (((nI 24) + x1)).toNatClampNeg) - (I3 49 (((nI 51) + r3)).toNatClampNeg))) - ((I3 56 ((x0 - x0 / (nI 16) * (nI 16))).toNatClampNeg) * ((I1 49 (((nI 13) + x1)).toNatClampNeg) - (I2 49 (((nI 46) + r2)).toNatClampNeg))))), some (.int (((((I1 49 (((nI 13) + x1)).toNatClampNeg) - (I2 49 (((nI 46) + r2)).toNatClampNeg)) * ((I1 49 (((nI 13) + x1)).toNatClampNeg) - (I2 49 (((nI 46) + r2)).toNatClampNeg))) + (((I2 49 (((nI 24) + x1)).toNatClampNeg) - (I3 49 (((nI 51) + r3)).toNatClampNeg)) * ((I2 49 (((nI 24) + x1)).toNatClampNeg) - (I3 49 (((nI 51) + r3)).toNatClampNeg)))) * (nI 1)))] [] ((fl, n1, n2, p, q, ad), I3, J3)
          show ((nI 0) ≤ (((I3 55 ((x0 - x0 / (nI 16) * (nI 16))).toNatClampNeg) * ((I2 49 (((nI 24) + x1)).toNatClampNeg) - (I3 49 (((nI 51) + r3)).toNatClampNeg))) - ((I3 56 ((x0 - x0 / (nI 16) * (nI 16))).toNatClampNeg) * ((I1 49 (((nI 13) + x1)).toNatClampNeg) - (I2 49 (((nI 46) + r2)).toNatClampNeg)))) → _) ∧ (¬ (nI 0) ≤ (((I3 55 ((x0 - x0 / (nI 16) * (nI 16))).toNatClampNeg) * ((I2 49 (((nI 24) + x1)).toNatClampNeg) - (I3 49 (((nI 51) + r3)).toNatClampNeg))) - ((I3 56 ((x0 - x0 / (nI 16) * (nI 16))).toNatClampNeg) * ((I1 49 (((nI 13) + x1)).toNatClampNeg) - (I2 49 (((nI 46) + r2)).toNatClampNeg)))) → _)
          refine ⟨fun c4 => ?_, fun c4 => ?_⟩
          · show mm_u _ _ _ _ _ _ [some (.ref 46), none, none, some (.int r1), none, none, some (.int ((((I1 49 (((nI 13) + x1)).toNatClampNeg) - (I2 49 (((nI 46) + r2)).toNatClampNeg)) * (I3 55 ((x0 - x0 / (nI 16) * (nI 16))).toNatClampNeg)) + (((I2 49 (((nI 24) + x1)).toNatClampNeg) - (I3 49 (((nI 51) + r3)).toNatClampNeg)) * (I3 56 ((x0 - x0 / (nI 16) * (nI 16))).toNatClampNeg)))), some (.int (((I3 55 ((x0 - x0 / (nI 16) * (nI 16))).toNatClampNeg) * ((I2 49 (((nI 24) + x1)).toNatClampNeg) - (I3 49 (((nI 51) + r3)).toNatClampNeg))) - ((I3 56 ((x0 - x0 / (nI 16) * (nI 16))).toNatClampNeg) * ((I1 49 (((nI 13) + x1)).toNatClampNeg) - (I2 49 (((nI 46) + r2)).toNatClampNeg))))), some (.int (((((I1 49 (((nI 13) + x1)).toNatClampNeg) - (I2 49 (((nI 46) + r2)).toNatClampNeg)) * ((I1 49 (((nI 13) + x1)).toNatClampNeg) - (I2 49 (((nI 46) + r2)).toNatClampNeg))) + (((I2 49 (((nI 24) + x1)).toNatClampNeg) - (I3 49 (((nI 51) + r3)).toNatClampNeg)) * ((I2 49 (((nI 24) + x1)).toNatClampNeg) - (I3 49 (((nI 51) + r3)).toNatClampNeg)))) * (nI 1)))] [.int (nI 10)] ((fl, n1, n2, p, q, ad), I3, J3)
            show vp_in ((nI 68) + r1) 279 ∧ _
            refine ⟨(((((h3.2.2 c0).1 c1).2.2.2.2.2.1 c2).2 c3).1 c4).1, ?_⟩
            show mm_b _ _ _ _ _ [some (.ref 46), none, none, some (.int r1), none, none, some (.int ((((I1 49 (((nI 13) + x1)).toNatClampNeg) - (I2 49 (((nI 46) + r2)).toNatClampNeg)) * (I3 55 ((x0 - x0 / (nI 16) * (nI 16))).toNatClampNeg)) + (((I2 49 (((nI 24) + x1)).toNatClampNeg) - (I3 49 (((nI 51) + r3)).toNatClampNeg)) * (I3 56 ((x0 - x0 / (nI 16) * (nI 16))).toNatClampNeg)))), none, some (.int (((((I1 49 (((nI 13) + x1)).toNatClampNeg) - (I2 49 (((nI 46) + r2)).toNatClampNeg)) * ((I1 49 (((nI 13) + x1)).toNatClampNeg) - (I2 49 (((nI 46) + r2)).toNatClampNeg))) + (((I2 49 (((nI 24) + x1)).toNatClampNeg) - (I3 49 (((nI 51) + r3)).toNatClampNeg)) * ((I2 49 (((nI 24) + x1)).toNatClampNeg) - (I3 49 (((nI 51) + r3)).toNatClampNeg)))) * (nI 1)))] [.int (I3 49 (((nI 68) + r1)).toNatClampNeg), .int ((nI 10) * (((I3 55 ((x0 - x0 / (nI 16) * (nI 16))).toNatClampNeg) * ((I2 49 (((nI 24) + x1)).toNatClampNeg) - (I3 49 (((nI 51) + r3)).toNatClampNeg))) - ((I3 56 ((x0 - x0 / (nI 16) * (nI 16))).toNatClampNeg) * ((I1 49 (((nI 13) + x1)).toNatClampNeg) - (I2 49 (((nI 46) + r2)).toNatClampNeg)))))] ((fl, n1, n2, p, q, ad), I3, J3)
            show (((I3 49 (((nI 68) + r1)).toNatClampNeg) * ((((I1 49 (((nI 13) + x1)).toNatClampNeg) - (I2 49 (((nI 46) + r2)).toNatClampNeg)) * (I3 55 ((x0 - x0 / (nI 16) * (nI 16))).toNatClampNeg)) + (((I2 49 (((nI 24) + x1)).toNatClampNeg) - (I3 49 (((nI 51) + r3)).toNatClampNeg)) * (I3 56 ((x0 - x0 / (nI 16) * (nI 16))).toNatClampNeg)))) < ((nI 10) * (((I3 55 ((x0 - x0 / (nI 16) * (nI 16))).toNatClampNeg) * ((I2 49 (((nI 24) + x1)).toNatClampNeg) - (I3 49 (((nI 51) + r3)).toNatClampNeg))) - ((I3 56 ((x0 - x0 / (nI 16) * (nI 16))).toNatClampNeg) * ((I1 49 (((nI 13) + x1)).toNatClampNeg) - (I2 49 (((nI 46) + r2)).toNatClampNeg))))) → _) ∧ (¬ ((I3 49 (((nI 68) + r1)).toNatClampNeg) * ((((I1 49 (((nI 13) + x1)).toNatClampNeg) - (I2 49 (((nI 46) + r2)).toNatClampNeg)) * (I3 55 ((x0 - x0 / (nI 16) * (nI 16))).toNatClampNeg)) + (((I2 49 (((nI 24) + x1)).toNatClampNeg) - (I3 49 (((nI 51) + r3)).toNatClampNeg)) * (I3 56 ((x0 - x0 / (nI 16) * (nI 16))).toNatClampNeg)))) < ((nI 10) * (((I3 55 ((x0 - x0 / (nI 16) * (nI 16))).toNatClampNeg) * ((I2 49 (((nI 24) + x1)).toNatClampNeg) - (I3 49 (((nI 51) + r3)).toNatClampNeg))) - ((I3 56 ((x0 - x0 / (nI 16) * (nI 16))).toNatClampNeg) * ((I1 49 (((nI 13) + x1)).toNatClampNeg) - (I2 49 (((nI 46) + r2)).toNatClampNeg))))) → _)
            refine ⟨fun c5 => ?_, fun c5 => ?_⟩
            · show mm_u _ _ _ _ _ _ [some (.ref 46), none, none, some (.int r1), none, none, some (.int ((((I1 49 (((nI 13) + x1)).toNatClampNeg) - (I2 49 (((nI 46) + r2)).toNatClampNeg)) * (I3 55 ((x0 - x0 / (nI 16) * (nI 16))).toNatClampNeg)) + (((I2 49 (((nI 24) + x1)).toNatClampNeg) - (I3 49 (((nI 51) + r3)).toNatClampNeg)) * (I3 56 ((x0 - x0 / (nI 16) * (nI 16))).toNatClampNeg)))), none, some (.int (((((I1 49 (((nI 13) + x1)).toNatClampNeg) - (I2 49 (((nI 46) + r2)).toNatClampNeg)) * ((I1 49 (((nI 13) + x1)).toNatClampNeg) - (I2 49 (((nI 46) + r2)).toNatClampNeg))) + (((I2 49 (((nI 24) + x1)).toNatClampNeg) - (I3 49 (((nI 51) + r3)).toNatClampNeg)) * ((I2 49 (((nI 24) + x1)).toNatClampNeg) - (I3 49 (((nI 51) + r3)).toNatClampNeg)))) * (nI 1)))] [] ((fl, n1, n2, p, q, ad), I3, J3)
              show (((nI 0) : Int32) = 0 ∨ ((nI 0) : Int32) = 1) ∧ _
              refine ⟨(by decide), ?_⟩
              exact ((((((h3.2.2 c0).1 c1).2.2.2.2.2.1 c2).2 c3).1 c4).2.1 c5)
            · show mm_b _ _ _ _ _ [some (.ref 46), none, none, some (.int r1), none, none, some (.int ((((I1 49 (((nI 13) + x1)).toNatClampNeg) - (I2 49 (((nI 46) + r2)).toNatClampNeg)) * (I3 55 ((x0 - x0 / (nI 16) * (nI 16))).toNatClampNeg)) + (((I2 49 (((nI 24) + x1)).toNatClampNeg) - (I3 49 (((nI 51) + r3)).toNatClampNeg)) * (I3 56 ((x0 - x0 / (nI 16) * (nI 16))).toNatClampNeg)))), none, some (.int (((((I1 49 (((nI 13) + x1)).toNatClampNeg) - (I2 49 (((nI 46) + r2)).toNatClampNeg)) * ((I1 49 (((nI 13) + x1)).toNatClampNeg) - (I2 49 (((nI 46) + r2)).toNatClampNeg))) + (((I2 49 (((nI 24) + x1)).toNatClampNeg) - (I3 49 (((nI 51) + r3)).toNatClampNeg)) * ((I2 49 (((nI 24) + x1)).toNatClampNeg) - (I3 49 (((nI 51) + r3)).toNatClampNeg)))) * (nI 1)))] [] ((fl, n1, n2, p, q, ad), I3, J3)
              show vp_in ((nI 64) + r1) 279 ∧ _
              refine ⟨((((((h3.2.2 c0).1 c1).2.2.2.2.2.1 c2).2 c3).1 c4).2.2 c5).1, ?_⟩
              show mm_b _ _ _ _ _ [some (.ref 46), none, none, some (.int r1), none, none, some (.int ((((I1 49 (((nI 13) + x1)).toNatClampNeg) - (I2 49 (((nI 46) + r2)).toNatClampNeg)) * (I3 55 ((x0 - x0 / (nI 16) * (nI 16))).toNatClampNeg)) + (((I2 49 (((nI 24) + x1)).toNatClampNeg) - (I3 49 (((nI 51) + r3)).toNatClampNeg)) * (I3 56 ((x0 - x0 / (nI 16) * (nI 16))).toNatClampNeg)))), none, some (.int (((((I1 49 (((nI 13) + x1)).toNatClampNeg) - (I2 49 (((nI 46) + r2)).toNatClampNeg)) * ((I1 49 (((nI 13) + x1)).toNatClampNeg) - (I2 49 (((nI 46) + r2)).toNatClampNeg))) + (((I2 49 (((nI 24) + x1)).toNatClampNeg) - (I3 49 (((nI 51) + r3)).toNatClampNeg)) * ((I2 49 (((nI 24) + x1)).toNatClampNeg) - (I3 49 (((nI 51) + r3)).toNatClampNeg)))) * (nI 1)))] [.int (I3 49 (((nI 64) + r1)).toNatClampNeg), .int (((((I1 49 (((nI 13) + x1)).toNatClampNeg) - (I2 49 (((nI 46) + r2)).toNatClampNeg)) * ((I1 49 (((nI 13) + x1)).toNatClampNeg) - (I2 49 (((nI 46) + r2)).toNatClampNeg))) + (((I2 49 (((nI 24) + x1)).toNatClampNeg) - (I3 49 (((nI 51) + r3)).toNatClampNeg)) * ((I2 49 (((nI 24) + x1)).toNatClampNeg) - (I3 49 (((nI 51) + r3)).toNatClampNeg)))) * (nI 1))] ((fl, n1, n2, p, q, ad), I3, J3)
              show vp_in ((nI 64) + r1) 279 ∧ _
              refine ⟨((((((h3.2.2 c0).1 c1).2.2.2.2.2.1 c2).2 c3).1 c4).2.2 c5).2.1, ?_⟩
              show mm_b _ _ _ _ _ [some (.ref 46), none, none, some (.int r1), none, none, some (.int ((((I1 49 (((nI 13) + x1)).toNatClampNeg) - (I2 49 (((nI 46) + r2)).toNatClampNeg)) * (I3 55 ((x0 - x0 / (nI 16) * (nI 16))).toNatClampNeg)) + (((I2 49 (((nI 24) + x1)).toNatClampNeg) - (I3 49 (((nI 51) + r3)).toNatClampNeg)) * (I3 56 ((x0 - x0 / (nI 16) * (nI 16))).toNatClampNeg)))), none, some (.int (((((I1 49 (((nI 13) + x1)).toNatClampNeg) - (I2 49 (((nI 46) + r2)).toNatClampNeg)) * ((I1 49 (((nI 13) + x1)).toNatClampNeg) - (I2 49 (((nI 46) + r2)).toNatClampNeg))) + (((I2 49 (((nI 24) + x1)).toNatClampNeg) - (I3 49 (((nI 51) + r3)).toNatClampNeg)) * ((I2 49 (((nI 24) + x1)).toNatClampNeg) - (I3 49 (((nI 51) + r3)).toNatClampNeg)))) * (nI 1)))] [.int (I3 49 (((nI 64) + r1)).toNatClampNeg), .int (I3 49 (((nI 64) + r1)).toNatClampNeg), .int (((((I1 49 (((nI 13) + x1)).toNatClampNeg) - (I2 49 (((nI 46) + r2)).toNatClampNeg)) * ((I1 49 (((nI 13) + x1)).toNatClampNeg) - (I2 49 (((nI 46) + r2)).toNatClampNeg))) + (((I2 49 (((nI 24) + x1)).toNatClampNeg) - (I3 49 (((nI 51) + r3)).toNatClampNeg)) * ((I2 49 (((nI 24) + x1)).toNatClampNeg) - (I3 49 (((nI 51) + r3)).toNatClampNeg)))) * (nI 1))] ((fl, n1, n2, p, q, ad), I3, J3)
              show (((I3 49 (((nI 64) + r1)).toNatClampNeg) * (I3 49 (((nI 64) + r1)).toNatClampNeg)) < (((((I1 49 (((nI 13) + x1)).toNatClampNeg) - (I2 49 (((nI 46) + r2)).toNatClampNeg)) * ((I1 49 (((nI 13) + x1)).toNatClampNeg) - (I2 49 (((nI 46) + r2)).toNatClampNeg))) + (((I2 49 (((nI 24) + x1)).toNatClampNeg) - (I3 49 (((nI 51) + r3)).toNatClampNeg)) * ((I2 49 (((nI 24) + x1)).toNatClampNeg) - (I3 49 (((nI 51) + r3)).toNatClampNeg)))) * (nI 1)) → _) ∧ (¬ ((I3 49 (((nI 64) + r1)).toNatClampNeg) * (I3 49 (((nI 64) + r1)).toNatClampNeg)) < (((((I1 49 (((nI 13) + x1)).toNatClampNeg) - (I2 49 (((nI 46) + r2)).toNatClampNeg)) * ((I1 49 (((nI 13) + x1)).toNatClampNeg) - (I2 49 (((nI 46) + r2)).toNatClampNeg))) + (((I2 49 (((nI 24) + x1)).toNatClampNeg) - (I3 49 (((nI 51) + r3)).toNatClampNeg)) * ((I2 49 (((nI 24) + x1)).toNatClampNeg) - (I3 49 (((nI 51) + r3)).toNatClampNeg)))) * (nI 1)) → _)
              refine ⟨fun c6 => ?_, fun c6 => ?_⟩
              · show mm_u _ _ _ _ _ _ [some (.ref 46), none, none, some (.int r1), none, none, some (.int ((((I1 49 (((nI 13) + x1)).toNatClampNeg) - (I2 49 (((nI 46) + r2)).toNatClampNeg)) * (I3 55 ((x0 - x0 / (nI 16) * (nI 16))).toNatClampNeg)) + (((I2 49 (((nI 24) + x1)).toNatClampNeg) - (I3 49 (((nI 51) + r3)).toNatClampNeg)) * (I3 56 ((x0 - x0 / (nI 16) * (nI 16))).toNatClampNeg)))), none, some (.int (((((I1 49 (((nI 13) + x1)).toNatClampNeg) - (I2 49 (((nI 46) + r2)).toNatClampNeg)) * ((I1 49 (((nI 13) + x1)).toNatClampNeg) - (I2 49 (((nI 46) + r2)).toNatClampNeg))) + (((I2 49 (((nI 24) + x1)).toNatClampNeg) - (I3 49 (((nI 51) + r3)).toNatClampNeg)) * ((I2 49 (((nI 24) + x1)).toNatClampNeg) - (I3 49 (((nI 51) + r3)).toNatClampNeg)))) * (nI 1)))] [] ((fl, n1, n2, p, q, ad), I3, J3)
                show (((nI 0) : Int32) = 0 ∨ ((nI 0) : Int32) = 1) ∧ _
                refine ⟨(by decide), ?_⟩
                exact (((((((h3.2.2 c0).1 c1).2.2.2.2.2.1 c2).2 c3).1 c4).2.2 c5).2.2.1 c6)
              · show mm_b _ _ _ _ _ [some (.ref 46), none, none, some (.int r1), none, none, some (.int ((((I1 49 (((nI 13) + x1)).toNatClampNeg) - (I2 49 (((nI 46) + r2)).toNatClampNeg)) * (I3 55 ((x0 - x0 / (nI 16) * (nI 16))).toNatClampNeg)) + (((I2 49 (((nI 24) + x1)).toNatClampNeg) - (I3 49 (((nI 51) + r3)).toNatClampNeg)) * (I3 56 ((x0 - x0 / (nI 16) * (nI 16))).toNatClampNeg)))), none, some (.int (((((I1 49 (((nI 13) + x1)).toNatClampNeg) - (I2 49 (((nI 46) + r2)).toNatClampNeg)) * ((I1 49 (((nI 13) + x1)).toNatClampNeg) - (I2 49 (((nI 46) + r2)).toNatClampNeg))) + (((I2 49 (((nI 24) + x1)).toNatClampNeg) - (I3 49 (((nI 51) + r3)).toNatClampNeg)) * ((I2 49 (((nI 24) + x1)).toNatClampNeg) - (I3 49 (((nI 51) + r3)).toNatClampNeg)))) * (nI 1)))] [] ((fl, n1, n2, p, q, ad), I3, J3)
                show (((nI 1) : Int32) = 0 ∨ ((nI 1) : Int32) = 1) ∧ _
                refine ⟨(by decide), ?_⟩
                exact (((((((h3.2.2 c0).1 c1).2.2.2.2.2.1 c2).2 c3).1 c4).2.2 c5).2.2.2 c6)
          · show mm_b _ _ _ _ _ [some (.ref 46), none, none, some (.int r1), none, none, some (.int ((((I1 49 (((nI 13) + x1)).toNatClampNeg) - (I2 49 (((nI 46) + r2)).toNatClampNeg)) * (I3 55 ((x0 - x0 / (nI 16) * (nI 16))).toNatClampNeg)) + (((I2 49 (((nI 24) + x1)).toNatClampNeg) - (I3 49 (((nI 51) + r3)).toNatClampNeg)) * (I3 56 ((x0 - x0 / (nI 16) * (nI 16))).toNatClampNeg)))), some (.int (((I3 55 ((x0 - x0 / (nI 16) * (nI 16))).toNatClampNeg) * ((I2 49 (((nI 24) + x1)).toNatClampNeg) - (I3 49 (((nI 51) + r3)).toNatClampNeg))) - ((I3 56 ((x0 - x0 / (nI 16) * (nI 16))).toNatClampNeg) * ((I1 49 (((nI 13) + x1)).toNatClampNeg) - (I2 49 (((nI 46) + r2)).toNatClampNeg))))), some (.int (((((I1 49 (((nI 13) + x1)).toNatClampNeg) - (I2 49 (((nI 46) + r2)).toNatClampNeg)) * ((I1 49 (((nI 13) + x1)).toNatClampNeg) - (I2 49 (((nI 46) + r2)).toNatClampNeg))) + (((I2 49 (((nI 24) + x1)).toNatClampNeg) - (I3 49 (((nI 51) + r3)).toNatClampNeg)) * ((I2 49 (((nI 24) + x1)).toNatClampNeg) - (I3 49 (((nI 51) + r3)).toNatClampNeg)))) * (nI 1)))] [.int (nI 10)] ((fl, n1, n2, p, q, ad), I3, J3)
            show vp_in ((nI 68) + r1) 279 ∧ _
            refine ⟨(((((h3.2.2 c0).1 c1).2.2.2.2.2.1 c2).2 c3).2 c4).1, ?_⟩
            show mm_b _ _ _ _ _ [some (.ref 46), none, none, some (.int r1), none, none, some (.int ((((I1 49 (((nI 13) + x1)).toNatClampNeg) - (I2 49 (((nI 46) + r2)).toNatClampNeg)) * (I3 55 ((x0 - x0 / (nI 16) * (nI 16))).toNatClampNeg)) + (((I2 49 (((nI 24) + x1)).toNatClampNeg) - (I3 49 (((nI 51) + r3)).toNatClampNeg)) * (I3 56 ((x0 - x0 / (nI 16) * (nI 16))).toNatClampNeg)))), none, some (.int (((((I1 49 (((nI 13) + x1)).toNatClampNeg) - (I2 49 (((nI 46) + r2)).toNatClampNeg)) * ((I1 49 (((nI 13) + x1)).toNatClampNeg) - (I2 49 (((nI 46) + r2)).toNatClampNeg))) + (((I2 49 (((nI 24) + x1)).toNatClampNeg) - (I3 49 (((nI 51) + r3)).toNatClampNeg)) * ((I2 49 (((nI 24) + x1)).toNatClampNeg) - (I3 49 (((nI 51) + r3)).toNatClampNeg)))) * (nI 1)))] [.int (I3 49 (((nI 68) + r1)).toNatClampNeg), .int ((nI 10) * (-(((I3 55 ((x0 - x0 / (nI 16) * (nI 16))).toNatClampNeg) * ((I2 49 (((nI 24) + x1)).toNatClampNeg) - (I3 49 (((nI 51) + r3)).toNatClampNeg))) - ((I3 56 ((x0 - x0 / (nI 16) * (nI 16))).toNatClampNeg) * ((I1 49 (((nI 13) + x1)).toNatClampNeg) - (I2 49 (((nI 46) + r2)).toNatClampNeg))))))] ((fl, n1, n2, p, q, ad), I3, J3)
            show (((I3 49 (((nI 68) + r1)).toNatClampNeg) * ((((I1 49 (((nI 13) + x1)).toNatClampNeg) - (I2 49 (((nI 46) + r2)).toNatClampNeg)) * (I3 55 ((x0 - x0 / (nI 16) * (nI 16))).toNatClampNeg)) + (((I2 49 (((nI 24) + x1)).toNatClampNeg) - (I3 49 (((nI 51) + r3)).toNatClampNeg)) * (I3 56 ((x0 - x0 / (nI 16) * (nI 16))).toNatClampNeg)))) < ((nI 10) * (-(((I3 55 ((x0 - x0 / (nI 16) * (nI 16))).toNatClampNeg) * ((I2 49 (((nI 24) + x1)).toNatClampNeg) - (I3 49 (((nI 51) + r3)).toNatClampNeg))) - ((I3 56 ((x0 - x0 / (nI 16) * (nI 16))).toNatClampNeg) * ((I1 49 (((nI 13) + x1)).toNatClampNeg) - (I2 49 (((nI 46) + r2)).toNatClampNeg)))))) → _) ∧ (¬ ((I3 49 (((nI 68) + r1)).toNatClampNeg) * ((((I1 49 (((nI 13) + x1)).toNatClampNeg) - (I2 49 (((nI 46) + r2)).toNatClampNeg)) * (I3 55 ((x0 - x0 / (nI 16) * (nI 16))).toNatClampNeg)) + (((I2 49 (((nI 24) + x1)).toNatClampNeg) - (I3 49 (((nI 51) + r3)).toNatClampNeg)) * (I3 56 ((x0 - x0 / (nI 16) * (nI 16))).toNatClampNeg)))) < ((nI 10) * (-(((I3 55 ((x0 - x0 / (nI 16) * (nI 16))).toNatClampNeg) * ((I2 49 (((nI 24) + x1)).toNatClampNeg) - (I3 49 (((nI 51) + r3)).toNatClampNeg))) - ((I3 56 ((x0 - x0 / (nI 16) * (nI 16))).toNatClampNeg) * ((I1 49 (((nI 13) + x1)).toNatClampNeg) - (I2 49 (((nI 46) + r2)).toNatClampNeg)))))) → _)
            refine ⟨fun c5 => ?_, fun c5 => ?_⟩
            · show mm_u _ _ _ _ _ _ [some (.ref 46), none, none, some (.int r1), none, none, some (.int ((((I1 49 (((nI 13) + x1)).toNatClampNeg) - (I2 49 (((nI 46) + r2)).toNatClampNeg)) * (I3 55 ((x0 - x0 / (nI 16) * (nI 16))).toNatClampNeg)) + (((I2 49 (((nI 24) + x1)).toNatClampNeg) - (I3 49 (((nI 51) + r3)).toNatClampNeg)) * (I3 56 ((x0 - x0 / (nI 16) * (nI 16))).toNatClampNeg)))), none, some (.int (((((I1 49 (((nI 13) + x1)).toNatClampNeg) - (I2 49 (((nI 46) + r2)).toNatClampNeg)) * ((I1 49 (((nI 13) + x1)).toNatClampNeg) - (I2 49 (((nI 46) + r2)).toNatClampNeg))) + (((I2 49 (((nI 24) + x1)).toNatClampNeg) - (I3 49 (((nI 51) + r3)).toNatClampNeg)) * ((I2 49 (((nI 24) + x1)).toNatClampNeg) - (I3 49 (((nI 51) + r3)).toNatClampNeg)))) * (nI 1)))] [] ((fl, n1, n2, p, q, ad), I3, J3)
              show (((nI 0) : Int32) = 0 ∨ ((nI 0) : Int32) = 1) ∧ _
              refine ⟨(by decide), ?_⟩
              exact ((((((h3.2.2 c0).1 c1).2.2.2.2.2.1 c2).2 c3).2 c4).2.1 c5)
            · show mm_b _ _ _ _ _ [some (.ref 46), none, none, some (.int r1), none, none, some (.int ((((I1 49 (((nI 13) + x1)).toNatClampNeg) - (I2 49 (((nI 46) + r2)).toNatClampNeg)) * (I3 55 ((x0 - x0 / (nI 16) * (nI 16))).toNatClampNeg)) + (((I2 49 (((nI 24) + x1)).toNatClampNeg) - (I3 49 (((nI 51) + r3)).toNatClampNeg)) * (I3 56 ((x0 - x0 / (nI 16) * (nI 16))).toNatClampNeg)))), none, some (.int (((((I1 49 (((nI 13) + x1)).toNatClampNeg) - (I2 49 (((nI 46) + r2)).toNatClampNeg)) * ((I1 49 (((nI 13) + x1)).toNatClampNeg) - (I2 49 (((nI 46) + r2)).toNatClampNeg))) + (((I2 49 (((nI 24) + x1)).toNatClampNeg) - (I3 49 (((nI 51) + r3)).toNatClampNeg)) * ((I2 49 (((nI 24) + x1)).toNatClampNeg) - (I3 49 (((nI 51) + r3)).toNatClampNeg)))) * (nI 1)))] [] ((fl, n1, n2, p, q, ad), I3, J3)
              show vp_in ((nI 64) + r1) 279 ∧ _
              refine ⟨((((((h3.2.2 c0).1 c1).2.2.2.2.2.1 c2).2 c3).2 c4).2.2 c5).1, ?_⟩
              show mm_b _ _ _ _ _ [some (.ref 46), none, none, some (.int r1), none, none, some (.int ((((I1 49 (((nI 13) + x1)).toNatClampNeg) - (I2 49 (((nI 46) + r2)).toNatClampNeg)) * (I3 55 ((x0 - x0 / (nI 16) * (nI 16))).toNatClampNeg)) + (((I2 49 (((nI 24) + x1)).toNatClampNeg) - (I3 49 (((nI 51) + r3)).toNatClampNeg)) * (I3 56 ((x0 - x0 / (nI 16) * (nI 16))).toNatClampNeg)))), none, some (.int (((((I1 49 (((nI 13) + x1)).toNatClampNeg) - (I2 49 (((nI 46) + r2)).toNatClampNeg)) * ((I1 49 (((nI 13) + x1)).toNatClampNeg) - (I2 49 (((nI 46) + r2)).toNatClampNeg))) + (((I2 49 (((nI 24) + x1)).toNatClampNeg) - (I3 49 (((nI 51) + r3)).toNatClampNeg)) * ((I2 49 (((nI 24) + x1)).toNatClampNeg) - (I3 49 (((nI 51) + r3)).toNatClampNeg)))) * (nI 1)))] [.int (I3 49 (((nI 64) + r1)).toNatClampNeg), .int (((((I1 49 (((nI 13) + x1)).toNatClampNeg) - (I2 49 (((nI 46) + r2)).toNatClampNeg)) * ((I1 49 (((nI 13) + x1)).toNatClampNeg) - (I2 49 (((nI 46) + r2)).toNatClampNeg))) + (((I2 49 (((nI 24) + x1)).toNatClampNeg) - (I3 49 (((nI 51) + r3)).toNatClampNeg)) * ((I2 49 (((nI 24) + x1)).toNatClampNeg) - (I3 49 (((nI 51) + r3)).toNatClampNeg)))) * (nI 1))] ((fl, n1, n2, p, q, ad), I3, J3)
              show vp_in ((nI 64) + r1) 279 ∧ _
              refine ⟨((((((h3.2.2 c0).1 c1).2.2.2.2.2.1 c2).2 c3).2 c4).2.2 c5).2.1, ?_⟩
              show mm_b _ _ _ _ _ [some (.ref 46), none, none, some (.int r1), none, none, some (.int ((((I1 49 (((nI 13) + x1)).toNatClampNeg) - (I2 49 (((nI 46) + r2)).toNatClampNeg)) * (I3 55 ((x0 - x0 / (nI 16) * (nI 16))).toNatClampNeg)) + (((I2 49 (((nI 24) + x1)).toNatClampNeg) - (I3 49 (((nI 51) + r3)).toNatClampNeg)) * (I3 56 ((x0 - x0 / (nI 16) * (nI 16))).toNatClampNeg)))), none, some (.int (((((I1 49 (((nI 13) + x1)).toNatClampNeg) - (I2 49 (((nI 46) + r2)).toNatClampNeg)) * ((I1 49 (((nI 13) + x1)).toNatClampNeg) - (I2 49 (((nI 46) + r2)).toNatClampNeg))) + (((I2 49 (((nI 24) + x1)).toNatClampNeg) - (I3 49 (((nI 51) + r3)).toNatClampNeg)) * ((I2 49 (((nI 24) + x1)).toNatClampNeg) - (I3 49 (((nI 51) + r3)).toNatClampNeg)))) * (nI 1)))] [.int (I3 49 (((nI 64) + r1)).toNatClampNeg), .int (I3 49 (((nI 64) + r1)).toNatClampNeg), .int (((((I1 49 (((nI 13) + x1)).toNatClampNeg) - (I2 49 (((nI 46) + r2)).toNatClampNeg)) * ((I1 49 (((nI 13) + x1)).toNatClampNeg) - (I2 49 (((nI 46) + r2)).toNatClampNeg))) + (((I2 49 (((nI 24) + x1)).toNatClampNeg) - (I3 49 (((nI 51) + r3)).toNatClampNeg)) * ((I2 49 (((nI 24) + x1)).toNatClampNeg) - (I3 49 (((nI 51) + r3)).toNatClampNeg)))) * (nI 1))] ((fl, n1, n2, p, q, ad), I3, J3)
              show (((I3 49 (((nI 64) + r1)).toNatClampNeg) * (I3 49 (((nI 64) + r1)).toNatClampNeg)) < (((((I1 49 (((nI 13) + x1)).toNatClampNeg) - (I2 49 (((nI 46) + r2)).toNatClampNeg)) * ((I1 49 (((nI 13) + x1)).toNatClampNeg) - (I2 49 (((nI 46) + r2)).toNatClampNeg))) + (((I2 49 (((nI 24) + x1)).toNatClampNeg) - (I3 49 (((nI 51) + r3)).toNatClampNeg)) * ((I2 49 (((nI 24) + x1)).toNatClampNeg) - (I3 49 (((nI 51) + r3)).toNatClampNeg)))) * (nI 1)) → _) ∧ (¬ ((I3 49 (((nI 64) + r1)).toNatClampNeg) * (I3 49 (((nI 64) + r1)).toNatClampNeg)) < (((((I1 49 (((nI 13) + x1)).toNatClampNeg) - (I2 49 (((nI 46) + r2)).toNatClampNeg)) * ((I1 49 (((nI 13) + x1)).toNatClampNeg) - (I2 49 (((nI 46) + r2)).toNatClampNeg))) + (((I2 49 (((nI 24) + x1)).toNatClampNeg) - (I3 49 (((nI 51) + r3)).toNatClampNeg)) * ((I2 49 (((nI 24) + x1)).toNatClampNeg) - (I3 49 (((nI 51) + r3)).toNatClampNeg)))) * (nI 1)) → _)
              refine ⟨fun c6 => ?_, fun c6 => ?_⟩
              · show mm_u _ _ _ _ _ _ [some (.ref 46), none, none, some (.int r1), none, none, some (.int ((((I1 49 (((nI 13) + x1)).toNatClampNeg) - (I2 49 (((nI 46) + r2)).toNatClampNeg)) * (I3 55 ((x0 - x0 / (nI 16) * (nI 16))).toNatClampNeg)) + (((I2 49 (((nI 24) + x1)).toNatClampNeg) - (I3 49 (((nI 51) + r3)).toNatClampNeg)) * (I3 56 ((x0 - x0 / (nI 16) * (nI 16))).toNatClampNeg)))), none, some (.int (((((I1 49 (((nI 13) + x1)).toNatClampNeg) - (I2 49 (((nI 46) + r2)).toNatClampNeg)) * ((I1 49 (((nI 13) + x1)).toNatClampNeg) - (I2 49 (((nI 46) + r2)).toNatClampNeg))) + (((I2 49 (((nI 24) + x1)).toNatClampNeg) - (I3 49 (((nI 51) + r3)).toNatClampNeg)) * ((I2 49 (((nI 24) + x1)).toNatClampNeg) - (I3 49 (((nI 51) + r3)).toNatClampNeg)))) * (nI 1)))] [] ((fl, n1, n2, p, q, ad), I3, J3)
                show (((nI 0) : Int32) = 0 ∨ ((nI 0) : Int32) = 1) ∧ _
                refine ⟨(by decide), ?_⟩
                exact (((((((h3.2.2 c0).1 c1).2.2.2.2.2.1 c2).2 c3).2 c4).2.2 c5).2.2.1 c6)
              · show mm_b _ _ _ _ _ [some (.ref 46), none, none, some (.int r1), none, none, some (.int ((((I1 49 (((nI 13) + x1)).toNatClampNeg) - (I2 49 (((nI 46) + r2)).toNatClampNeg)) * (I3 55 ((x0 - x0 / (nI 16) * (nI 16))).toNatClampNeg)) + (((I2 49 (((nI 24) + x1)).toNatClampNeg) - (I3 49 (((nI 51) + r3)).toNatClampNeg)) * (I3 56 ((x0 - x0 / (nI 16) * (nI 16))).toNatClampNeg)))), none, some (.int (((((I1 49 (((nI 13) + x1)).toNatClampNeg) - (I2 49 (((nI 46) + r2)).toNatClampNeg)) * ((I1 49 (((nI 13) + x1)).toNatClampNeg) - (I2 49 (((nI 46) + r2)).toNatClampNeg))) + (((I2 49 (((nI 24) + x1)).toNatClampNeg) - (I3 49 (((nI 51) + r3)).toNatClampNeg)) * ((I2 49 (((nI 24) + x1)).toNatClampNeg) - (I3 49 (((nI 51) + r3)).toNatClampNeg)))) * (nI 1)))] [] ((fl, n1, n2, p, q, ad), I3, J3)
                show (((nI 1) : Int32) = 0 ∨ ((nI 1) : Int32) = 1) ∧ _
                refine ⟨(by decide), ?_⟩
                exact (((((((h3.2.2 c0).1 c1).2.2.2.2.2.1 c2).2 c3).2 c4).2.2 c5).2.2.2 c6)
      · show mm_b _ _ _ _ _ [some (.ref 46), some (.int x0), some (.int x1), some (.int r1), some (.int ((I1 49 (((nI 13) + x1)).toNatClampNeg) - (I2 49 (((nI 46) + r2)).toNatClampNeg))), some (.int ((I2 49 (((nI 24) + x1)).toNatClampNeg) - (I3 49 (((nI 51) + r3)).toNatClampNeg))), some (.int ((((I1 49 (((nI 13) + x1)).toNatClampNeg) - (I2 49 (((nI 46) + r2)).toNatClampNeg)) * (I3 55 ((x0 - x0 / (nI 16) * (nI 16))).toNatClampNeg)) + (((I2 49 (((nI 24) + x1)).toNatClampNeg) - (I3 49 (((nI 51) + r3)).toNatClampNeg)) * (I3 56 ((x0 - x0 / (nI 16) * (nI 16))).toNatClampNeg)))), some (.int (((I3 55 ((x0 - x0 / (nI 16) * (nI 16))).toNatClampNeg) * ((I2 49 (((nI 24) + x1)).toNatClampNeg) - (I3 49 (((nI 51) + r3)).toNatClampNeg))) - ((I3 56 ((x0 - x0 / (nI 16) * (nI 16))).toNatClampNeg) * ((I1 49 (((nI 13) + x1)).toNatClampNeg) - (I2 49 (((nI 46) + r2)).toNatClampNeg))))), none] [.int ((((I1 49 (((nI 13) + x1)).toNatClampNeg) - (I2 49 (((nI 46) + r2)).toNatClampNeg)) * ((I1 49 (((nI 13) + x1)).toNatClampNeg) - (I2 49 (((nI 46) + r2)).toNatClampNeg))) + (((I2 49 (((nI 24) + x1)).toNatClampNeg) - (I3 49 (((nI 51) + r3)).toNatClampNeg)) * ((I2 49 (((nI 24) + x1)).toNatClampNeg) - (I3 49 (((nI 51) + r3)).toNatClampNeg))))] ((fl, n1, n2, p, q, ad), I3, J3)
        show (((((I1 49 (((nI 13) + x1)).toNatClampNeg) - (I2 49 (((nI 46) + r2)).toNatClampNeg)) * (I3 55 ((x0 - x0 / (nI 16) * (nI 16))).toNatClampNeg)) + (((I2 49 (((nI 24) + x1)).toNatClampNeg) - (I3 49 (((nI 51) + r3)).toNatClampNeg)) * (I3 56 ((x0 - x0 / (nI 16) * (nI 16))).toNatClampNeg))) ≤ (nI 0) → _) ∧ (¬ ((((I1 49 (((nI 13) + x1)).toNatClampNeg) - (I2 49 (((nI 46) + r2)).toNatClampNeg)) * (I3 55 ((x0 - x0 / (nI 16) * (nI 16))).toNatClampNeg)) + (((I2 49 (((nI 24) + x1)).toNatClampNeg) - (I3 49 (((nI 51) + r3)).toNatClampNeg)) * (I3 56 ((x0 - x0 / (nI 16) * (nI 16))).toNatClampNeg))) ≤ (nI 0) → _)
        refine ⟨fun c3 => ?_, fun c3 => ?_⟩
        · show mm_u _ _ _ _ _ _ [some (.ref 46), none, none, some (.int r1), none, none, some (.int ((((I1 49 (((nI 13) + x1)).toNatClampNeg) - (I2 49 (((nI 46) + r2)).toNatClampNeg)) * (I3 55 ((x0 - x0 / (nI 16) * (nI 16))).toNatClampNeg)) + (((I2 49 (((nI 24) + x1)).toNatClampNeg) - (I3 49 (((nI 51) + r3)).toNatClampNeg)) * (I3 56 ((x0 - x0 / (nI 16) * (nI 16))).toNatClampNeg)))), some (.int (((I3 55 ((x0 - x0 / (nI 16) * (nI 16))).toNatClampNeg) * ((I2 49 (((nI 24) + x1)).toNatClampNeg) - (I3 49 (((nI 51) + r3)).toNatClampNeg))) - ((I3 56 ((x0 - x0 / (nI 16) * (nI 16))).toNatClampNeg) * ((I1 49 (((nI 13) + x1)).toNatClampNeg) - (I2 49 (((nI 46) + r2)).toNatClampNeg))))), some (.int (((((I1 49 (((nI 13) + x1)).toNatClampNeg) - (I2 49 (((nI 46) + r2)).toNatClampNeg)) * ((I1 49 (((nI 13) + x1)).toNatClampNeg) - (I2 49 (((nI 46) + r2)).toNatClampNeg))) + (((I2 49 (((nI 24) + x1)).toNatClampNeg) - (I3 49 (((nI 51) + r3)).toNatClampNeg)) * ((I2 49 (((nI 24) + x1)).toNatClampNeg) - (I3 49 (((nI 51) + r3)).toNatClampNeg)))) * (nI 4)))] [] ((fl, n1, n2, p, q, ad), I3, J3)
          show (((nI 0) : Int32) = 0 ∨ ((nI 0) : Int32) = 1) ∧ _
          refine ⟨(by decide), ?_⟩
          exact ((((h3.2.2 c0).1 c1).2.2.2.2.2.2 c2).1 c3)
        · show mm_b _ _ _ _ _ [some (.ref 46), none, none, some (.int r1), none, none, some (.int ((((I1 49 (((nI 13) + x1)).toNatClampNeg) - (I2 49 (((nI 46) + r2)).toNatClampNeg)) * (I3 55 ((x0 - x0 / (nI 16) * (nI 16))).toNatClampNeg)) + (((I2 49 (((nI 24) + x1)).toNatClampNeg) - (I3 49 (((nI 51) + r3)).toNatClampNeg)) * (I3 56 ((x0 - x0 / (nI 16) * (nI 16))).toNatClampNeg)))), some (.int (((I3 55 ((x0 - x0 / (nI 16) * (nI 16))).toNatClampNeg) * ((I2 49 (((nI 24) + x1)).toNatClampNeg) - (I3 49 (((nI 51) + r3)).toNatClampNeg))) - ((I3 56 ((x0 - x0 / (nI 16) * (nI 16))).toNatClampNeg) * ((I1 49 (((nI 13) + x1)).toNatClampNeg) - (I2 49 (((nI 46) + r2)).toNatClampNeg))))), some (.int (((((I1 49 (((nI 13) + x1)).toNatClampNeg) - (I2 49 (((nI 46) + r2)).toNatClampNeg)) * ((I1 49 (((nI 13) + x1)).toNatClampNeg) - (I2 49 (((nI 46) + r2)).toNatClampNeg))) + (((I2 49 (((nI 24) + x1)).toNatClampNeg) - (I3 49 (((nI 51) + r3)).toNatClampNeg)) * ((I2 49 (((nI 24) + x1)).toNatClampNeg) - (I3 49 (((nI 51) + r3)).toNatClampNeg)))) * (nI 4)))] [] ((fl, n1, n2, p, q, ad), I3, J3)
          show ((nI 0) ≤ (((I3 55 ((x0 - x0 / (nI 16) * (nI 16))).toNatClampNeg) * ((I2 49 (((nI 24) + x1)).toNatClampNeg) - (I3 49 (((nI 51) + r3)).toNatClampNeg))) - ((I3 56 ((x0 - x0 / (nI 16) * (nI 16))).toNatClampNeg) * ((I1 49 (((nI 13) + x1)).toNatClampNeg) - (I2 49 (((nI 46) + r2)).toNatClampNeg)))) → _) ∧ (¬ (nI 0) ≤ (((I3 55 ((x0 - x0 / (nI 16) * (nI 16))).toNatClampNeg) * ((I2 49 (((nI 24) + x1)).toNatClampNeg) - (I3 49 (((nI 51) + r3)).toNatClampNeg))) - ((I3 56 ((x0 - x0 / (nI 16) * (nI 16))).toNatClampNeg) * ((I1 49 (((nI 13) + x1)).toNatClampNeg) - (I2 49 (((nI 46) + r2)).toNatClampNeg)))) → _)
          refine ⟨fun c4 => ?_, fun c4 => ?_⟩
          · show mm_u _ _ _ _ _ _ [some (.ref 46), none, none, some (.int r1), none, none, some (.int ((((I1 49 (((nI 13) + x1)).toNatClampNeg) - (I2 49 (((nI 46) + r2)).toNatClampNeg)) * (I3 55 ((x0 - x0 / (nI 16) * (nI 16))).toNatClampNeg)) + (((I2 49 (((nI 24) + x1)).toNatClampNeg) - (I3 49 (((nI 51) + r3)).toNatClampNeg)) * (I3 56 ((x0 - x0 / (nI 16) * (nI 16))).toNatClampNeg)))), some (.int (((I3 55 ((x0 - x0 / (nI 16) * (nI 16))).toNatClampNeg) * ((I2 49 (((nI 24) + x1)).toNatClampNeg) - (I3 49 (((nI 51) + r3)).toNatClampNeg))) - ((I3 56 ((x0 - x0 / (nI 16) * (nI 16))).toNatClampNeg) * ((I1 49 (((nI 13) + x1)).toNatClampNeg) - (I2 49 (((nI 46) + r2)).toNatClampNeg))))), some (.int (((((I1 49 (((nI 13) + x1)).toNatClampNeg) - (I2 49 (((nI 46) + r2)).toNatClampNeg)) * ((I1 49 (((nI 13) + x1)).toNatClampNeg) - (I2 49 (((nI 46) + r2)).toNatClampNeg))) + (((I2 49 (((nI 24) + x1)).toNatClampNeg) - (I3 49 (((nI 51) + r3)).toNatClampNeg)) * ((I2 49 (((nI 24) + x1)).toNatClampNeg) - (I3 49 (((nI 51) + r3)).toNatClampNeg)))) * (nI 4)))] [.int (nI 10)] ((fl, n1, n2, p, q, ad), I3, J3)
            show vp_in ((nI 68) + r1) 279 ∧ _
            refine ⟨(((((h3.2.2 c0).1 c1).2.2.2.2.2.2 c2).2 c3).1 c4).1, ?_⟩
            show mm_b _ _ _ _ _ [some (.ref 46), none, none, some (.int r1), none, none, some (.int ((((I1 49 (((nI 13) + x1)).toNatClampNeg) - (I2 49 (((nI 46) + r2)).toNatClampNeg)) * (I3 55 ((x0 - x0 / (nI 16) * (nI 16))).toNatClampNeg)) + (((I2 49 (((nI 24) + x1)).toNatClampNeg) - (I3 49 (((nI 51) + r3)).toNatClampNeg)) * (I3 56 ((x0 - x0 / (nI 16) * (nI 16))).toNatClampNeg)))), none, some (.int (((((I1 49 (((nI 13) + x1)).toNatClampNeg) - (I2 49 (((nI 46) + r2)).toNatClampNeg)) * ((I1 49 (((nI 13) + x1)).toNatClampNeg) - (I2 49 (((nI 46) + r2)).toNatClampNeg))) + (((I2 49 (((nI 24) + x1)).toNatClampNeg) - (I3 49 (((nI 51) + r3)).toNatClampNeg)) * ((I2 49 (((nI 24) + x1)).toNatClampNeg) - (I3 49 (((nI 51) + r3)).toNatClampNeg)))) * (nI 4)))] [.int (I3 49 (((nI 68) + r1)).toNatClampNeg), .int ((nI 10) * (((I3 55 ((x0 - x0 / (nI 16) * (nI 16))).toNatClampNeg) * ((I2 49 (((nI 24) + x1)).toNatClampNeg) - (I3 49 (((nI 51) + r3)).toNatClampNeg))) - ((I3 56 ((x0 - x0 / (nI 16) * (nI 16))).toNatClampNeg) * ((I1 49 (((nI 13) + x1)).toNatClampNeg) - (I2 49 (((nI 46) + r2)).toNatClampNeg)))))] ((fl, n1, n2, p, q, ad), I3, J3)
            show (((I3 49 (((nI 68) + r1)).toNatClampNeg) * ((((I1 49 (((nI 13) + x1)).toNatClampNeg) - (I2 49 (((nI 46) + r2)).toNatClampNeg)) * (I3 55 ((x0 - x0 / (nI 16) * (nI 16))).toNatClampNeg)) + (((I2 49 (((nI 24) + x1)).toNatClampNeg) - (I3 49 (((nI 51) + r3)).toNatClampNeg)) * (I3 56 ((x0 - x0 / (nI 16) * (nI 16))).toNatClampNeg)))) < ((nI 10) * (((I3 55 ((x0 - x0 / (nI 16) * (nI 16))).toNatClampNeg) * ((I2 49 (((nI 24) + x1)).toNatClampNeg) - (I3 49 (((nI 51) + r3)).toNatClampNeg))) - ((I3 56 ((x0 - x0 / (nI 16) * (nI 16))).toNatClampNeg) * ((I1 49 (((nI 13) + x1)).toNatClampNeg) - (I2 49 (((nI 46) + r2)).toNatClampNeg))))) → _) ∧ (¬ ((I3 49 (((nI 68) + r1)).toNatClampNeg) * ((((I1 49 (((nI 13) + x1)).toNatClampNeg) - (I2 49 (((nI 46) + r2)).toNatClampNeg)) * (I3 55 ((x0 - x0 / (nI 16) * (nI 16))).toNatClampNeg)) + (((I2 49 (((nI 24) + x1)).toNatClampNeg) - (I3 49 (((nI 51) + r3)).toNatClampNeg)) * (I3 56 ((x0 - x0 / (nI 16) * (nI 16))).toNatClampNeg)))) < ((nI 10) * (((I3 55 ((x0 - x0 / (nI 16) * (nI 16))).toNatClampNeg) * ((I2 49 (((nI 24) + x1)).toNatClampNeg) - (I3 49 (((nI 51) + r3)).toNatClampNeg))) - ((I3 56 ((x0 - x0 / (nI 16) * (nI 16))).toNatClampNeg) * ((I1 49 (((nI 13) + x1)).toNatClampNeg) - (I2 49 (((nI 46) + r2)).toNatClampNeg))))) → _)
            refine ⟨fun c5 => ?_, fun c5 => ?_⟩
            · show mm_u _ _ _ _ _ _ [some (.ref 46), none, none, some (.int r1), none, none, some (.int ((((I1 49 (((nI 13) + x1)).toNatClampNeg) - (I2 49 (((nI 46) + r2)).toNatClampNeg)) * (I3 55 ((x0 - x0 / (nI 16) * (nI 16))).toNatClampNeg)) + (((I2 49 (((nI 24) + x1)).toNatClampNeg) - (I3 49 (((nI 51) + r3)).toNatClampNeg)) * (I3 56 ((x0 - x0 / (nI 16) * (nI 16))).toNatClampNeg)))), none, some (.int (((((I1 49 (((nI 13) + x1)).toNatClampNeg) - (I2 49 (((nI 46) + r2)).toNatClampNeg)) * ((I1 49 (((nI 13) + x1)).toNatClampNeg) - (I2 49 (((nI 46) + r2)).toNatClampNeg))) + (((I2 49 (((nI 24) + x1)).toNatClampNeg) - (I3 49 (((nI 51) + r3)).toNatClampNeg)) * ((I2 49 (((nI 24) + x1)).toNatClampNeg) - (I3 49 (((nI 51) + r3)).toNatClampNeg)))) * (nI 4)))] [] ((fl, n1, n2, p, q, ad), I3, J3)
              show (((nI 0) : Int32) = 0 ∨ ((nI 0) : Int32) = 1) ∧ _
              refine ⟨(by decide), ?_⟩
              exact ((((((h3.2.2 c0).1 c1).2.2.2.2.2.2 c2).2 c3).1 c4).2.1 c5)
            · show mm_b _ _ _ _ _ [some (.ref 46), none, none, some (.int r1), none, none, some (.int ((((I1 49 (((nI 13) + x1)).toNatClampNeg) - (I2 49 (((nI 46) + r2)).toNatClampNeg)) * (I3 55 ((x0 - x0 / (nI 16) * (nI 16))).toNatClampNeg)) + (((I2 49 (((nI 24) + x1)).toNatClampNeg) - (I3 49 (((nI 51) + r3)).toNatClampNeg)) * (I3 56 ((x0 - x0 / (nI 16) * (nI 16))).toNatClampNeg)))), none, some (.int (((((I1 49 (((nI 13) + x1)).toNatClampNeg) - (I2 49 (((nI 46) + r2)).toNatClampNeg)) * ((I1 49 (((nI 13) + x1)).toNatClampNeg) - (I2 49 (((nI 46) + r2)).toNatClampNeg))) + (((I2 49 (((nI 24) + x1)).toNatClampNeg) - (I3 49 (((nI 51) + r3)).toNatClampNeg)) * ((I2 49 (((nI 24) + x1)).toNatClampNeg) - (I3 49 (((nI 51) + r3)).toNatClampNeg)))) * (nI 4)))] [] ((fl, n1, n2, p, q, ad), I3, J3)
              show vp_in ((nI 64) + r1) 279 ∧ _
              refine ⟨((((((h3.2.2 c0).1 c1).2.2.2.2.2.2 c2).2 c3).1 c4).2.2 c5).1, ?_⟩
              show mm_b _ _ _ _ _ [some (.ref 46), none, none, some (.int r1), none, none, some (.int ((((I1 49 (((nI 13) + x1)).toNatClampNeg) - (I2 49 (((nI 46) + r2)).toNatClampNeg)) * (I3 55 ((x0 - x0 / (nI 16) * (nI 16))).toNatClampNeg)) + (((I2 49 (((nI 24) + x1)).toNatClampNeg) - (I3 49 (((nI 51) + r3)).toNatClampNeg)) * (I3 56 ((x0 - x0 / (nI 16) * (nI 16))).toNatClampNeg)))), none, some (.int (((((I1 49 (((nI 13) + x1)).toNatClampNeg) - (I2 49 (((nI 46) + r2)).toNatClampNeg)) * ((I1 49 (((nI 13) + x1)).toNatClampNeg) - (I2 49 (((nI 46) + r2)).toNatClampNeg))) + (((I2 49 (((nI 24) + x1)).toNatClampNeg) - (I3 49 (((nI 51) + r3)).toNatClampNeg)) * ((I2 49 (((nI 24) + x1)).toNatClampNeg) - (I3 49 (((nI 51) + r3)).toNatClampNeg)))) * (nI 4)))] [.int (I3 49 (((nI 64) + r1)).toNatClampNeg), .int (((((I1 49 (((nI 13) + x1)).toNatClampNeg) - (I2 49 (((nI 46) + r2)).toNatClampNeg)) * ((I1 49 (((nI 13) + x1)).toNatClampNeg) - (I2 49 (((nI 46) + r2)).toNatClampNeg))) + (((I2 49 (((nI 24) + x1)).toNatClampNeg) - (I3 49 (((nI 51) + r3)).toNatClampNeg)) * ((I2 49 (((nI 24) + x1)).toNatClampNeg) - (I3 49 (((nI 51) + r3)).toNatClampNeg)))) * (nI 4))] ((fl, n1, n2, p, q, ad), I3, J3)
              show vp_in ((nI 64) + r1) 279 ∧ _
              refine ⟨((((((h3.2.2 c0).1 c1).2.2.2.2.2.2 c2).2 c3).1 c4).2.2 c5).2.1, ?_⟩
              show mm_b _ _ _ _ _ [some (.ref 46), none, none, some (.int r1), none, none, some (.int ((((I1 49 (((nI 13) + x1)).toNatClampNeg) - (I2 49 (((nI 46) + r2)).toNatClampNeg)) * (I3 55 ((x0 - x0 / (nI 16) * (nI 16))).toNatClampNeg)) + (((I2 49 (((nI 24) + x1)).toNatClampNeg) - (I3 49 (((nI 51) + r3)).toNatClampNeg)) * (I3 56 ((x0 - x0 / (nI 16) * (nI 16))).toNatClampNeg)))), none, some (.int (((((I1 49 (((nI 13) + x1)).toNatClampNeg) - (I2 49 (((nI 46) + r2)).toNatClampNeg)) * ((I1 49 (((nI 13) + x1)).toNatClampNeg) - (I2 49 (((nI 46) + r2)).toNatClampNeg))) + (((I2 49 (((nI 24) + x1)).toNatClampNeg) - (I3 49 (((nI 51) + r3)).toNatClampNeg)) * ((I2 49 (((nI 24) + x1)).toNatClampNeg) - (I3 49 (((nI 51) + r3)).toNatClampNeg)))) * (nI 4)))] [.int (I3 49 (((nI 64) + r1)).toNatClampNeg), .int (I3 49 (((nI 64) + r1)).toNatClampNeg), .int (((((I1 49 (((nI 13) + x1)).toNatClampNeg) - (I2 49 (((nI 46) + r2)).toNatClampNeg)) * ((I1 49 (((nI 13) + x1)).toNatClampNeg) - (I2 49 (((nI 46) + r2)).toNatClampNeg))) + (((I2 49 (((nI 24) + x1)).toNatClampNeg) - (I3 49 (((nI 51) + r3)).toNatClampNeg)) * ((I2 49 (((nI 24) + x1)).toNatClampNeg) - (I3 49 (((nI 51) + r3)).toNatClampNeg)))) * (nI 4))] ((fl, n1, n2, p, q, ad), I3, J3)
              show (((I3 49 (((nI 64) + r1)).toNatClampNeg) * (I3 49 (((nI 64) + r1)).toNatClampNeg)) < (((((I1 49 (((nI 13) + x1)).toNatClampNeg) - (I2 49 (((nI 46) + r2)).toNatClampNeg)) * ((I1 49 (((nI 13) + x1)).toNatClampNeg) - (I2 49 (((nI 46) + r2)).toNatClampNeg))) + (((I2 49 (((nI 24) + x1)).toNatClampNeg) - (I3 49 (((nI 51) + r3)).toNatClampNeg)) * ((I2 49 (((nI 24) + x1)).toNatClampNeg) - (I3 49 (((nI 51) + r3)).toNatClampNeg)))) * (nI 4)) → _) ∧ (¬ ((I3 49 (((nI 64) + r1)).toNatClampNeg) * (I3 49 (((nI 64) + r1)).toNatClampNeg)) < (((((I1 49 (((nI 13) + x1)).toNatClampNeg) - (I2 49 (((nI 46) + r2)).toNatClampNeg)) * ((I1 49 (((nI 13) + x1)).toNatClampNeg) - (I2 49 (((nI 46) + r2)).toNatClampNeg))) + (((I2 49 (((nI 24) + x1)).toNatClampNeg) - (I3 49 (((nI 51) + r3)).toNatClampNeg)) * ((I2 49 (((nI 24) + x1)).toNatClampNeg) - (I3 49 (((nI 51) + r3)).toNatClampNeg)))) * (nI 4)) → _)
              refine ⟨fun c6 => ?_, fun c6 => ?_⟩
              · show mm_u _ _ _ _ _ _ [some (.ref 46), none, none, some (.int r1), none, none, some (.int ((((I1 49 (((nI 13) + x1)).toNatClampNeg) - (I2 49 (((nI 46) + r2)).toNatClampNeg)) * (I3 55 ((x0 - x0 / (nI 16) * (nI 16))).toNatClampNeg)) + (((I2 49 (((nI 24) + x1)).toNatClampNeg) - (I3 49 (((nI 51) + r3)).toNatClampNeg)) * (I3 56 ((x0 - x0 / (nI 16) * (nI 16))).toNatClampNeg)))), none, some (.int (((((I1 49 (((nI 13) + x1)).toNatClampNeg) - (I2 49 (((nI 46) + r2)).toNatClampNeg)) * ((I1 49 (((nI 13) + x1)).toNatClampNeg) - (I2 49 (((nI 46) + r2)).toNatClampNeg))) + (((I2 49 (((nI 24) + x1)).toNatClampNeg) - (I3 49 (((nI 51) + r3)).toNatClampNeg)) * ((I2 49 (((nI 24) + x1)).toNatClampNeg) - (I3 49 (((nI 51) + r3)).toNatClampNeg)))) * (nI 4)))] [] ((fl, n1, n2, p, q, ad), I3, J3)
                show (((nI 0) : Int32) = 0 ∨ ((nI 0) : Int32) = 1) ∧ _
                refine ⟨(by decide), ?_⟩
                exact (((((((h3.2.2 c0).1 c1).2.2.2.2.2.2 c2).2 c3).1 c4).2.2 c5).2.2.1 c6)
              · show mm_b _ _ _ _ _ [some (.ref 46), none, none, some (.int r1), none, none, some (.int ((((I1 49 (((nI 13) + x1)).toNatClampNeg) - (I2 49 (((nI 46) + r2)).toNatClampNeg)) * (I3 55 ((x0 - x0 / (nI 16) * (nI 16))).toNatClampNeg)) + (((I2 49 (((nI 24) + x1)).toNatClampNeg) - (I3 49 (((nI 51) + r3)).toNatClampNeg)) * (I3 56 ((x0 - x0 / (nI 16) * (nI 16))).toNatClampNeg)))), none, some (.int (((((I1 49 (((nI 13) + x1)).toNatClampNeg) - (I2 49 (((nI 46) + r2)).toNatClampNeg)) * ((I1 49 (((nI 13) + x1)).toNatClampNeg) - (I2 49 (((nI 46) + r2)).toNatClampNeg))) + (((I2 49 (((nI 24) + x1)).toNatClampNeg) - (I3 49 (((nI 51) + r3)).toNatClampNeg)) * ((I2 49 (((nI 24) + x1)).toNatClampNeg) - (I3 49 (((nI 51) + r3)).toNatClampNeg)))) * (nI 4)))] [] ((fl, n1, n2, p, q, ad), I3, J3)
                show (((nI 1) : Int32) = 0 ∨ ((nI 1) : Int32) = 1) ∧ _
                refine ⟨(by decide), ?_⟩
                exact (((((((h3.2.2 c0).1 c1).2.2.2.2.2.2 c2).2 c3).1 c4).2.2 c5).2.2.2 c6)
          · show mm_b _ _ _ _ _ [some (.ref 46), none, none, some (.int r1), none, none, some (.int ((((I1 49 (((nI 13) + x1)).toNatClampNeg) - (I2 49 (((nI 46) + r2)).toNatClampNeg)) * (I3 55 ((x0 - x0 / (nI 16) * (nI 16))).toNatClampNeg)) + (((I2 49 (((nI 24) + x1)).toNatClampNeg) - (I3 49 (((nI 51) + r3)).toNatClampNeg)) * (I3 56 ((x0 - x0 / (nI 16) * (nI 16))).toNatClampNeg)))), some (.int (((I3 55 ((x0 - x0 / (nI 16) * (nI 16))).toNatClampNeg) * ((I2 49 (((nI 24) + x1)).toNatClampNeg) - (I3 49 (((nI 51) + r3)).toNatClampNeg))) - ((I3 56 ((x0 - x0 / (nI 16) * (nI 16))).toNatClampNeg) * ((I1 49 (((nI 13) + x1)).toNatClampNeg) - (I2 49 (((nI 46) + r2)).toNatClampNeg))))), some (.int (((((I1 49 (((nI 13) + x1)).toNatClampNeg) - (I2 49 (((nI 46) + r2)).toNatClampNeg)) * ((I1 49 (((nI 13) + x1)).toNatClampNeg) - (I2 49 (((nI 46) + r2)).toNatClampNeg))) + (((I2 49 (((nI 24) + x1)).toNatClampNeg) - (I3 49 (((nI 51) + r3)).toNatClampNeg)) * ((I2 49 (((nI 24) + x1)).toNatClampNeg) - (I3 49 (((nI 51) + r3)).toNatClampNeg)))) * (nI 4)))] [.int (nI 10)] ((fl, n1, n2, p, q, ad), I3, J3)
            show vp_in ((nI 68) + r1) 279 ∧ _
            refine ⟨(((((h3.2.2 c0).1 c1).2.2.2.2.2.2 c2).2 c3).2 c4).1, ?_⟩
            show mm_b _ _ _ _ _ [some (.ref 46), none, none, some (.int r1), none, none, some (.int ((((I1 49 (((nI 13) + x1)).toNatClampNeg) - (I2 49 (((nI 46) + r2)).toNatClampNeg)) * (I3 55 ((x0 - x0 / (nI 16) * (nI 16))).toNatClampNeg)) + (((I2 49 (((nI 24) + x1)).toNatClampNeg) - (I3 49 (((nI 51) + r3)).toNatClampNeg)) * (I3 56 ((x0 - x0 / (nI 16) * (nI 16))).toNatClampNeg)))), none, some (.int (((((I1 49 (((nI 13) + x1)).toNatClampNeg) - (I2 49 (((nI 46) + r2)).toNatClampNeg)) * ((I1 49 (((nI 13) + x1)).toNatClampNeg) - (I2 49 (((nI 46) + r2)).toNatClampNeg))) + (((I2 49 (((nI 24) + x1)).toNatClampNeg) - (I3 49 (((nI 51) + r3)).toNatClampNeg)) * ((I2 49 (((nI 24) + x1)).toNatClampNeg) - (I3 49 (((nI 51) + r3)).toNatClampNeg)))) * (nI 4)))] [.int (I3 49 (((nI 68) + r1)).toNatClampNeg), .int ((nI 10) * (-(((I3 55 ((x0 - x0 / (nI 16) * (nI 16))).toNatClampNeg) * ((I2 49 (((nI 24) + x1)).toNatClampNeg) - (I3 49 (((nI 51) + r3)).toNatClampNeg))) - ((I3 56 ((x0 - x0 / (nI 16) * (nI 16))).toNatClampNeg) * ((I1 49 (((nI 13) + x1)).toNatClampNeg) - (I2 49 (((nI 46) + r2)).toNatClampNeg))))))] ((fl, n1, n2, p, q, ad), I3, J3)
            show (((I3 49 (((nI 68) + r1)).toNatClampNeg) * ((((I1 49 (((nI 13) + x1)).toNatClampNeg) - (I2 49 (((nI 46) + r2)).toNatClampNeg)) * (I3 55 ((x0 - x0 / (nI 16) * (nI 16))).toNatClampNeg)) + (((I2 49 (((nI 24) + x1)).toNatClampNeg) - (I3 49 (((nI 51) + r3)).toNatClampNeg)) * (I3 56 ((x0 - x0 / (nI 16) * (nI 16))).toNatClampNeg)))) < ((nI 10) * (-(((I3 55 ((x0 - x0 / (nI 16) * (nI 16))).toNatClampNeg) * ((I2 49 (((nI 24) + x1)).toNatClampNeg) - (I3 49 (((nI 51) + r3)).toNatClampNeg))) - ((I3 56 ((x0 - x0 / (nI 16) * (nI 16))).toNatClampNeg) * ((I1 49 (((nI 13) + x1)).toNatClampNeg) - (I2 49 (((nI 46) + r2)).toNatClampNeg)))))) → _) ∧ (¬ ((I3 49 (((nI 68) + r1)).toNatClampNeg) * ((((I1 49 (((nI 13) + x1)).toNatClampNeg) - (I2 49 (((nI 46) + r2)).toNatClampNeg)) * (I3 55 ((x0 - x0 / (nI 16) * (nI 16))).toNatClampNeg)) + (((I2 49 (((nI 24) + x1)).toNatClampNeg) - (I3 49 (((nI 51) + r3)).toNatClampNeg)) * (I3 56 ((x0 - x0 / (nI 16) * (nI 16))).toNatClampNeg)))) < ((nI 10) * (-(((I3 55 ((x0 - x0 / (nI 16) * (nI 16))).toNatClampNeg) * ((I2 49 (((nI 24) + x1)).toNatClampNeg) - (I3 49 (((nI 51) + r3)).toNatClampNeg))) - ((I3 56 ((x0 - x0 / (nI 16) * (nI 16))).toNatClampNeg) * ((I1 49 (((nI 13) + x1)).toNatClampNeg) - (I2 49 (((nI 46) + r2)).toNatClampNeg)))))) → _)
            refine ⟨fun c5 => ?_, fun c5 => ?_⟩
            · show mm_u _ _ _ _ _ _ [some (.ref 46), none, none, some (.int r1), none, none, some (.int ((((I1 49 (((nI 13) + x1)).toNatClampNeg) - (I2 49 (((nI 46) + r2)).toNatClampNeg)) * (I3 55 ((x0 - x0 / (nI 16) * (nI 16))).toNatClampNeg)) + (((I2 49 (((nI 24) + x1)).toNatClampNeg) - (I3 49 (((nI 51) + r3)).toNatClampNeg)) * (I3 56 ((x0 - x0 / (nI 16) * (nI 16))).toNatClampNeg)))), none, some (.int (((((I1 49 (((nI 13) + x1)).toNatClampNeg) - (I2 49 (((nI 46) + r2)).toNatClampNeg)) * ((I1 49 (((nI 13) + x1)).toNatClampNeg) - (I2 49 (((nI 46) + r2)).toNatClampNeg))) + (((I2 49 (((nI 24) + x1)).toNatClampNeg) - (I3 49 (((nI 51) + r3)).toNatClampNeg)) * ((I2 49 (((nI 24) + x1)).toNatClampNeg) - (I3 49 (((nI 51) + r3)).toNatClampNeg)))) * (nI 4)))] [] ((fl, n1, n2, p, q, ad), I3, J3)
              show (((nI 0) : Int32) = 0 ∨ ((nI 0) : Int32) = 1) ∧ _
              refine ⟨(by decide), ?_⟩
              exact ((((((h3.2.2 c0).1 c1).2.2.2.2.2.2 c2).2 c3).2 c4).2.1 c5)
            · show mm_b _ _ _ _ _ [some (.ref 46), none, none, some (.int r1), none, none, some (.int ((((I1 49 (((nI 13) + x1)).toNatClampNeg) - (I2 49 (((nI 46) + r2)).toNatClampNeg)) * (I3 55 ((x0 - x0 / (nI 16) * (nI 16))).toNatClampNeg)) + (((I2 49 (((nI 24) + x1)).toNatClampNeg) - (I3 49 (((nI 51) + r3)).toNatClampNeg)) * (I3 56 ((x0 - x0 / (nI 16) * (nI 16))).toNatClampNeg)))), none, some (.int (((((I1 49 (((nI 13) + x1)).toNatClampNeg) - (I2 49 (((nI 46) + r2)).toNatClampNeg)) * ((I1 49 (((nI 13) + x1)).toNatClampNeg) - (I2 49 (((nI 46) + r2)).toNatClampNeg))) + (((I2 49 (((nI 24) + x1)).toNatClampNeg) - (I3 49 (((nI 51) + r3)).toNatClampNeg)) * ((I2 49 (((nI 24) + x1)).toNatClampNeg) - (I3 49 (((nI 51) + r3)).toNatClampNeg)))) * (nI 4)))] [] ((fl, n1, n2, p, q, ad), I3, J3)
              show vp_in ((nI 64) + r1) 279 ∧ _
              refine ⟨((((((h3.2.2 c0).1 c1).2.2.2.2.2.2 c2).2 c3).2 c4).2.2 c5).1, ?_⟩
              show mm_b _ _ _ _ _ [some (.ref 46), none, none, some (.int r1), none, none, some (.int ((((I1 49 (((nI 13) + x1)).toNatClampNeg) - (I2 49 (((nI 46) + r2)).toNatClampNeg)) * (I3 55 ((x0 - x0 / (nI 16) * (nI 16))).toNatClampNeg)) + (((I2 49 (((nI 24) + x1)).toNatClampNeg) - (I3 49 (((nI 51) + r3)).toNatClampNeg)) * (I3 56 ((x0 - x0 / (nI 16) * (nI 16))).toNatClampNeg)))), none, some (.int (((((I1 49 (((nI 13) + x1)).toNatClampNeg) - (I2 49 (((nI 46) + r2)).toNatClampNeg)) * ((I1 49 (((nI 13) + x1)).toNatClampNeg) - (I2 49 (((nI 46) + r2)).toNatClampNeg))) + (((I2 49 (((nI 24) + x1)).toNatClampNeg) - (I3 49 (((nI 51) + r3)).toNatClampNeg)) * ((I2 49 (((nI 24) + x1)).toNatClampNeg) - (I3 49 (((nI 51) + r3)).toNatClampNeg)))) * (nI 4)))] [.int (I3 49 (((nI 64) + r1)).toNatClampNeg), .int (((((I1 49 (((nI 13) + x1)).toNatClampNeg) - (I2 49 (((nI 46) + r2)).toNatClampNeg)) * ((I1 49 (((nI 13) + x1)).toNatClampNeg) - (I2 49 (((nI 46) + r2)).toNatClampNeg))) + (((I2 49 (((nI 24) + x1)).toNatClampNeg) - (I3 49 (((nI 51) + r3)).toNatClampNeg)) * ((I2 49 (((nI 24) + x1)).toNatClampNeg) - (I3 49 (((nI 51) + r3)).toNatClampNeg)))) * (nI 4))] ((fl, n1, n2, p, q, ad), I3, J3)
              show vp_in ((nI 64) + r1) 279 ∧ _
              refine ⟨((((((h3.2.2 c0).1 c1).2.2.2.2.2.2 c2).2 c3).2 c4).2.2 c5).2.1, ?_⟩
              show mm_b _ _ _ _ _ [some (.ref 46), none, none, some (.int r1), none, none, some (.int ((((I1 49 (((nI 13) + x1)).toNatClampNeg) - (I2 49 (((nI 46) + r2)).toNatClampNeg)) * (I3 55 ((x0 - x0 / (nI 16) * (nI 16))).toNatClampNeg)) + (((I2 49 (((nI 24) + x1)).toNatClampNeg) - (I3 49 (((nI 51) + r3)).toNatClampNeg)) * (I3 56 ((x0 - x0 / (nI 16) * (nI 16))).toNatClampNeg)))), none, some (.int (((((I1 49 (((nI 13) + x1)).toNatClampNeg) - (I2 49 (((nI 46) + r2)).toNatClampNeg)) * ((I1 49 (((nI 13) + x1)).toNatClampNeg) - (I2 49 (((nI 46) + r2)).toNatClampNeg))) + (((I2 49 (((nI 24) + x1)).toNatClampNeg) - (I3 49 (((nI 51) + r3)).toNatClampNeg)) * ((I2 49 (((nI 24) + x1)).toNatClampNeg) - (I3 49 (((nI 51) + r3)).toNatClampNeg)))) * (nI 4)))] [.int (I3 49 (((nI 64) + r1)).toNatClampNeg), .int (I3 49 (((nI 64) + r1)).toNatClampNeg), .int (((((I1 49 (((nI 13) + x1)).toNatClampNeg) - (I2 49 (((nI 46) + r2)).toNatClampNeg)) * ((I1 49 (((nI 13) + x1)).toNatClampNeg) - (I2 49 (((nI 46) + r2)).toNatClampNeg))) + (((I2 49 (((nI 24) + x1)).toNatClampNeg) - (I3 49 (((nI 51) + r3)).toNatClampNeg)) * ((I2 49 (((nI 24) + x1)).toNatClampNeg) - (I3 49 (((nI 51) + r3)).toNatClampNeg)))) * (nI 4))] ((fl, n1, n2, p, q, ad), I3, J3)
              show (((I3 49 (((nI 64) + r1)).toNatClampNeg) * (I3 49 (((nI 64) + r1)).toNatClampNeg)) < (((((I1 49 (((nI 13) + x1)).toNatClampNeg) - (I2 49 (((nI 46) + r2)).toNatClampNeg)) * ((I1 49 (((nI 13) + x1)).toNatClampNeg) - (I2 49 (((nI 46) + r2)).toNatClampNeg))) + (((I2 49 (((nI 24) + x1)).toNatClampNeg) - (I3 49 (((nI 51) + r3)).toNatClampNeg)) * ((I2 49 (((nI 24) + x1)).toNatClampNeg) - (I3 49 (((nI 51) + r3)).toNatClampNeg)))) * (nI 4)) → _) ∧ (¬ ((I3 49 (((nI 64) + r1)).toNatClampNeg) * (I3 49 (((nI 64) + r1)).toNatClampNeg)) < (((((I1 49 (((nI 13) + x1)).toNatClampNeg) - (I2 49 (((nI 46) + r2)).toNatClampNeg)) * ((I1 49 (((nI 13) + x1)).toNatClampNeg) - (I2 49 (((nI 46) + r2)).toNatClampNeg))) + (((I2 49 (((nI 24) + x1)).toNatClampNeg) - (I3 49 (((nI 51) + r3)).toNatClampNeg)) * ((I2 49 (((nI 24) + x1)).toNatClampNeg) - (I3 49 (((nI 51) + r3)).toNatClampNeg)))) * (nI 4)) → _)
              refine ⟨fun c6 => ?_, fun c6 => ?_⟩
              · show mm_u _ _ _ _ _ _ [some (.ref 46), none, none, some (.int r1), none, none, some (.int ((((I1 49 (((nI 13) + x1)).toNatClampNeg) - (I2 49 (((nI 46) + r2)).toNatClampNeg)) * (I3 55 ((x0 - x0 / (nI 16) * (nI 16))).toNatClampNeg)) + (((I2 49 (((nI 24) + x1)).toNatClampNeg) - (I3 49 (((nI 51) + r3)).toNatClampNeg)) * (I3 56 ((x0 - x0 / (nI 16) * (nI 16))).toNatClampNeg)))), none, some (.int (((((I1 49 (((nI 13) + x1)).toNatClampNeg) - (I2 49 (((nI 46) + r2)).toNatClampNeg)) * ((I1 49 (((nI 13) + x1)).toNatClampNeg) - (I2 49 (((nI 46) + r2)).toNatClampNeg))) + (((I2 49 (((nI 24) + x1)).toNatClampNeg) - (I3 49 (((nI 51) + r3)).toNatClampNeg)) * ((I2 49 (((nI 24) + x1)).toNatClampNeg) - (I3 49 (((nI 51) + r3)).toNatClampNeg)))) * (nI 4)))] [] ((fl, n1, n2, p, q, ad), I3, J3)
                show (((nI 0) : Int32) = 0 ∨ ((nI 0) : Int32) = 1) ∧ _
                refine ⟨(by decide), ?_⟩
                exact (((((((h3.2.2 c0).1 c1).2.2.2.2.2.2 c2).2 c3).2 c4).2.2 c5).2.2.1 c6)
              · show mm_b _ _ _ _ _ [some (.ref 46), none, none, some (.int r1), none, none, some (.int ((((I1 49 (((nI 13) + x1)).toNatClampNeg) - (I2 49 (((nI 46) + r2)).toNatClampNeg)) * (I3 55 ((x0 - x0 / (nI 16) * (nI 16))).toNatClampNeg)) + (((I2 49 (((nI 24) + x1)).toNatClampNeg) - (I3 49 (((nI 51) + r3)).toNatClampNeg)) * (I3 56 ((x0 - x0 / (nI 16) * (nI 16))).toNatClampNeg)))), none, some (.int (((((I1 49 (((nI 13) + x1)).toNatClampNeg) - (I2 49 (((nI 46) + r2)).toNatClampNeg)) * ((I1 49 (((nI 13) + x1)).toNatClampNeg) - (I2 49 (((nI 46) + r2)).toNatClampNeg))) + (((I2 49 (((nI 24) + x1)).toNatClampNeg) - (I3 49 (((nI 51) + r3)).toNatClampNeg)) * ((I2 49 (((nI 24) + x1)).toNatClampNeg) - (I3 49 (((nI 51) + r3)).toNatClampNeg)))) * (nI 4)))] [] ((fl, n1, n2, p, q, ad), I3, J3)
                show (((nI 1) : Int32) = 0 ∨ ((nI 1) : Int32) = 1) ∧ _
                refine ⟨(by decide), ?_⟩
                exact (((((((h3.2.2 c0).1 c1).2.2.2.2.2.2 c2).2 c3).2 c4).2.2 c5).2.2.2 c6)
    · show mm_b _ _ _ _ _ [some (.ref 46), some (.int x0), some (.int x1), some (.int r1), some (.int ((I1 49 (((nI 13) + x1)).toNatClampNeg) - (I2 49 (((nI 46) + r2)).toNatClampNeg))), some (.int ((I2 49 (((nI 24) + x1)).toNatClampNeg) - (I3 49 (((nI 51) + r3)).toNatClampNeg))), none, none, none] [] ((fl, n1, n2, p, q, ad), I3, J3)
      show (((nI 1) : Int32) = 0 ∨ ((nI 1) : Int32) = 1) ∧ _
      refine ⟨(by decide), ?_⟩
      exact ((h3.2.2 c0).2 c1)
/- 210 ThreeBreathsModel layFans -/
theorem fx_210 {d : Nat} {fl : Nat → Bool} {n1 n2 : Nat} {p q : Bool} {ad : Nat → Nat} {I : mmI} {J : mmJ} {Q : mmQ} (h : mm_w Q (mm_wc d) bk_210 2 [some (.ref 46), some (.int (nI 0)), none, none, none] [] ((fl, n1, n2, p, q, ad), I, J)) : mm_wc (d + 1) 210 [.ref 46] ((fl, n1, n2, p, q, ad), I, J) Q := by
  refine mm_call (c := 210) rfl rfl ?_
  refine mm_go [2, 19, 64, 79] 80 ?_
  exact h
theorem fx_210_2 {d : Nat} {a1 : Int32} {fl : Nat → Bool} {n1 n2 : Nat} {p q : Bool} {ad : Nat → Nat} {I : mmI} {J : mmJ} {Q : mmQ} (h : mm_wc d 206 [.ref 46] ((fl, 0, 0, p, q, ad), I, J) (fun v τ => ∃ r1 I1 J1, v = some (.int r1) ∧ τ = ((fl, 0, 0, p, q, ad), I1, J1) ∧ ((r1 ≤ a1 → mm_w Q (mm_wc d) bk_210 64 [some (.ref 46), some (.int (nI 0)), none, none, none] [] ((fl, n1, n2, p, q, ad), I1, J1)) ∧ (¬ r1 ≤ a1 → (vp_in a1 320 ∧ mm_w Q (mm_wc d) bk_210 19 [some (.ref 46), some (.int a1), some (.int (nI 0)), none, none] [] ((fl, n1, n2, p, q, ad), (mm_up I1 53 a1.toNatClampNeg (nI 0)), J1)))))) : mm_w Q (mm_wc (d)) bk_210 2 [some (.ref 46), some (.int a1), none, none, none] [] ((fl, n1, n2, p, q, ad), I, J) := by
  refine mm_go [2, 19, 64, 79] 80 ?_
  show mm_wc d 206 [.ref 46] ((fl, 0, 0, p, q, ad), I, J) _
  refine mm_wcm h ?_
  rintro v τ ⟨r1, I1, J1, rfl, rfl, h1⟩
  refine mm_r1' ⟨rfl, ?_⟩
  show mm_b _ _ _ _ _ [some (.ref 46), some (.int a1), none, none, none] [.int r1, .int a1] ((fl, n1, n2, p, q, ad), I1, J1)
  show (r1 ≤ a1 → _) ∧ (¬ r1 ≤ a1 → _)
  refine ⟨fun c0 => ?_, fun c0 => ?_⟩
  · exact (h1.1 c0)
  · show mm_b _ _ _ _ _ [some (.ref 46), some (.int a1), none, none, none] [] ((fl, n1, n2, p, q, ad), I1, J1)
    show vp_in a1 320 ∧ _
    refine ⟨(h1.2 c0).1, ?_⟩
    exact (h1.2 c0).2
theorem fx_210_64 {d : Nat} {a1 : Int32} {fl : Nat → Bool} {n1 n2 : Nat} {p q : Bool} {ad : Nat → Nat} {I : mmI} {J : mmJ} {Q : mmQ} (h : (((nI 11) ≤ a1 → Q none ((fl, n1, n2, p, q, ad), I, J)) ∧ (¬ (nI 11) ≤ a1 → (vp_in a1 11 ∧ mm_w Q (mm_wc d) bk_210 79 [some (.ref 46), some (.int a1), some (.int (nI 0)), none, none] [] ((fl, n1, n2, p, q, ad), (mm_up I 54 a1.toNatClampNeg (nI 0)), J))))) : mm_w Q (mm_wc (d)) bk_210 64 [some (.ref 46), some (.int a1), none, none, none] [] ((fl, n1, n2, p, q, ad), I, J) := by
  refine mm_go [2, 19, 64, 79] 80 ?_
  show ((nI 11) ≤ a1 → _) ∧ (¬ (nI 11) ≤ a1 → _)
  refine ⟨fun c0 => ?_, fun c0 => ?_⟩
  · exact (h.1 c0)
  · show mm_b _ _ _ _ _ [some (.ref 46), some (.int a1), none, none, none] [] ((fl, n1, n2, p, q, ad), I, J)
    show vp_in a1 11 ∧ _
    refine ⟨(h.2 c0).1, ?_⟩
    exact (h.2 c0).2
theorem fx_210_19 {d : Nat} {a1 : Int32} {a2 : Int32} {fl : Nat → Bool} {n1 n2 : Nat} {p q : Bool} {ad : Nat → Nat} {I : mmI} {J : mmJ} {Q : mmQ} (h : (((nI 11) ≤ a2 → mm_w Q (mm_wc d) bk_210 2 [some (.ref 46), some (.int (a1 + (nI 1))), none, none, none] [] ((fl, n1, n2, p, q, ad), I, J)) ∧ (¬ (nI 11) ≤ a2 → (vp_in a1 320 ∧ mm_wc d 209 [.ref 46, .int a1, .int a2] ((fl, 0, 0, p, q, ad), I, J) (fun v τ => ∃ r1 I1 J1, v = some (.int r1) ∧ τ = ((fl, 0, 0, p, q, ad), I1, J1) ∧ ((r1 = (nI 0) → (vp_in a1 320 ∧ mm_w Q (mm_wc d) bk_210 19 [some (.ref 46), some (.int a1), some (.int (a2 + (nI 1))), none, none] [] ((fl, n1, n2, p, q, ad), (mm_up I1 53 a1.toNatClampNeg ((I 53 a1.toNatClampNeg) ||| (nI 0))), J1))) ∧ (¬ r1 = (nI 0) → (vp_in a1 320 ∧ mm_w Q (mm_wc d) bk_210 19 [some (.ref 46), some (.int a1), some (.int (a2 + (nI 1))), none, none] [] ((fl, n1, n2, p, q, ad), (mm_up I1 53 a1.toNatClampNeg ((I 53 a1.toNatClampNeg) ||| ((nI 1) <<< (a2 &&& 31)))), J1))))))))) : mm_w Q (mm_wc (d)) bk_210 19 [some (.ref 46), some (.int a1), some (.int a2), none, none] [] ((fl, n1, n2, p, q, ad), I, J) := by
  refine mm_go [2, 19, 64, 79] 80 ?_
  show ((nI 11) ≤ a2 → _) ∧ (¬ (nI 11) ≤ a2 → _)
  refine ⟨fun c0 => ?_, fun c0 => ?_⟩
  · exact (h.1 c0)
  · show mm_b _ _ _ _ _ [some (.ref 46), some (.int a1), some (.int a2), none, none] [] ((fl, n1, n2, p, q, ad), I, J)
    show vp_in a1 320 ∧ _
    refine ⟨(h.2 c0).1, ?_⟩
    show mm_b _ _ _ _ _ [some (.ref 46), some (.int a1), some (.int a2), none, none] [.int (I 53 a1.toNatClampNeg), .int a1, .ref 53] ((fl, n1, n2, p, q, ad), I, J)
    show mm_wc d 209 [.ref 46, .int a1, .int a2] ((fl, 0, 0, p, q, ad), I, J) _
    refine mm_wcm ((h.2 c0).2) ?_
    rintro v τ ⟨r1, I1, J1, rfl, rfl, h1⟩
    refine mm_r1' ⟨rfl, ?_⟩
    show mm_b _ _ _ _ _ [some (.ref 46), some (.int a1), some (.int a2), none, none] [.int r1, .int (I 53 a1.toNatClampNeg), .int a1, .ref 53] ((fl, n1, n2, p, q, ad), I1, J1)
    show (r1 = (nI 0) → _) ∧ (¬ r1 = (nI 0) → _)
    refine ⟨fun c1 => ?_, fun c1 => ?_⟩
    · show mm_u _ _ _ _ _ _ [some (.ref 46), some (.int a1), some (.int a2), none, none] [.int (I 53 a1.toNatClampNeg), .int a1, .ref 53] ((fl, n1, n2, p, q, ad), I1, J1)
      show vp_in a1 320 ∧ _
      refine ⟨(h1.1 c1).1, ?_⟩
      exact (h1.1 c1).2
    · show mm_b _ _ _ _ _ [some (.ref 46), some (.int a1), some (.int a2), none, none] [.int (I 53 a1.toNatClampNeg), .int a1, .ref 53] ((fl, n1, n2, p, q, ad), I1, J1)
      show vp_in a1 320 ∧ _
      refine ⟨(h1.2 c1).1, ?_⟩
      exact (h1.2 c1).2
theorem fx_210_79 {d : Nat} {a1 : Int32} {a2 : Int32} {fl : Nat → Bool} {n1 n2 : Nat} {p q : Bool} {ad : Nat → Nat} {I : mmI} {J : mmJ} {Q : mmQ} (h : (((nI 11) ≤ a2 → mm_w Q (mm_wc d) bk_210 64 [some (.ref 46), some (.int (a1 + (nI 1))), none, none, none] [] ((fl, n1, n2, p, q, ad), I, J)) ∧ (¬ (nI 11) ≤ a2 → (vp_in ((nI 13) + a1) 279 ∧ (vp_in ((nI 13) + a2) 279 ∧ (vp_in ((nI 24) + a1) 279 ∧ (vp_in ((nI 24) + a2) 279 ∧ (vp_in a1 11 ∧ ((a1 = a2 → (vp_in a1 11 ∧ mm_w Q (mm_wc d) bk_210 79 [some (.ref 46), some (.int a1), some (.int (a2 + (nI 1))), none, none] [] ((fl, n1, n2, p, q, ad), (mm_up I 54 a1.toNatClampNeg ((I 54 a1.toNatClampNeg) ||| (nI 0))), J))) ∧ (¬ a1 = a2 → ((((I 49 1) * (I 49 1)) < ((((I 49 (((nI 13) + a1)).toNatClampNeg) - (I 49 (((nI 13) + a2)).toNatClampNeg)) * ((I 49 (((nI 13) + a1)).toNatClampNeg) - (I 49 (((nI 13) + a2)).toNatClampNeg))) + (((I 49 (((nI 24) + a1)).toNatClampNeg) - (I 49 (((nI 24) + a2)).toNatClampNeg)) * ((I 49 (((nI 24) + a1)).toNatClampNeg) - (I 49 (((nI 24) + a2)).toNatClampNeg)))) → (vp_in a1 11 ∧ mm_w Q (mm_wc d) bk_210 79 [some (.ref 46), some (.int a1), some (.int (a2 + (nI 1))), none, none] [] ((fl, n1, n2, p, q, ad), (mm_up I 54 a1.toNatClampNeg ((I 54 a1.toNatClampNeg) ||| (nI 0))), J))) ∧ (¬ ((I 49 1) * (I 49 1)) < ((((I 49 (((nI 13) + a1)).toNatClampNeg) - (I 49 (((nI 13) + a2)).toNatClampNeg)) * ((I 49 (((nI 13) + a1)).toNatClampNeg) - (I 49 (((nI 13) + a2)).toNatClampNeg))) + (((I 49 (((nI 24) + a1)).toNatClampNeg) - (I 49 (((nI 24) + a2)).toNatClampNeg)) * ((I 49 (((nI 24) + a1)).toNatClampNeg) - (I 49 (((nI 24) + a2)).toNatClampNeg)))) → (vp_in a1 11 ∧ mm_w Q (mm_wc d) bk_210 79 [some (.ref 46), some (.int a1), some (.int (a2 + (nI 1))), none, none] [] ((fl, n1, n2, p, q, ad), (mm_up I 54 a1.toNatClampNeg ((I 54 a1.toNatClampNeg) ||| ((nI 1) <<< (a2 &&& 31)))), J)))))))))))))) : mm_w Q (mm_wc (d)) bk_210 79 [some (.ref 46), some (.int a1), some (.int a2), none, none] [] ((fl, n1, n2, p, q, ad), I, J) := by
  refine mm_go [2, 19, 64, 79] 80 ?_
  show ((nI 11) ≤ a2 → _) ∧ (¬ (nI 11) ≤ a2 → _)
  refine ⟨fun c0 => ?_, fun c0 => ?_⟩
  · exact (h.1 c0)
  · show mm_b _ _ _ _ _ [some (.ref 46), some (.int a1), some (.int a2), none, none] [] ((fl, n1, n2, p, q, ad), I, J)
    show vp_in ((nI 13) + a1) 279 ∧ _
    refine ⟨(h.2 c0).1, ?_⟩
    show mm_b _ _ _ _ _ [some (.ref 46), some (.int a1), some (.int a2), none, none] [.int (I 49 (((nI 13) + a1)).toNatClampNeg)] ((fl, n1, n2, p, q, ad), I, J)
    show vp_in ((nI 13) + a2) 279 ∧ _
    refine ⟨(h.2 c0).2.1, ?_⟩
    show mm_b _ _ _ _ _ [some (.ref 46), some (.int a1), some (.int a2), none, none] [.int (I 49 (((nI 13) + a2)).toNatClampNeg), .int (I 49 (((nI 13) + a1)).toNatClampNeg)] ((fl, n1, n2, p, q, ad), I, J)
    show vp_in ((nI 24) + a1) 279 ∧ _
    refine ⟨(h.2 c0).2.2.1, ?_⟩
    show mm_b _ _ _ _ _ [some (.ref 46), some (.int a1), some (.int a2), some (.int ((I 49 (((nI 13) + a1)).toNatClampNeg) - (I 49 (((nI 13) + a2)).toNatClampNeg))), none] [.int (I 49 (((nI 24) + a1)).toNatClampNeg)] ((fl, n1, n2, p, q, ad), I, J)
    show vp_in ((nI 24) + a2) 279 ∧ _
    refine ⟨(h.2 c0).2.2.2.1, ?_⟩
    show mm_b _ _ _ _ _ [some (.ref 46), some (.int a1), some (.int a2), some (.int ((I 49 (((nI 13) + a1)).toNatClampNeg) - (I 49 (((nI 13) + a2)).toNatClampNeg))), none] [.int (I 49 (((nI 24) + a2)).toNatClampNeg), .int (I 49 (((nI 24) + a1)).toNatClampNeg)] ((fl, n1, n2, p, q, ad), I, J)
    show vp_in a1 11 ∧ _
    refine ⟨(h.2 c0).2.2.2.2.1, ?_⟩
    show mm_b _ _ _ _ _ [some (.ref 46), some (.int a1), some (.int a2), some (.int ((I 49 (((nI 13) + a1)).toNatClampNeg) - (I 49 (((nI 13) + a2)).toNatClampNeg))), some (.int ((I 49 (((nI 24) + a1)).toNatClampNeg) - (I 49 (((nI 24) + a2)).toNatClampNeg)))] [.int (I 54 a1.toNatClampNeg), .int a1, .ref 54] ((fl, n1, n2, p, q, ad), I, J)
    show (a1 = a2 → _) ∧ (¬ a1 = a2 → _)
    refine ⟨fun c1 => ?_, fun c1 => ?_⟩
    · show mm_u _ _ _ _ _ _ [some (.ref 46), some (.int a1), some (.int a2), some (.int ((I 49 (((nI 13) + a1)).toNatClampNeg) - (I 49 (((nI 13) + a2)).toNatClampNeg))), some (.int ((I 49 (((nI 24) + a1)).toNatClampNeg) - (I 49 (((nI 24) + a2)).toNatClampNeg)))] [.int (I 54 a1.toNatClampNeg), .int a1, .ref 54] ((fl, n1, n2, p, q, ad), I, J)
      show vp_in a1 11 ∧ _
      refine ⟨((h.2 c0).2.2.2.2.2.1 c1).1, ?_⟩
      exact ((h.2 c0).2.2.2.2.2.1 c1).2
    · show mm_b _ _ _ _ _ [some (.ref 46), some (.int a1), some (.int a2), some (.int ((I 49 (((nI 13) + a1)).toNatClampNeg) - (I 49 (((nI 13) + a2)).toNatClampNeg))), some (.int ((I 49 (((nI 24) + a1)).toNatClampNeg) - (I 49 (((nI 24) + a2)).toNatClampNeg)))] [.int (I 54 a1.toNatClampNeg), .int a1, .ref 54] ((fl, n1, n2, p, q, ad), I, J)
      show (vp_in (nI 1) 279) ∧ _
      refine ⟨(mm_inl (by decide)), ?_⟩
      show mm_b _ _ _ _ _ [some (.ref 46), some (.int a1), some (.int a2), some (.int ((I 49 (((nI 13) + a1)).toNatClampNeg) - (I 49 (((nI 13) + a2)).toNatClampNeg))), some (.int ((I 49 (((nI 24) + a1)).toNatClampNeg) - (I 49 (((nI 24) + a2)).toNatClampNeg)))] [.int (I 49 1), .int ((((I 49 (((nI 13) + a1)).toNatClampNeg) - (I 49 (((nI 13) + a2)).toNatClampNeg)) * ((I 49 (((nI 13) + a1)).toNatClampNeg) - (I 49 (((nI 13) + a2)).toNatClampNeg))) + (((I 49 (((nI 24) + a1)).toNatClampNeg) - (I 49 (((nI 24) + a2)).toNatClampNeg)) * ((I 49 (((nI 24) + a1)).toNatClampNeg) - (I 49 (((nI 24) + a2)).toNatClampNeg)))), .int (I 54 a1.toNatClampNeg), .int a1, .ref 54] ((fl, n1, n2, p, q, ad), I, J)
      show (vp_in (nI 1) 279) ∧ _
      refine ⟨(mm_inl (by decide)), ?_⟩
      show mm_b _ _ _ _ _ [some (.ref 46), some (.int a1), some (.int a2), some (.int ((I 49 (((nI 13) + a1)).toNatClampNeg) - (I 49 (((nI 13) + a2)).toNatClampNeg))), some (.int ((I 49 (((nI 24) + a1)).toNatClampNeg) - (I 49 (((nI 24) + a2)).toNatClampNeg)))] [.int (I 49 1), .int (I 49 1), .int ((((I 49 (((nI 13) + a1)).toNatClampNeg) - (I 49 (((nI 13) + a2)).toNatClampNeg)) * ((I 49 (((nI 13) + a1)).toNatClampNeg) - (I 49 (((nI 13) + a2)).toNatClampNeg))) + (((I 49 (((nI 24) + a1)).toNatClampNeg) - (I 49 (((nI 24) + a2)).toNatClampNeg)) * ((I 49 (((nI 24) + a1)).toNatClampNeg) - (I 49 (((nI 24) + a2)).toNatClampNeg)))), .int (I 54 a1.toNatClampNeg), .int a1, .ref 54] ((fl, n1, n2, p, q, ad), I, J)
      show (((I 49 1) * (I 49 1)) < ((((I 49 (((nI 13) + a1)).toNatClampNeg) - (I 49 (((nI 13) + a2)).toNatClampNeg)) * ((I 49 (((nI 13) + a1)).toNatClampNeg) - (I 49 (((nI 13) + a2)).toNatClampNeg))) + (((I 49 (((nI 24) + a1)).toNatClampNeg) - (I 49 (((nI 24) + a2)).toNatClampNeg)) * ((I 49 (((nI 24) + a1)).toNatClampNeg) - (I 49 (((nI 24) + a2)).toNatClampNeg)))) → _) ∧ (¬ ((I 49 1) * (I 49 1)) < ((((I 49 (((nI 13) + a1)).toNatClampNeg) - (I 49 (((nI 13) + a2)).toNatClampNeg)) * ((I 49 (((nI 13) + a1)).toNatClampNeg) - (I 49 (((nI 13) + a2)).toNatClampNeg))) + (((I 49 (((nI 24) + a1)).toNatClampNeg) - (I 49 (((nI 24) + a2)).toNatClampNeg)) * ((I 49 (((nI 24) + a1)).toNatClampNeg) - (I 49 (((nI 24) + a2)).toNatClampNeg)))) → _)
      refine ⟨fun c2 => ?_, fun c2 => ?_⟩
      · show mm_u _ _ _ _ _ _ [some (.ref 46), some (.int a1), some (.int a2), some (.int ((I 49 (((nI 13) + a1)).toNatClampNeg) - (I 49 (((nI 13) + a2)).toNatClampNeg))), some (.int ((I 49 (((nI 24) + a1)).toNatClampNeg) - (I 49 (((nI 24) + a2)).toNatClampNeg)))] [.int (I 54 a1.toNatClampNeg), .int a1, .ref 54] ((fl, n1, n2, p, q, ad), I, J)
        show vp_in a1 11 ∧ _
        refine ⟨(((h.2 c0).2.2.2.2.2.2 c1).1 c2).1, ?_⟩
        exact (((h.2 c0).2.2.2.2.2.2 c1).1 c2).2
      · show mm_b _ _ _ _ _ [some (.ref 46), some (.int a1), some (.int a2), some (.int ((I 49 (((nI 13) + a1)).toNatClampNeg) - (I 49 (((nI 13) + a2)).toNatClampNeg))), some (.int ((I 49 (((nI 24) + a1)).toNatClampNeg) - (I 49 (((nI 24) + a2)).toNatClampNeg)))] [.int (I 54 a1.toNatClampNeg), .int a1, .ref 54] ((fl, n1, n2, p, q, ad), I, J)
        show vp_in a1 11 ∧ _
        refine ⟨(((h.2 c0).2.2.2.2.2.2 c1).2 c2).1, ?_⟩
        exact (((h.2 c0).2.2.2.2.2.2 c1).2 c2).2
/- 211 ThreeBreathsModel ofKind -/
theorem fx_211 {d : Nat} {x0 : Int32} {fl : Nat → Bool} {n1 n2 : Nat} {p q : Bool} {ad : Nat → Nat} {I : mmI} {J : mmJ} {Q : mmQ} (h : mm_w Q (mm_wc d) bk_211 4 [some (.ref 46), some (.int x0), some (.int (nI 0)), some (.int (nI 0))] [] ((fl, n1, n2, p, q, ad), I, J)) : mm_wc (d + 1) 211 [.ref 46, .int x0] ((fl, n1, n2, p, q, ad), I, J) Q := by
  refine mm_call (c := 211) rfl rfl ?_
  refine mm_go [4] 80 ?_
  exact h
theorem fx_211_4 {d : Nat} {a1 : Int32} {a2 : Int32} {a3 : Int32} {fl : Nat → Bool} {n1 n2 : Nat} {p q : Bool} {ad : Nat → Nat} {I : mmI} {J : mmJ} {Q : mmQ} (h : (((I 49 3) ≤ a3 → Q (some (.int a2)) ((fl, n1, n2, p, q, ad), I, J)) ∧ (¬ (I 49 3) ≤ a3 → (vp_in ((nI 35) + a3) 279 ∧ ((¬ (I 49 (((nI 35) + a3)).toNatClampNeg) = a1 → mm_w Q (mm_wc d) bk_211 4 [some (.ref 46), some (.int a1), some (.int (a2 ||| (nI 0))), some (.int (a3 + (nI 1)))] [] ((fl, n1, n2, p, q, ad), I, J)) ∧ ((I 49 (((nI 35) + a3)).toNatClampNeg) = a1 → mm_w Q (mm_wc d) bk_211 4 [some (.ref 46), some (.int a1), some (.int (a2 ||| ((nI 1) <<< (a3 &&& 31)))), some (.int (a3 + (nI 1)))] [] ((fl, n1, n2, p, q, ad), I, J))))))) : mm_w Q (mm_wc (d)) bk_211 4 [some (.ref 46), some (.int a1), some (.int a2), some (.int a3)] [] ((fl, n1, n2, p, q, ad), I, J) := by
  refine mm_go [4] 80 ?_
  show (vp_in (nI 3) 279) ∧ _
  refine ⟨(mm_inl (by decide)), ?_⟩
  show mm_b _ _ _ _ _ [some (.ref 46), some (.int a1), some (.int a2), some (.int a3)] [.int (I 49 3), .int a3] ((fl, n1, n2, p, q, ad), I, J)
  show ((I 49 3) ≤ a3 → _) ∧ (¬ (I 49 3) ≤ a3 → _)
  refine ⟨fun c0 => ?_, fun c0 => ?_⟩
  · exact (h.1 c0)
  · show mm_b _ _ _ _ _ [some (.ref 46), some (.int a1), some (.int a2), some (.int a3)] [] ((fl, n1, n2, p, q, ad), I, J)
    show vp_in ((nI 35) + a3) 279 ∧ _
    refine ⟨(h.2 c0).1, ?_⟩
    show mm_b _ _ _ _ _ [some (.ref 46), some (.int a1), some (.int a2), some (.int a3)] [.int (I 49 (((nI 35) + a3)).toNatClampNeg), .int a2] ((fl, n1, n2, p, q, ad), I, J)
    show (¬ (I 49 (((nI 35) + a3)).toNatClampNeg) = a1 → _) ∧ ((I 49 (((nI 35) + a3)).toNatClampNeg) = a1 → _)
    refine ⟨fun c1 => ?_, fun c1 => ?_⟩
    · exact ((h.2 c0).2.1 c1)
    · exact ((h.2 c0).2.2 c1)
/- 212 ThreeBreathsModel blown -/
theorem fx_212 {d : Nat} {x0 : Int32} {x1 : Int32} {x2 : Int32} {fl : Nat → Bool} {n1 n2 : Nat} {p q : Bool} {ad : Nat → Nat} {I : mmI} {J : mmJ} {Q : mmQ} (h : mm_wc d 211 [.ref 46, .int (nI 3)] ((fl, 0, 0, p, q, ad), I, J) (fun v τ => ∃ r1 I1 J1, v = some (.int r1) ∧ τ = ((fl, 0, 0, p, q, ad), I1, J1) ∧ mm_wc d 211 [.ref 46, .int (nI 2)] ((fl, 0, 0, p, q, ad), I1, J1) (fun v τ => ∃ r2 I2 J2, v = some (.int r2) ∧ τ = ((fl, 0, 0, p, q, ad), I2, J2) ∧ mm_w Q (mm_wc d) bk_212 57 [some (.ref 46), none, none, none, none, some (.int (((x0 &&& x2) &&& (r1 &&& (I1 46 27))) &&& (x1 ^^^ (-1)))), some (.int ((x0 &&& (x2 ^^^ (-1))) ||| (((x0 &&& x2) &&& (r1 &&& (I1 46 27))) &&& (x1 ^^^ (-1))))), some (.int ((r2 &&& (I2 46 27)) &&& (((x0 &&& (x2 ^^^ (-1))) ||| (((x0 &&& x2) &&& (r1 &&& (I1 46 27))) &&& (x1 ^^^ (-1)))) ^^^ (-1)))), some (.int (nI 0)), some (.int (nI 0))] [] ((fl, n1, n2, p, q, ad), I2, J2)))) : mm_wc (d + 1) 212 [.ref 46, .int x0, .int x1, .int x2] ((fl, n1, n2, p, q, ad), I, J) Q := by
  refine mm_call (c := 212) rfl rfl ?_
  refine mm_go [57] 80 ?_
  show mm_wc d 211 [.ref 46, .int (nI 3)] ((fl, 0, 0, p, q, ad), I, J) _
  refine mm_wcm h ?_
  rintro v τ ⟨r1, I1, J1, rfl, rfl, h1⟩
  refine mm_r1' ⟨rfl, ?_⟩
  show mm_b _ _ _ _ _ [some (.ref 46), some (.int x0), some (.int x1), some (.int x2), none, none, none, none, none, none] [.int r1] ((fl, n1, n2, p, q, ad), I1, J1)
  show mm_wc d 211 [.ref 46, .int (nI 2)] ((fl, 0, 0, p, q, ad), I1, J1) _
  refine mm_wcm h1 ?_
  rintro v τ ⟨r2, I2, J2, rfl, rfl, h2⟩
  refine mm_r1' ⟨rfl, ?_⟩
  exact h2
theorem fx_212_57 {d : Nat} {a5 : Int32} {a6 : Int32} {a7 : Int32} {a8 : Int32} {a9 : Int32} {fl : Nat → Bool} {n1 n2 : Nat} {p q : Bool} {ad : Nat → Nat} {I : mmI} {J : mmJ} {Q : mmQ} (h : (((I 49 3) ≤ a9 → Q (some (.int ((a6 ||| a8) ||| (a5 <<< ((nI 14) &&& 31))))) ((fl, n1, n2, p, q, ad), I, J)) ∧ (¬ (I 49 3) ≤ a9 → mm_wc d 170 [.int a7, .int a9] ((fl, 0, 0, p, q, ad), I, J) (fun v τ => ∃ r1 I1 J1, v = some (.int r1) ∧ τ = ((fl, 0, 0, p, q, ad), I1, J1) ∧ ((r1 = (nI 0) → mm_w Q (mm_wc d) bk_212 57 [some (.ref 46), none, none, none, none, some (.int a5), some (.int a6), some (.int a7), some (.int (a8 ||| (nI 0))), some (.int (a9 + (nI 1)))] [] ((fl, n1, n2, p, q, ad), I1, J1)) ∧ (¬ r1 = (nI 0) → (vp_in a9 11 ∧ ((((I1 54 a9.toNatClampNeg) &&& a6) = (nI 0) → mm_w Q (mm_wc d) bk_212 57 [some (.ref 46), none, none, none, none, some (.int a5), some (.int a6), some (.int a7), some (.int (a8 ||| (nI 0))), some (.int (a9 + (nI 1)))] [] ((fl, n1, n2, p, q, ad), I1, J1)) ∧ (¬ ((I1 54 a9.toNatClampNeg) &&& a6) = (nI 0) → mm_w Q (mm_wc d) bk_212 57 [some (.ref 46), none, none, none, none, some (.int a5), some (.int a6), some (.int a7), some (.int (a8 ||| ((nI 1) <<< (a9 &&& 31)))), some (.int (a9 + (nI 1)))] [] ((fl, n1, n2, p, q, ad), I1, J1)))))))))) : mm_w Q (mm_wc (d)) bk_212 57 [some (.ref 46), none, none, none, none, some (.int a5), some (.int a6), some (.int a7), some (.int a8), some (.int a9)] [] ((fl, n1, n2, p, q, ad), I, J) := by
  refine mm_go [57] 80 ?_
  show (vp_in (nI 3) 279) ∧ _
  refine ⟨(mm_inl (by decide)), ?_⟩
  show mm_b _ _ _ _ _ [some (.ref 46), none, none, none, none, some (.int a5), some (.int a6), some (.int a7), some (.int a8), some (.int a9)] [.int (I 49 3), .int a9] ((fl, n1, n2, p, q, ad), I, J)
  show ((I 49 3) ≤ a9 → _) ∧ (¬ (I 49 3) ≤ a9 → _)
  refine ⟨fun c0 => ?_, fun c0 => ?_⟩
  · exact (h.1 c0)
  · show mm_b _ _ _ _ _ [some (.ref 46), none, none, none, none, some (.int a5), some (.int a6), some (.int a7), some (.int a8), some (.int a9)] [] ((fl, n1, n2, p, q, ad), I, J)
    show mm_wc d 170 [.int a7, .int a9] ((fl, 0, 0, p, q, ad), I, J) _
    refine mm_wcm (h.2 c0) ?_
    rintro v τ ⟨r1, I1, J1, rfl, rfl, h1⟩
    refine mm_r1' ⟨rfl, ?_⟩
    show mm_b _ _ _ _ _ [some (.ref 46), none, none, none, none, some (.int a5), some (.int a6), some (.int a7), some (.int a8), some (.int a9)] [.int r1, .int a8] ((fl, n1, n2, p, q, ad), I1, J1)
    show (r1 = (nI 0) → _) ∧ (¬ r1 = (nI 0) → _)
    refine ⟨fun c1 => ?_, fun c1 => ?_⟩
    · exact (h1.1 c1)
    · show mm_b _ _ _ _ _ [some (.ref 46), none, none, none, none, some (.int a5), some (.int a6), some (.int a7), some (.int a8), some (.int a9)] [.int a8] ((fl, n1, n2, p, q, ad), I1, J1)
      show vp_in a9 11 ∧ _
      refine ⟨(h1.2 c1).1, ?_⟩
      show mm_b _ _ _ _ _ [some (.ref 46), none, none, none, none, some (.int a5), some (.int a6), some (.int a7), some (.int a8), some (.int a9)] [.int (I1 54 a9.toNatClampNeg), .int a8] ((fl, n1, n2, p, q, ad), I1, J1)
      show (((I1 54 a9.toNatClampNeg) &&& a6) = (nI 0) → _) ∧ (¬ ((I1 54 a9.toNatClampNeg) &&& a6) = (nI 0) → _)
      refine ⟨fun c2 => ?_, fun c2 => ?_⟩
      · exact ((h1.2 c1).2.1 c2)
      · exact ((h1.2 c1).2.2 c2)
/- 213 ThreeBreathsModel burnOf -/
theorem fx_213 {d : Nat} {x0 : Int32} {fl : Nat → Bool} {n1 n2 : Nat} {p q : Bool} {ad : Nat → Nat} {I : mmI} {J : mmJ} {Q : mmQ} (h : Q (some (.int (x0 &&& (nI 16383)))) ((fl, n1, n2, p, q, ad), I, J)) : mm_wc (d + 1) 213 [.int x0] ((fl, n1, n2, p, q, ad), I, J) Q := by
  refine mm_call (c := 213) rfl rfl ?_
  refine mm_go [] 80 ?_
  exact h
/- 214 ThreeBreathsModel dazeOf -/
theorem fx_214 {d : Nat} {x0 : Int32} {fl : Nat → Bool} {n1 n2 : Nat} {p q : Bool} {ad : Nat → Nat} {I : mmI} {J : mmJ} {Q : mmQ} (h : Q (some (.int (x0 >>> ((nI 14) &&& 31)))) ((fl, n1, n2, p, q, ad), I, J)) : mm_wc (d + 1) 214 [.int x0] ((fl, n1, n2, p, q, ad), I, J) Q := by
  refine mm_call (c := 214) rfl rfl ?_
  refine mm_go [] 80 ?_
  exact h
/- 215 ThreeBreathsModel candle -/
theorem fx_215 {d : Nat} {x0 : Int32} {x1 : Int32} {fl : Nat → Bool} {n1 n2 : Nat} {p q : Bool} {ad : Nat → Nat} {I : mmI} {J : mmJ} {Q : mmQ} (h : mm_wc d 166 [.ref 46] ((fl, 0, 0, p, q, ad), I, J) (fun v τ => ∃ I1 J1, v = none ∧ τ = ((fl, 0, 0, p, q, ad), I1, J1) ∧ mm_wc d 201 [.ref 46, .int x0] ((fl, 0, 0, p, q, ad), I1, J1) (fun v τ => ∃ r2 I2 J2, v = some (.int r2) ∧ τ = ((fl, 0, 0, p, q, ad), I2, J2) ∧ ((r2 = (nI 0) → mm_wc d 167 [.ref 46, .int (nI 1)] ((fl, 0, 0, p, q, ad), I2, J2) (fun v τ => ∃ r3 I3 J3, v = some (.int r3) ∧ τ = ((fl, 0, 0, p, q, ad), I3, J3) ∧ Q (some (.int r3)) ((fl, n1, n2, p, q, ad), I3, J3))) ∧ (¬ r2 = (nI 0) → mm_wc d 169 [.int x1, .int (nI 0), .int (nI 2)] ((fl, 0, 0, p, q, ad), I2, J2) (fun v τ => ∃ r4 I4 J4, v = some (.int r4) ∧ τ = ((fl, 0, 0, p, q, ad), I4, J4) ∧ ((r4 = (nI 0) → mm_wc d 167 [.ref 46, .int (nI 1)] ((fl, 0, 0, p, q, ad), I4, J4) (fun v τ => ∃ r5 I5 J5, v = some (.int r5) ∧ τ = ((fl, 0, 0, p, q, ad), I5, J5) ∧ Q (some (.int r5)) ((fl, n1, n2, p, q, ad), I5, J5))) ∧ (¬ r4 = (nI 0) → (vp_in (((nI 13) + ((nI 11) * x1)) + x0) 279 ∧ Q (some (.int (I4 49 ((((nI 13) + ((nI 11) * x1)) + x0)).toNatClampNeg))) ((fl, n1, n2, p, q, ad), I4, J4)))))))))) : mm_wc (d + 1) 215 [.ref 46, .int x0, .int x1] ((fl, n1, n2, p, q, ad), I, J) Q := by
  refine mm_call (c := 215) rfl rfl ?_
  refine mm_go [] 80 ?_
  show mm_wc d 166 [.ref 46] ((fl, 0, 0, p, q, ad), I, J) _
  refine mm_wcm h ?_
  rintro v τ ⟨I1, J1, rfl, rfl, h1⟩
  refine mm_r0' ⟨rfl, ?_⟩
  show mm_b _ _ _ _ _ [some (.ref 46), some (.int x0), some (.int x1)] [] ((fl, n1, n2, p, q, ad), I1, J1)
  show mm_wc d 201 [.ref 46, .int x0] ((fl, 0, 0, p, q, ad), I1, J1) _
  refine mm_wcm h1 ?_
  rintro v τ ⟨r2, I2, J2, rfl, rfl, h2⟩
  refine mm_r1' ⟨rfl, ?_⟩
  show mm_b _ _ _ _ _ [some (.ref 46), some (.int x0), some (.int x1)] [.int r2] ((fl, n1, n2, p, q, ad), I2, J2)
  show (r2 = (nI 0) → _) ∧ (¬ r2 = (nI 0) → _)
  refine ⟨fun c0 => ?_, fun c0 => ?_⟩
  · show mm_u _ _ _ _ _ _ [some (.ref 46), some (.int x0), some (.int x1)] [] ((fl, n1, n2, p, q, ad), I2, J2)
    show mm_wc d 167 [.ref 46, .int (nI 1)] ((fl, 0, 0, p, q, ad), I2, J2) _
    refine mm_wcm (h2.1 c0) ?_
    rintro v τ ⟨r3, I3, J3, rfl, rfl, h3⟩
    refine mm_r1' ⟨rfl, ?_⟩
    exact h3
  · show mm_b _ _ _ _ _ [some (.ref 46), some (.int x0), some (.int x1)] [] ((fl, n1, n2, p, q, ad), I2, J2)
    show mm_wc d 169 [.int x1, .int (nI 0), .int (nI 2)] ((fl, 0, 0, p, q, ad), I2, J2) _
    refine mm_wcm (h2.2 c0) ?_
    rintro v τ ⟨r4, I4, J4, rfl, rfl, h4⟩
    refine mm_r1' ⟨rfl, ?_⟩
    show mm_b _ _ _ _ _ [some (.ref 46), some (.int x0), some (.int x1)] [.int r4] ((fl, n1, n2, p, q, ad), I4, J4)
    show (r4 = (nI 0) → _) ∧ (¬ r4 = (nI 0) → _)
    refine ⟨fun c1 => ?_, fun c1 => ?_⟩
    · show mm_u _ _ _ _ _ _ [some (.ref 46), some (.int x0), some (.int x1)] [] ((fl, n1, n2, p, q, ad), I4, J4)
      show mm_wc d 167 [.ref 46, .int (nI 1)] ((fl, 0, 0, p, q, ad), I4, J4) _
      refine mm_wcm (h4.1 c1) ?_
      rintro v τ ⟨r5, I5, J5, rfl, rfl, h5⟩
      refine mm_r1' ⟨rfl, ?_⟩
      exact h5
    · show mm_b _ _ _ _ _ [some (.ref 46), some (.int x0), some (.int x1)] [] ((fl, n1, n2, p, q, ad), I4, J4)
      show vp_in (((nI 13) + ((nI 11) * x1)) + x0) 279 ∧ _
      refine ⟨(h4.2 c1).1, ?_⟩
      exact (h4.2 c1).2
/- 216 ThreeBreathsModel fan -/
theorem fx_216 {d : Nat} {x0 : Int32} {fl : Nat → Bool} {n1 n2 : Nat} {p q : Bool} {ad : Nat → Nat} {I : mmI} {J : mmJ} {Q : mmQ} (h : mm_wc d 166 [.ref 46] ((fl, 0, 0, p, q, ad), I, J) (fun v τ => ∃ I1 J1, v = none ∧ τ = ((fl, 0, 0, p, q, ad), I1, J1) ∧ mm_wc d 204 [.ref 46, .int x0] ((fl, 0, 0, p, q, ad), I1, J1) (fun v τ => ∃ r2 I2 J2, v = some (.int r2) ∧ τ = ((fl, 0, 0, p, q, ad), I2, J2) ∧ ((r2 = (nI 0) → mm_wc d 167 [.ref 46, .int (nI 1)] ((fl, 0, 0, p, q, ad), I2, J2) (fun v τ => ∃ r3 I3 J3, v = some (.int r3) ∧ τ = ((fl, 0, 0, p, q, ad), I3, J3) ∧ Q (some (.int r3)) ((fl, n1, n2, p, q, ad), I3, J3))) ∧ (¬ r2 = (nI 0) → (vp_in x0 320 ∧ mm_wc d 205 [.ref 46] ((fl, 0, 0, p, q, ad), I2, J2) (fun v τ => ∃ r4 I4 J4, v = some (.int r4) ∧ τ = ((fl, 0, 0, p, q, ad), I4, J4) ∧ Q (some (.int ((I2 53 x0.toNatClampNeg) &&& r4))) ((fl, n1, n2, p, q, ad), I4, J4)))))))) : mm_wc (d + 1) 216 [.ref 46, .int x0] ((fl, n1, n2, p, q, ad), I, J) Q := by
  refine mm_call (c := 216) rfl rfl ?_
  refine mm_go [] 80 ?_
  show mm_wc d 166 [.ref 46] ((fl, 0, 0, p, q, ad), I, J) _
  refine mm_wcm h ?_
  rintro v τ ⟨I1, J1, rfl, rfl, h1⟩
  refine mm_r0' ⟨rfl, ?_⟩
  show mm_b _ _ _ _ _ [some (.ref 46), some (.int x0)] [] ((fl, n1, n2, p, q, ad), I1, J1)
  show mm_wc d 204 [.ref 46, .int x0] ((fl, 0, 0, p, q, ad), I1, J1) _
  refine mm_wcm h1 ?_
  rintro v τ ⟨r2, I2, J2, rfl, rfl, h2⟩
  refine mm_r1' ⟨rfl, ?_⟩
  show mm_b _ _ _ _ _ [some (.ref 46), some (.int x0)] [.int r2] ((fl, n1, n2, p, q, ad), I2, J2)
  show (r2 = (nI 0) → _) ∧ (¬ r2 = (nI 0) → _)
  refine ⟨fun c0 => ?_, fun c0 => ?_⟩
  · show mm_u _ _ _ _ _ _ [some (.ref 46), some (.int x0)] [] ((fl, n1, n2, p, q, ad), I2, J2)
    show mm_wc d 167 [.ref 46, .int (nI 1)] ((fl, 0, 0, p, q, ad), I2, J2) _
    refine mm_wcm (h2.1 c0) ?_
    rintro v τ ⟨r3, I3, J3, rfl, rfl, h3⟩
    refine mm_r1' ⟨rfl, ?_⟩
    exact h3
  · show mm_b _ _ _ _ _ [some (.ref 46), some (.int x0)] [] ((fl, n1, n2, p, q, ad), I2, J2)
    show vp_in x0 320 ∧ _
    refine ⟨(h2.2 c0).1, ?_⟩
    show mm_b _ _ _ _ _ [some (.ref 46), some (.int x0)] [.int (I2 53 x0.toNatClampNeg)] ((fl, n1, n2, p, q, ad), I2, J2)
    show mm_wc d 205 [.ref 46] ((fl, 0, 0, p, q, ad), I2, J2) _
    refine mm_wcm ((h2.2 c0).2) ?_
    rintro v τ ⟨r4, I4, J4, rfl, rfl, h4⟩
    refine mm_r1' ⟨rfl, ?_⟩
    exact h4
/- 217 ThreeBreathsModel breath -/
theorem fx_217 {d : Nat} {x0 : Int32} {x1 : Int32} {x2 : Int32} {fl : Nat → Bool} {n1 n2 : Nat} {p q : Bool} {ad : Nat → Nat} {I : mmI} {J : mmJ} {Q : mmQ} (h : mm_wc d 166 [.ref 46] ((fl, 0, 0, p, q, ad), I, J) (fun v τ => ∃ I1 J1, v = none ∧ τ = ((fl, 0, 0, p, q, ad), I1, J1) ∧ mm_wc d 203 [.ref 46, .int x0] ((fl, 0, 0, p, q, ad), I1, J1) (fun v τ => ∃ r2 I2 J2, v = some (.int r2) ∧ τ = ((fl, 0, 0, p, q, ad), I2, J2) ∧ ((r2 = (nI 0) → mm_wc d 167 [.ref 46, .int (nI 1)] ((fl, 0, 0, p, q, ad), I2, J2) (fun v τ => ∃ r3 I3 J3, v = some (.int r3) ∧ τ = ((fl, 0, 0, p, q, ad), I3, J3) ∧ Q (some (.int r3)) ((fl, n1, n2, p, q, ad), I3, J3))) ∧ (¬ r2 = (nI 0) → mm_wc d 202 [.ref 46, .int x1] ((fl, 0, 0, p, q, ad), I2, J2) (fun v τ => ∃ r4 I4 J4, v = some (.int r4) ∧ τ = ((fl, 0, 0, p, q, ad), I4, J4) ∧ ((r4 = (nI 0) → mm_wc d 167 [.ref 46, .int (nI 1)] ((fl, 0, 0, p, q, ad), I4, J4) (fun v τ => ∃ r5 I5 J5, v = some (.int r5) ∧ τ = ((fl, 0, 0, p, q, ad), I5, J5) ∧ Q (some (.int r5)) ((fl, n1, n2, p, q, ad), I5, J5))) ∧ (¬ r4 = (nI 0) → mm_wc d 169 [.int x2, .int (nI 0), .int (nI 15)] ((fl, 0, 0, p, q, ad), I4, J4) (fun v τ => ∃ r6 I6 J6, v = some (.int r6) ∧ τ = ((fl, 0, 0, p, q, ad), I6, J6) ∧ ((r6 = (nI 0) → mm_wc d 167 [.ref 46, .int (nI 1)] ((fl, 0, 0, p, q, ad), I6, J6) (fun v τ => ∃ r7 I7 J7, v = some (.int r7) ∧ τ = ((fl, 0, 0, p, q, ad), I7, J7) ∧ Q (some (.int r7)) ((fl, n1, n2, p, q, ad), I7, J7))) ∧ (¬ r6 = (nI 0) → Q (some (.int (((nI 16) * (((I6 49 4) * x0) + x1)) + x2))) ((fl, n1, n2, p, q, ad), I6, J6)))))))))))) : mm_wc (d + 1) 217 [.ref 46, .int x0, .int x1, .int x2] ((fl, n1, n2, p, q, ad), I, J) Q := by
  refine mm_call (c := 217) rfl rfl ?_
  refine mm_go [] 80 ?_
  show mm_wc d 166 [.ref 46] ((fl, 0, 0, p, q, ad), I, J) _
  refine mm_wcm h ?_
  rintro v τ ⟨I1, J1, rfl, rfl, h1⟩
  refine mm_r0' ⟨rfl, ?_⟩
  show mm_b _ _ _ _ _ [some (.ref 46), some (.int x0), some (.int x1), some (.int x2)] [] ((fl, n1, n2, p, q, ad), I1, J1)
  show mm_wc d 203 [.ref 46, .int x0] ((fl, 0, 0, p, q, ad), I1, J1) _
  refine mm_wcm h1 ?_
  rintro v τ ⟨r2, I2, J2, rfl, rfl, h2⟩
  refine mm_r1' ⟨rfl, ?_⟩
  show mm_b _ _ _ _ _ [some (.ref 46), some (.int x0), some (.int x1), some (.int x2)] [.int r2] ((fl, n1, n2, p, q, ad), I2, J2)
  show (r2 = (nI 0) → _) ∧ (¬ r2 = (nI 0) → _)
  refine ⟨fun c0 => ?_, fun c0 => ?_⟩
  · show mm_u _ _ _ _ _ _ [some (.ref 46), some (.int x0), some (.int x1), some (.int x2)] [] ((fl, n1, n2, p, q, ad), I2, J2)
    show mm_wc d 167 [.ref 46, .int (nI 1)] ((fl, 0, 0, p, q, ad), I2, J2) _
    refine mm_wcm (h2.1 c0) ?_
    rintro v τ ⟨r3, I3, J3, rfl, rfl, h3⟩
    refine mm_r1' ⟨rfl, ?_⟩
    exact h3
  · show mm_b _ _ _ _ _ [some (.ref 46), some (.int x0), some (.int x1), some (.int x2)] [] ((fl, n1, n2, p, q, ad), I2, J2)
    show mm_wc d 202 [.ref 46, .int x1] ((fl, 0, 0, p, q, ad), I2, J2) _
    refine mm_wcm (h2.2 c0) ?_
    rintro v τ ⟨r4, I4, J4, rfl, rfl, h4⟩
    refine mm_r1' ⟨rfl, ?_⟩
    show mm_b _ _ _ _ _ [some (.ref 46), some (.int x0), some (.int x1), some (.int x2)] [.int r4] ((fl, n1, n2, p, q, ad), I4, J4)
    show (r4 = (nI 0) → _) ∧ (¬ r4 = (nI 0) → _)
    refine ⟨fun c1 => ?_, fun c1 => ?_⟩
    · show mm_u _ _ _ _ _ _ [some (.ref 46), some (.int x0), some (.int x1), some (.int x2)] [] ((fl, n1, n2, p, q, ad), I4, J4)
      show mm_wc d 167 [.ref 46, .int (nI 1)] ((fl, 0, 0, p, q, ad), I4, J4) _
      refine mm_wcm (h4.1 c1) ?_
      rintro v τ ⟨r5, I5, J5, rfl, rfl, h5⟩
      refine mm_r1' ⟨rfl, ?_⟩
      exact h5
    · show mm_b _ _ _ _ _ [some (.ref 46), some (.int x0), some (.int x1), some (.int x2)] [] ((fl, n1, n2, p, q, ad), I4, J4)
      show mm_wc d 169 [.int x2, .int (nI 0), .int (nI 15)] ((fl, 0, 0, p, q, ad), I4, J4) _
      refine mm_wcm (h4.2 c1) ?_
      rintro v τ ⟨r6, I6, J6, rfl, rfl, h6⟩
      refine mm_r1' ⟨rfl, ?_⟩
      show mm_b _ _ _ _ _ [some (.ref 46), some (.int x0), some (.int x1), some (.int x2)] [.int r6] ((fl, n1, n2, p, q, ad), I6, J6)
      show (r6 = (nI 0) → _) ∧ (¬ r6 = (nI 0) → _)
      refine ⟨fun c2 => ?_, fun c2 => ?_⟩
      · show mm_u _ _ _ _ _ _ [some (.ref 46), some (.int x0), some (.int x1), some (.int x2)] [] ((fl, n1, n2, p, q, ad), I6, J6)
        show mm_wc d 167 [.ref 46, .int (nI 1)] ((fl, 0, 0, p, q, ad), I6, J6) _
        refine mm_wcm (h6.1 c2) ?_
        rintro v τ ⟨r7, I7, J7, rfl, rfl, h7⟩
        refine mm_r1' ⟨rfl, ?_⟩
        exact h7
      · show mm_b _ _ _ _ _ [some (.ref 46), some (.int x0), some (.int x1), some (.int x2)] [] ((fl, n1, n2, p, q, ad), I6, J6)
        show (vp_in (nI 4) 279) ∧ _
        refine ⟨(mm_inl (by decide)), ?_⟩
        exact (h6.2 c2)
/- 218 ThreeBreathsModel breathOf -/
theorem fx_218 {d : Nat} {x0 : Int32} {x1 : Int32} {fl : Nat → Bool} {n1 n2 : Nat} {p q : Bool} {ad : Nat → Nat} {I : mmI} {J : mmJ} {Q : mmQ} (h : mm_wc d 166 [.ref 46] ((fl, 0, 0, p, q, ad), I, J) (fun v τ => ∃ I1 J1, v = none ∧ τ = ((fl, 0, 0, p, q, ad), I1, J1) ∧ mm_wc d 204 [.ref 46, .int x0] ((fl, 0, 0, p, q, ad), I1, J1) (fun v τ => ∃ r2 I2 J2, v = some (.int r2) ∧ τ = ((fl, 0, 0, p, q, ad), I2, J2) ∧ ((r2 = (nI 0) → mm_wc d 167 [.ref 46, .int (nI 1)] ((fl, 0, 0, p, q, ad), I2, J2) (fun v τ => ∃ r3 I3 J3, v = some (.int r3) ∧ τ = ((fl, 0, 0, p, q, ad), I3, J3) ∧ Q (some (.int r3)) ((fl, n1, n2, p, q, ad), I3, J3))) ∧ (¬ r2 = (nI 0) → mm_wc d 169 [.int x1, .int (nI 0), .int (nI 2)] ((fl, 0, 0, p, q, ad), I2, J2) (fun v τ => ∃ r4 I4 J4, v = some (.int r4) ∧ τ = ((fl, 0, 0, p, q, ad), I4, J4) ∧ ((¬ r4 = (nI 0) → ((¬ x1 = (nI 0) → ((¬ x1 = (nI 1) → Q (some (.int (x0 - x0 / (nI 16) * (nI 16)))) ((fl, n1, n2, p, q, ad), I4, J4)) ∧ (x1 = (nI 1) → mm_wc d 208 [.ref 46, .int x0] ((fl, 0, 0, p, q, ad), I4, J4) (fun v τ => ∃ r5 I5 J5, v = some (.int r5) ∧ τ = ((fl, 0, 0, p, q, ad), I5, J5) ∧ Q (some (.int r5)) ((fl, n1, n2, p, q, ad), I5, J5))))) ∧ (x1 = (nI 0) → mm_wc d 207 [.ref 46, .int x0] ((fl, 0, 0, p, q, ad), I4, J4) (fun v τ => ∃ r6 I6 J6, v = some (.int r6) ∧ τ = ((fl, 0, 0, p, q, ad), I6, J6) ∧ Q (some (.int r6)) ((fl, n1, n2, p, q, ad), I6, J6))))) ∧ (r4 = (nI 0) → mm_wc d 167 [.ref 46, .int (nI 1)] ((fl, 0, 0, p, q, ad), I4, J4) (fun v τ => ∃ r7 I7 J7, v = some (.int r7) ∧ τ = ((fl, 0, 0, p, q, ad), I7, J7) ∧ Q (some (.int r7)) ((fl, n1, n2, p, q, ad), I7, J7)))))))))) : mm_wc (d + 1) 218 [.ref 46, .int x0, .int x1] ((fl, n1, n2, p, q, ad), I, J) Q := by
  refine mm_call (c := 218) rfl rfl ?_
  refine mm_go [] 80 ?_
  show mm_wc d 166 [.ref 46] ((fl, 0, 0, p, q, ad), I, J) _
  refine mm_wcm h ?_
  rintro v τ ⟨I1, J1, rfl, rfl, h1⟩
  refine mm_r0' ⟨rfl, ?_⟩
  show mm_b _ _ _ _ _ [some (.ref 46), some (.int x0), some (.int x1)] [] ((fl, n1, n2, p, q, ad), I1, J1)
  show mm_wc d 204 [.ref 46, .int x0] ((fl, 0, 0, p, q, ad), I1, J1) _
  refine mm_wcm h1 ?_
  rintro v τ ⟨r2, I2, J2, rfl, rfl, h2⟩
  refine mm_r1' ⟨rfl, ?_⟩
  show mm_b _ _ _ _ _ [some (.ref 46), some (.int x0), some (.int x1)] [.int r2] ((fl, n1, n2, p, q, ad), I2, J2)
  show (r2 = (nI 0) → _) ∧ (¬ r2 = (nI 0) → _)
  refine ⟨fun c0 => ?_, fun c0 => ?_⟩
  · show mm_u _ _ _ _ _ _ [some (.ref 46), some (.int x0), some (.int x1)] [] ((fl, n1, n2, p, q, ad), I2, J2)
    show mm_wc d 167 [.ref 46, .int (nI 1)] ((fl, 0, 0, p, q, ad), I2, J2) _
    refine mm_wcm (h2.1 c0) ?_
    rintro v τ ⟨r3, I3, J3, rfl, rfl, h3⟩
    refine mm_r1' ⟨rfl, ?_⟩
    exact h3
  · show mm_b _ _ _ _ _ [some (.ref 46), some (.int x0), some (.int x1)] [] ((fl, n1, n2, p, q, ad), I2, J2)
    show mm_wc d 169 [.int x1, .int (nI 0), .int (nI 2)] ((fl, 0, 0, p, q, ad), I2, J2) _
    refine mm_wcm (h2.2 c0) ?_
    rintro v τ ⟨r4, I4, J4, rfl, rfl, h4⟩
    refine mm_r1' ⟨rfl, ?_⟩
    show mm_b _ _ _ _ _ [some (.ref 46), some (.int x0), some (.int x1)] [.int r4] ((fl, n1, n2, p, q, ad), I4, J4)
    show (¬ r4 = (nI 0) → _) ∧ (r4 = (nI 0) → _)
    refine ⟨fun c1 => ?_, fun c1 => ?_⟩
    · show mm_u _ _ _ _ _ _ [some (.ref 46), some (.int x0), some (.int x1)] [] ((fl, n1, n2, p, q, ad), I4, J4)
      show (¬ x1 = (nI 0) → _) ∧ (x1 = (nI 0) → _)
      refine ⟨fun c2 => ?_, fun c2 => ?_⟩
      · show mm_u _ _ _ _ _ _ [some (.ref 46), some (.int x0), some (.int x1)] [] ((fl, n1, n2, p, q, ad), I4, J4)
        show (¬ x1 = (nI 1) → _) ∧ (x1 = (nI 1) → _)
        refine ⟨fun c3 => ?_, fun c3 => ?_⟩
        · show mm_u _ _ _ _ _ _ [some (.ref 46), some (.int x0), some (.int x1)] [] ((fl, n1, n2, p, q, ad), I4, J4)
          show (¬ ((nI 16) : Int32) = 0) ∧ _
          refine ⟨(by decide), ?_⟩
          exact (((h4.1 c1).1 c2).1 c3)
        · show mm_b _ _ _ _ _ [some (.ref 46), some (.int x0), some (.int x1)] [] ((fl, n1, n2, p, q, ad), I4, J4)
          show mm_wc d 208 [.ref 46, .int x0] ((fl, 0, 0, p, q, ad), I4, J4) _
          refine mm_wcm (((h4.1 c1).1 c2).2 c3) ?_
          rintro v τ ⟨r5, I5, J5, rfl, rfl, h5⟩
          refine mm_r1' ⟨rfl, ?_⟩
          exact h5
      · show mm_b _ _ _ _ _ [some (.ref 46), some (.int x0), some (.int x1)] [] ((fl, n1, n2, p, q, ad), I4, J4)
        show mm_wc d 207 [.ref 46, .int x0] ((fl, 0, 0, p, q, ad), I4, J4) _
        refine mm_wcm ((h4.1 c1).2 c2) ?_
        rintro v τ ⟨r6, I6, J6, rfl, rfl, h6⟩
        refine mm_r1' ⟨rfl, ?_⟩
        exact h6
    · show mm_b _ _ _ _ _ [some (.ref 46), some (.int x0), some (.int x1)] [] ((fl, n1, n2, p, q, ad), I4, J4)
      show mm_wc d 167 [.ref 46, .int (nI 1)] ((fl, 0, 0, p, q, ad), I4, J4) _
      refine mm_wcm (h4.2 c1) ?_
      rintro v τ ⟨r7, I7, J7, rfl, rfl, h7⟩
      refine mm_r1' ⟨rfl, ?_⟩
      exact h7
/- 219 ThreeBreathsModel fans -/
theorem fx_219 {d : Nat} {fl : Nat → Bool} {n1 n2 : Nat} {p q : Bool} {ad : Nat → Nat} {I : mmI} {J : mmJ} {Q : mmQ} (h : mm_wc d 166 [.ref 46] ((fl, 0, 0, p, q, ad), I, J) (fun v τ => ∃ I1 J1, v = none ∧ τ = ((fl, 0, 0, p, q, ad), I1, J1) ∧ ((¬ (I1 46 14) = (nI 0) → mm_w Q (mm_wc d) bk_219 21 [some (.ref 46), some (.int (nI 0)), some (.int (nI 0)), none, none, none] [] ((fl, n1, n2, p, q, ad), I1, J1)) ∧ ((I1 46 14) = (nI 0) → mm_wc d 167 [.ref 46, .int (nI 1)] ((fl, 0, 0, p, q, ad), I1, J1) (fun v τ => ∃ r2 I2 J2, v = some (.int r2) ∧ τ = ((fl, 0, 0, p, q, ad), I2, J2) ∧ Q (some (.int r2)) ((fl, n1, n2, p, q, ad), I2, J2)))))) : mm_wc (d + 1) 219 [.ref 46] ((fl, n1, n2, p, q, ad), I, J) Q := by
  refine mm_call (c := 219) rfl rfl ?_
  refine mm_go [21, 55] 80 ?_
  show mm_wc d 166 [.ref 46] ((fl, 0, 0, p, q, ad), I, J) _
  refine mm_wcm h ?_
  rintro v τ ⟨I1, J1, rfl, rfl, h1⟩
  refine mm_r0' ⟨rfl, ?_⟩
  show mm_b _ _ _ _ _ [some (.ref 46), none, none, none, none, none] [] ((fl, n1, n2, p, q, ad), I1, J1)
  show (¬ (I1 46 14) = (nI 0) → _) ∧ ((I1 46 14) = (nI 0) → _)
  refine ⟨fun c0 => ?_, fun c0 => ?_⟩
  · exact (h1.1 c0)
  · show mm_b _ _ _ _ _ [some (.ref 46), none, none, none, none, none] [] ((fl, n1, n2, p, q, ad), I1, J1)
    show mm_wc d 167 [.ref 46, .int (nI 1)] ((fl, 0, 0, p, q, ad), I1, J1) _
    refine mm_wcm (h1.2 c0) ?_
    rintro v τ ⟨r2, I2, J2, rfl, rfl, h2⟩
    refine mm_r1' ⟨rfl, ?_⟩
    exact h2
theorem fx_219_21 {d : Nat} {a1 : Int32} {a2 : Int32} {fl : Nat → Bool} {n1 n2 : Nat} {p q : Bool} {ad : Nat → Nat} {I : mmI} {J : mmJ} {Q : mmQ} (h : mm_wc d 206 [.ref 46] ((fl, 0, 0, p, q, ad), I, J) (fun v τ => ∃ r1 I1 J1, v = some (.int r1) ∧ τ = ((fl, 0, 0, p, q, ad), I1, J1) ∧ ((r1 ≤ a2 → Q (some (.int a1)) ((fl, n1, n2, p, q, ad), I1, J1)) ∧ (¬ r1 ≤ a2 → (vp_in a2 320 ∧ mm_wc d 205 [.ref 46] ((fl, 0, 0, p, q, ad), I1, J1) (fun v τ => ∃ r2 I2 J2, v = some (.int r2) ∧ τ = ((fl, 0, 0, p, q, ad), I2, J2) ∧ ((((I1 53 a2.toNatClampNeg) &&& r2) = (nI 0) → mm_w Q (mm_wc d) bk_219 55 [some (.ref 46), some (.int a1), some (.int a2), some (.int ((I1 53 a2.toNatClampNeg) &&& r2)), some (.int (nI 0)), some (.int (nI 0))] [] ((fl, n1, n2, p, q, ad), I2, J2)) ∧ (¬ ((I1 53 a2.toNatClampNeg) &&& r2) = (nI 0) → mm_w Q (mm_wc d) bk_219 55 [some (.ref 46), some (.int a1), some (.int a2), some (.int ((I1 53 a2.toNatClampNeg) &&& r2)), some (.int (nI 1)), some (.int (nI 0))] [] ((fl, n1, n2, p, q, ad), I2, J2))))))))) : mm_w Q (mm_wc (d)) bk_219 21 [some (.ref 46), some (.int a1), some (.int a2), none, none, none] [] ((fl, n1, n2, p, q, ad), I, J) := by
  refine mm_go [21, 55] 80 ?_
  show mm_wc d 206 [.ref 46] ((fl, 0, 0, p, q, ad), I, J) _
  refine mm_wcm h ?_
  rintro v τ ⟨r1, I1, J1, rfl, rfl, h1⟩
  refine mm_r1' ⟨rfl, ?_⟩
  show mm_b _ _ _ _ _ [some (.ref 46), some (.int a1), some (.int a2), none, none, none] [.int r1, .int a2] ((fl, n1, n2, p, q, ad), I1, J1)
  show (r1 ≤ a2 → _) ∧ (¬ r1 ≤ a2 → _)
  refine ⟨fun c0 => ?_, fun c0 => ?_⟩
  · exact (h1.1 c0)
  · show mm_b _ _ _ _ _ [some (.ref 46), some (.int a1), some (.int a2), none, none, none] [] ((fl, n1, n2, p, q, ad), I1, J1)
    show vp_in a2 320 ∧ _
    refine ⟨(h1.2 c0).1, ?_⟩
    show mm_b _ _ _ _ _ [some (.ref 46), some (.int a1), some (.int a2), none, none, none] [.int (I1 53 a2.toNatClampNeg)] ((fl, n1, n2, p, q, ad), I1, J1)
    show mm_wc d 205 [.ref 46] ((fl, 0, 0, p, q, ad), I1, J1) _
    refine mm_wcm ((h1.2 c0).2) ?_
    rintro v τ ⟨r2, I2, J2, rfl, rfl, h2⟩
    refine mm_r1' ⟨rfl, ?_⟩
    show mm_b _ _ _ _ _ [some (.ref 46), some (.int a1), some (.int a2), none, none, none] [.int r2, .int (I1 53 a2.toNatClampNeg)] ((fl, n1, n2, p, q, ad), I2, J2)
    show (((I1 53 a2.toNatClampNeg) &&& r2) = (nI 0) → _) ∧ (¬ ((I1 53 a2.toNatClampNeg) &&& r2) = (nI 0) → _)
    refine ⟨fun c1 => ?_, fun c1 => ?_⟩
    · exact (h2.1 c1)
    · exact (h2.2 c1)
theorem fx_219_55 {d : Nat} {a1 : Int32} {a2 : Int32} {a3 : Int32} {a4 : Int32} {a5 : Int32} {fl : Nat → Bool} {n1 n2 : Nat} {p q : Bool} {ad : Nat → Nat} {I : mmI} {J : mmJ} {Q : mmQ} (h : ((a2 ≤ a5 → ((a4 = (nI 0) → mm_w Q (mm_wc d) bk_219 21 [some (.ref 46), some (.int (a1 + (nI 0))), some (.int (a2 + (nI 1))), none, none, none] [] ((fl, n1, n2, p, q, ad), I, J)) ∧ (¬ a4 = (nI 0) → mm_w Q (mm_wc d) bk_219 21 [some (.ref 46), some (.int (a1 + (nI 1))), some (.int (a2 + (nI 1))), none, none, none] [] ((fl, n1, n2, p, q, ad), I, J)))) ∧ (¬ a2 ≤ a5 → ((a4 = (nI 0) → ((a4 = (nI 0) → mm_w Q (mm_wc d) bk_219 21 [some (.ref 46), some (.int (a1 + (nI 0))), some (.int (a2 + (nI 1))), none, none, none] [] ((fl, n1, n2, p, q, ad), I, J)) ∧ (¬ a4 = (nI 0) → mm_w Q (mm_wc d) bk_219 21 [some (.ref 46), some (.int (a1 + (nI 1))), some (.int (a2 + (nI 1))), none, none, none] [] ((fl, n1, n2, p, q, ad), I, J)))) ∧ (¬ a4 = (nI 0) → (vp_in a5 320 ∧ mm_wc d 205 [.ref 46] ((fl, 0, 0, p, q, ad), I, J) (fun v τ => ∃ r1 I1 J1, v = some (.int r1) ∧ τ = ((fl, 0, 0, p, q, ad), I1, J1) ∧ ((((I 53 a5.toNatClampNeg) &&& r1) = a3 → mm_w Q (mm_wc d) bk_219 55 [some (.ref 46), some (.int a1), some (.int a2), some (.int a3), some (.int (nI 0)), some (.int (a5 + (nI 1)))] [] ((fl, n1, n2, p, q, ad), I1, J1)) ∧ (¬ ((I 53 a5.toNatClampNeg) &&& r1) = a3 → mm_w Q (mm_wc d) bk_219 55 [some (.ref 46), some (.int a1), some (.int a2), some (.int a3), some (.int (nI 1)), some (.int (a5 + (nI 1)))] [] ((fl, n1, n2, p, q, ad), I1, J1)))))))))) : mm_w Q (mm_wc (d)) bk_219 55 [some (.ref 46), some (.int a1), some (.int a2), some (.int a3), some (.int a4), some (.int a5)] [] ((fl, n1, n2, p, q, ad), I, J) := by
  refine mm_go [21, 55] 80 ?_
  show (a2 ≤ a5 → _) ∧ (¬ a2 ≤ a5 → _)
  refine ⟨fun c0 => ?_, fun c0 => ?_⟩
  · show mm_u _ _ _ _ _ _ [some (.ref 46), some (.int a1), some (.int a2), some (.int a3), some (.int a4), some (.int a5)] [] ((fl, n1, n2, p, q, ad), I, J)
    show (a4 = (nI 0) → _) ∧ (¬ a4 = (nI 0) → _)
    refine ⟨fun c1 => ?_, fun c1 => ?_⟩
    · exact ((h.1 c0).1 c1)
    · exact ((h.1 c0).2 c1)
  · show mm_b _ _ _ _ _ [some (.ref 46), some (.int a1), some (.int a2), some (.int a3), some (.int a4), some (.int a5)] [] ((fl, n1, n2, p, q, ad), I, J)
    show (a4 = (nI 0) → _) ∧ (¬ a4 = (nI 0) → _)
    refine ⟨fun c1 => ?_, fun c1 => ?_⟩
    · show mm_u _ _ _ _ _ _ [some (.ref 46), some (.int a1), some (.int a2), some (.int a3), some (.int a4), some (.int a5)] [] ((fl, n1, n2, p, q, ad), I, J)
      show (a4 = (nI 0) → _) ∧ (¬ a4 = (nI 0) → _)
      refine ⟨fun c2 => ?_, fun c2 => ?_⟩
      · exact (((h.2 c0).1 c1).1 c2)
      · exact (((h.2 c0).1 c1).2 c2)
    · show mm_b _ _ _ _ _ [some (.ref 46), some (.int a1), some (.int a2), some (.int a3), some (.int a4), some (.int a5)] [] ((fl, n1, n2, p, q, ad), I, J)
      show vp_in a5 320 ∧ _
      refine ⟨((h.2 c0).2 c1).1, ?_⟩
      show mm_b _ _ _ _ _ [some (.ref 46), some (.int a1), some (.int a2), some (.int a3), some (.int a4), some (.int a5)] [.int (I 53 a5.toNatClampNeg)] ((fl, n1, n2, p, q, ad), I, J)
      show mm_wc d 205 [.ref 46] ((fl, 0, 0, p, q, ad), I, J) _
      refine mm_wcm (((h.2 c0).2 c1).2) ?_
      rintro v τ ⟨r1, I1, J1, rfl, rfl, h1⟩
      refine mm_r1' ⟨rfl, ?_⟩
      show mm_b _ _ _ _ _ [some (.ref 46), some (.int a1), some (.int a2), some (.int a3), some (.int a4), some (.int a5)] [.int r1, .int (I 53 a5.toNatClampNeg)] ((fl, n1, n2, p, q, ad), I1, J1)
      show (((I 53 a5.toNatClampNeg) &&& r1) = a3 → _) ∧ (¬ ((I 53 a5.toNatClampNeg) &&& r1) = a3 → _)
      refine ⟨fun c2 => ?_, fun c2 => ?_⟩
      · exact (h1.1 c2)
      · exact (h1.2 c2)
/- 220 ThreeBreathsModel spared -/
theorem fx_220 {d : Nat} {fl : Nat → Bool} {n1 n2 : Nat} {p q : Bool} {ad : Nat → Nat} {I : mmI} {J : mmJ} {Q : mmQ} (h : mm_wc d 166 [.ref 46] ((fl, 0, 0, p, q, ad), I, J) (fun v τ => ∃ I1 J1, v = none ∧ τ = ((fl, 0, 0, p, q, ad), I1, J1) ∧ ((¬ (I1 46 14) = (nI 0) → mm_wc d 205 [.ref 46] ((fl, 0, 0, p, q, ad), I1, J1) (fun v τ => ∃ r2 I2 J2, v = some (.int r2) ∧ τ = ((fl, 0, 0, p, q, ad), I2, J2) ∧ mm_w Q (mm_wc d) bk_220 24 [some (.ref 46), some (.int r2), some (.int (nI 0))] [] ((fl, n1, n2, p, q, ad), I2, J2))) ∧ ((I1 46 14) = (nI 0) → mm_wc d 167 [.ref 46, .int (nI 1)] ((fl, 0, 0, p, q, ad), I1, J1) (fun v τ => ∃ r3 I3 J3, v = some (.int r3) ∧ τ = ((fl, 0, 0, p, q, ad), I3, J3) ∧ Q (some (.int r3)) ((fl, n1, n2, p, q, ad), I3, J3)))))) : mm_wc (d + 1) 220 [.ref 46] ((fl, n1, n2, p, q, ad), I, J) Q := by
  refine mm_call (c := 220) rfl rfl ?_
  refine mm_go [24] 80 ?_
  show mm_wc d 166 [.ref 46] ((fl, 0, 0, p, q, ad), I, J) _
  refine mm_wcm h ?_
  rintro v τ ⟨I1, J1, rfl, rfl, h1⟩
  refine mm_r0' ⟨rfl, ?_⟩
  show mm_b _ _ _ _ _ [some (.ref 46), none, none] [] ((fl, n1, n2, p, q, ad), I1, J1)
  show (¬ (I1 46 14) = (nI 0) → _) ∧ ((I1 46 14) = (nI 0) → _)
  refine ⟨fun c0 => ?_, fun c0 => ?_⟩
  · show mm_u _ _ _ _ _ _ [some (.ref 46), none, none] [] ((fl, n1, n2, p, q, ad), I1, J1)
    show mm_wc d 205 [.ref 46] ((fl, 0, 0, p, q, ad), I1, J1) _
    refine mm_wcm (h1.1 c0) ?_
    rintro v τ ⟨r2, I2, J2, rfl, rfl, h2⟩
    refine mm_r1' ⟨rfl, ?_⟩
    exact h2
  · show mm_b _ _ _ _ _ [some (.ref 46), none, none] [] ((fl, n1, n2, p, q, ad), I1, J1)
    show mm_wc d 167 [.ref 46, .int (nI 1)] ((fl, 0, 0, p, q, ad), I1, J1) _
    refine mm_wcm (h1.2 c0) ?_
    rintro v τ ⟨r3, I3, J3, rfl, rfl, h3⟩
    refine mm_r1' ⟨rfl, ?_⟩
    exact h3
theorem fx_220_24 {d : Nat} {a1 : Int32} {a2 : Int32} {fl : Nat → Bool} {n1 n2 : Nat} {p q : Bool} {ad : Nat → Nat} {I : mmI} {J : mmJ} {Q : mmQ} (h : mm_wc d 206 [.ref 46] ((fl, 0, 0, p, q, ad), I, J) (fun v τ => ∃ r1 I1 J1, v = some (.int r1) ∧ τ = ((fl, 0, 0, p, q, ad), I1, J1) ∧ ((r1 ≤ a2 → Q (some (.int a1)) ((fl, n1, n2, p, q, ad), I1, J1)) ∧ (¬ r1 ≤ a2 → (vp_in a2 320 ∧ mm_w Q (mm_wc d) bk_220 24 [some (.ref 46), some (.int (a1 &&& ((I1 53 a2.toNatClampNeg) ^^^ (-1)))), some (.int (a2 + (nI 1)))] [] ((fl, n1, n2, p, q, ad), I1, J1)))))) : mm_w Q (mm_wc (d)) bk_220 24 [some (.ref 46), some (.int a1), some (.int a2)] [] ((fl, n1, n2, p, q, ad), I, J) := by
  refine mm_go [24] 80 ?_
  show mm_wc d 206 [.ref 46] ((fl, 0, 0, p, q, ad), I, J) _
  refine mm_wcm h ?_
  rintro v τ ⟨r1, I1, J1, rfl, rfl, h1⟩
  refine mm_r1' ⟨rfl, ?_⟩
  show mm_b _ _ _ _ _ [some (.ref 46), some (.int a1), some (.int a2)] [.int r1, .int a2] ((fl, n1, n2, p, q, ad), I1, J1)
  show (r1 ≤ a2 → _) ∧ (¬ r1 ≤ a2 → _)
  refine ⟨fun c0 => ?_, fun c0 => ?_⟩
  · exact (h1.1 c0)
  · show mm_b _ _ _ _ _ [some (.ref 46), some (.int a1), some (.int a2)] [] ((fl, n1, n2, p, q, ad), I1, J1)
    show vp_in a2 320 ∧ _
    refine ⟨(h1.2 c0).1, ?_⟩
    exact (h1.2 c0).2
/- 221 ThreeBreathsModel lights -/
theorem fx_221 {d : Nat} {x0 : Int32} {x1 : Int32} {fl : Nat → Bool} {n1 n2 : Nat} {p q : Bool} {ad : Nat → Nat} {I : mmI} {J : mmJ} {Q : mmQ} (h : mm_wc d 166 [.ref 46] ((fl, 0, 0, p, q, ad), I, J) (fun v τ => ∃ I1 J1, v = none ∧ τ = ((fl, 0, 0, p, q, ad), I1, J1) ∧ mm_wc d 201 [.ref 46, .int x0] ((fl, 0, 0, p, q, ad), I1, J1) (fun v τ => ∃ r2 I2 J2, v = some (.int r2) ∧ τ = ((fl, 0, 0, p, q, ad), I2, J2) ∧ ((¬ r2 = (nI 0) → ((x1 = (nI 0) → (vp_in x0 11 ∧ mm_wc d 211 [.ref 46, .int (nI 2)] ((fl, 0, 0, p, q, ad), I2, J2) (fun v τ => ∃ r3 I3 J3, v = some (.int r3) ∧ τ = ((fl, 0, 0, p, q, ad), I3, J3) ∧ Q (some (.int ((I2 54 x0.toNatClampNeg) &&& r3))) ((fl, n1, n2, p, q, ad), I3, J3)))) ∧ (¬ x1 = (nI 0) → (vp_in ((nI 35) + x0) 279 ∧ ((¬ (I2 49 (((nI 35) + x0)).toNatClampNeg) = (nI 2) → Q (some (.int (nI 0))) ((fl, n1, n2, p, q, ad), I2, J2)) ∧ ((I2 49 (((nI 35) + x0)).toNatClampNeg) = (nI 2) → (vp_in x0 11 ∧ mm_wc d 205 [.ref 46] ((fl, 0, 0, p, q, ad), I2, J2) (fun v τ => ∃ r4 I4 J4, v = some (.int r4) ∧ τ = ((fl, 0, 0, p, q, ad), I4, J4) ∧ Q (some (.int ((I2 54 x0.toNatClampNeg) &&& r4))) ((fl, n1, n2, p, q, ad), I4, J4))))))))) ∧ (r2 = (nI 0) → mm_wc d 167 [.ref 46, .int (nI 1)] ((fl, 0, 0, p, q, ad), I2, J2) (fun v τ => ∃ r5 I5 J5, v = some (.int r5) ∧ τ = ((fl, 0, 0, p, q, ad), I5, J5) ∧ Q (some (.int r5)) ((fl, n1, n2, p, q, ad), I5, J5))))))) : mm_wc (d + 1) 221 [.ref 46, .int x0, .int x1] ((fl, n1, n2, p, q, ad), I, J) Q := by
  refine mm_call (c := 221) rfl rfl ?_
  refine mm_go [] 80 ?_
  show mm_wc d 166 [.ref 46] ((fl, 0, 0, p, q, ad), I, J) _
  refine mm_wcm h ?_
  rintro v τ ⟨I1, J1, rfl, rfl, h1⟩
  refine mm_r0' ⟨rfl, ?_⟩
  show mm_b _ _ _ _ _ [some (.ref 46), some (.int x0), some (.int x1)] [] ((fl, n1, n2, p, q, ad), I1, J1)
  show mm_wc d 201 [.ref 46, .int x0] ((fl, 0, 0, p, q, ad), I1, J1) _
  refine mm_wcm h1 ?_
  rintro v τ ⟨r2, I2, J2, rfl, rfl, h2⟩
  refine mm_r1' ⟨rfl, ?_⟩
  show mm_b _ _ _ _ _ [some (.ref 46), some (.int x0), some (.int x1)] [.int r2] ((fl, n1, n2, p, q, ad), I2, J2)
  show (¬ r2 = (nI 0) → _) ∧ (r2 = (nI 0) → _)
  refine ⟨fun c0 => ?_, fun c0 => ?_⟩
  · show mm_u _ _ _ _ _ _ [some (.ref 46), some (.int x0), some (.int x1)] [] ((fl, n1, n2, p, q, ad), I2, J2)
    show (x1 = (nI 0) → _) ∧ (¬ x1 = (nI 0) → _)
    refine ⟨fun c1 => ?_, fun c1 => ?_⟩
    · show mm_u _ _ _ _ _ _ [some (.ref 46), some (.int x0), some (.int x1)] [] ((fl, n1, n2, p, q, ad), I2, J2)
      show vp_in x0 11 ∧ _
      refine ⟨((h2.1 c0).1 c1).1, ?_⟩
      show mm_b _ _ _ _ _ [some (.ref 46), some (.int x0), none] [.int (I2 54 x0.toNatClampNeg)] ((fl, n1, n2, p, q, ad), I2, J2)
      show mm_wc d 211 [.ref 46, .int (nI 2)] ((fl, 0, 0, p, q, ad), I2, J2) _
      refine mm_wcm (((h2.1 c0).1 c1).2) ?_
      rintro v τ ⟨r3, I3, J3, rfl, rfl, h3⟩
      refine mm_r1' ⟨rfl, ?_⟩
      exact h3
    · show mm_b _ _ _ _ _ [some (.ref 46), some (.int x0), some (.int x1)] [] ((fl, n1, n2, p, q, ad), I2, J2)
      show vp_in ((nI 35) + x0) 279 ∧ _
      refine ⟨((h2.1 c0).2 c1).1, ?_⟩
      show mm_b _ _ _ _ _ [some (.ref 46), some (.int x0), some (.int x1)] [.int (I2 49 (((nI 35) + x0)).toNatClampNeg)] ((fl, n1, n2, p, q, ad), I2, J2)
      show (¬ (I2 49 (((nI 35) + x0)).toNatClampNeg) = (nI 2) → _) ∧ ((I2 49 (((nI 35) + x0)).toNatClampNeg) = (nI 2) → _)
      refine ⟨fun c2 => ?_, fun c2 => ?_⟩
      · exact (((h2.1 c0).2 c1).2.1 c2)
      · show mm_b _ _ _ _ _ [some (.ref 46), some (.int x0), some (.int x1)] [] ((fl, n1, n2, p, q, ad), I2, J2)
        show vp_in x0 11 ∧ _
        refine ⟨(((h2.1 c0).2 c1).2.2 c2).1, ?_⟩
        show mm_b _ _ _ _ _ [some (.ref 46), some (.int x0), some (.int x1)] [.int (I2 54 x0.toNatClampNeg)] ((fl, n1, n2, p, q, ad), I2, J2)
        show mm_wc d 205 [.ref 46] ((fl, 0, 0, p, q, ad), I2, J2) _
        refine mm_wcm ((((h2.1 c0).2 c1).2.2 c2).2) ?_
        rintro v τ ⟨r4, I4, J4, rfl, rfl, h4⟩
        refine mm_r1' ⟨rfl, ?_⟩
        exact h4
  · show mm_b _ _ _ _ _ [some (.ref 46), some (.int x0), some (.int x1)] [] ((fl, n1, n2, p, q, ad), I2, J2)
    show mm_wc d 167 [.ref 46, .int (nI 1)] ((fl, 0, 0, p, q, ad), I2, J2) _
    refine mm_wcm (h2.2 c0) ?_
    rintro v τ ⟨r5, I5, J5, rfl, rfl, h5⟩
    refine mm_r1' ⟨rfl, ?_⟩
    exact h5
/- 222 ThreeBreathsModel burning -/
theorem fx_222 {d : Nat} {fl : Nat → Bool} {n1 n2 : Nat} {p q : Bool} {ad : Nat → Nat} {I : mmI} {J : mmJ} {Q : mmQ} (h : mm_wc d 166 [.ref 46] ((fl, 0, 0, p, q, ad), I, J) (fun v τ => ∃ I1 J1, v = none ∧ τ = ((fl, 0, 0, p, q, ad), I1, J1) ∧ (((I1 46 14) = (nI 0) → mm_wc d 167 [.ref 46, .int (nI 1)] ((fl, 0, 0, p, q, ad), I1, J1) (fun v τ => ∃ r2 I2 J2, v = some (.int r2) ∧ τ = ((fl, 0, 0, p, q, ad), I2, J2) ∧ Q (some (.int r2)) ((fl, n1, n2, p, q, ad), I2, J2))) ∧ (¬ (I1 46 14) = (nI 0) → Q (some (.int (I1 46 17))) ((fl, n1, n2, p, q, ad), I1, J1))))) : mm_wc (d + 1) 222 [.ref 46] ((fl, n1, n2, p, q, ad), I, J) Q := by
  refine mm_call (c := 222) rfl rfl ?_
  refine mm_go [] 80 ?_
  show mm_wc d 166 [.ref 46] ((fl, 0, 0, p, q, ad), I, J) _
  refine mm_wcm h ?_
  rintro v τ ⟨I1, J1, rfl, rfl, h1⟩
  refine mm_r0' ⟨rfl, ?_⟩
  show mm_b _ _ _ _ _ [some (.ref 46)] [] ((fl, n1, n2, p, q, ad), I1, J1)
  show ((I1 46 14) = (nI 0) → _) ∧ (¬ (I1 46 14) = (nI 0) → _)
  refine ⟨fun c0 => ?_, fun c0 => ?_⟩
  · show mm_u _ _ _ _ _ _ [some (.ref 46)] [] ((fl, n1, n2, p, q, ad), I1, J1)
    show mm_wc d 167 [.ref 46, .int (nI 1)] ((fl, 0, 0, p, q, ad), I1, J1) _
    refine mm_wcm (h1.1 c0) ?_
    rintro v τ ⟨r2, I2, J2, rfl, rfl, h2⟩
    refine mm_r1' ⟨rfl, ?_⟩
    exact h2
  · exact (h1.2 c0)
/- 223 ThreeBreathsModel dazed -/
theorem fx_223 {d : Nat} {fl : Nat → Bool} {n1 n2 : Nat} {p q : Bool} {ad : Nat → Nat} {I : mmI} {J : mmJ} {Q : mmQ} (h : mm_wc d 166 [.ref 46] ((fl, 0, 0, p, q, ad), I, J) (fun v τ => ∃ I1 J1, v = none ∧ τ = ((fl, 0, 0, p, q, ad), I1, J1) ∧ (((I1 46 14) = (nI 0) → mm_wc d 167 [.ref 46, .int (nI 1)] ((fl, 0, 0, p, q, ad), I1, J1) (fun v τ => ∃ r2 I2 J2, v = some (.int r2) ∧ τ = ((fl, 0, 0, p, q, ad), I2, J2) ∧ Q (some (.int r2)) ((fl, n1, n2, p, q, ad), I2, J2))) ∧ (¬ (I1 46 14) = (nI 0) → Q (some (.int (I1 46 18))) ((fl, n1, n2, p, q, ad), I1, J1))))) : mm_wc (d + 1) 223 [.ref 46] ((fl, n1, n2, p, q, ad), I, J) Q := by
  refine mm_call (c := 223) rfl rfl ?_
  refine mm_go [] 80 ?_
  show mm_wc d 166 [.ref 46] ((fl, 0, 0, p, q, ad), I, J) _
  refine mm_wcm h ?_
  rintro v τ ⟨I1, J1, rfl, rfl, h1⟩
  refine mm_r0' ⟨rfl, ?_⟩
  show mm_b _ _ _ _ _ [some (.ref 46)] [] ((fl, n1, n2, p, q, ad), I1, J1)
  show ((I1 46 14) = (nI 0) → _) ∧ (¬ (I1 46 14) = (nI 0) → _)
  refine ⟨fun c0 => ?_, fun c0 => ?_⟩
  · show mm_u _ _ _ _ _ _ [some (.ref 46)] [] ((fl, n1, n2, p, q, ad), I1, J1)
    show mm_wc d 167 [.ref 46, .int (nI 1)] ((fl, 0, 0, p, q, ad), I1, J1) _
    refine mm_wcm (h1.1 c0) ?_
    rintro v τ ⟨r2, I2, J2, rfl, rfl, h2⟩
    refine mm_r1' ⟨rfl, ?_⟩
    exact h2
  · exact (h1.2 c0)
/- 224 ThreeBreathsModel allThere -/
theorem fx_224 {d : Nat} {fl : Nat → Bool} {n1 n2 : Nat} {p q : Bool} {ad : Nat → Nat} {I : mmI} {J : mmJ} {Q : mmQ} (h : mm_wc d 205 [.ref 46] ((fl, 0, 0, p, q, ad), I, J) (fun v τ => ∃ r1 I1 J1, v = some (.int r1) ∧ τ = ((fl, 0, 0, p, q, ad), I1, J1) ∧ Q none ((fl, n1, n2, p, q, ad), (mm_up I1 46 27 (r1 ||| (nI 1024))), J1))) : mm_wc (d + 1) 224 [.ref 46] ((fl, n1, n2, p, q, ad), I, J) Q := by
  refine mm_call (c := 224) rfl rfl ?_
  refine mm_go [] 80 ?_
  show mm_wc d 205 [.ref 46] ((fl, 0, 0, p, q, ad), I, J) _
  refine mm_wcm h ?_
  rintro v τ ⟨r1, I1, J1, rfl, rfl, h1⟩
  refine mm_r1' ⟨rfl, ?_⟩
  exact h1
/- 225 ThreeBreathsModel gainOf -/
theorem fx_225 {d : Nat} {x0 : Int32} {fl : Nat → Bool} {n1 n2 : Nat} {p q : Bool} {ad : Nat → Nat} {I : mmI} {J : mmJ} {Q : mmQ} (h : mm_wc d 224 [.ref 46] ((fl, 0, 0, p, q, ad), I, J) (fun v τ => ∃ I1 J1, v = none ∧ τ = ((fl, 0, 0, p, q, ad), I1, J1) ∧ mm_wc d 171 [.int (I1 46 17)] ((fl, 0, 0, p, q, ad), I1, J1) (fun v τ => ∃ r2 I2 J2, v = some (.int r2) ∧ τ = ((fl, 0, 0, p, q, ad), I2, J2) ∧ (vp_in x0 320 ∧ mm_wc d 212 [.ref 46, .int (I2 46 17), .int (I2 46 18), .int (I2 53 x0.toNatClampNeg)] ((fl, 0, 0, p, q, ad), I2, J2) (fun v τ => ∃ r3 I3 J3, v = some (.int r3) ∧ τ = ((fl, 0, 0, p, q, ad), I3, J3) ∧ mm_wc d 213 [.int r3] ((fl, 0, 0, p, q, ad), I3, J3) (fun v τ => ∃ r4 I4 J4, v = some (.int r4) ∧ τ = ((fl, 0, 0, p, q, ad), I4, J4) ∧ mm_wc d 171 [.int r4] ((fl, 0, 0, p, q, ad), I4, J4) (fun v τ => ∃ r5 I5 J5, v = some (.int r5) ∧ τ = ((fl, 0, 0, p, q, ad), I5, J5) ∧ Q (some (.int (r2 - r5))) ((fl, n1, n2, p, q, ad), I5, J5)))))))) : mm_wc (d + 1) 225 [.ref 46, .int x0] ((fl, n1, n2, p, q, ad), I, J) Q := by
  refine mm_call (c := 225) rfl rfl ?_
  refine mm_go [] 80 ?_
  show mm_wc d 224 [.ref 46] ((fl, 0, 0, p, q, ad), I, J) _
  refine mm_wcm h ?_
  rintro v τ ⟨I1, J1, rfl, rfl, h1⟩
  refine mm_r0' ⟨rfl, ?_⟩
  show mm_b _ _ _ _ _ [some (.ref 46), some (.int x0)] [] ((fl, n1, n2, p, q, ad), I1, J1)
  show mm_wc d 171 [.int (I1 46 17)] ((fl, 0, 0, p, q, ad), I1, J1) _
  refine mm_wcm h1 ?_
  rintro v τ ⟨r2, I2, J2, rfl, rfl, h2⟩
  refine mm_r1' ⟨rfl, ?_⟩
  show mm_b _ _ _ _ _ [some (.ref 46), some (.int x0)] [.int r2] ((fl, n1, n2, p, q, ad), I2, J2)
  show vp_in x0 320 ∧ _
  refine ⟨h2.1, ?_⟩
  show mm_b _ _ _ _ _ [some (.ref 46), some (.int x0)] [.int (I2 53 x0.toNatClampNeg), .int (I2 46 18), .int (I2 46 17), .ref 46, .int r2] ((fl, n1, n2, p, q, ad), I2, J2)
  show mm_wc d 212 [.ref 46, .int (I2 46 17), .int (I2 46 18), .int (I2 53 x0.toNatClampNeg)] ((fl, 0, 0, p, q, ad), I2, J2) _
  refine mm_wcm (h2.2) ?_
  rintro v τ ⟨r3, I3, J3, rfl, rfl, h3⟩
  refine mm_r1' ⟨rfl, ?_⟩
  show mm_b _ _ _ _ _ [some (.ref 46), some (.int x0)] [.int r3, .int r2] ((fl, n1, n2, p, q, ad), I3, J3)
  show mm_wc d 213 [.int r3] ((fl, 0, 0, p, q, ad), I3, J3) _
  refine mm_wcm h3 ?_
  rintro v τ ⟨r4, I4, J4, rfl, rfl, h4⟩
  refine mm_r1' ⟨rfl, ?_⟩
  show mm_b _ _ _ _ _ [some (.ref 46), some (.int x0)] [.int r4, .int r2] ((fl, n1, n2, p, q, ad), I4, J4)
  show mm_wc d 171 [.int r4] ((fl, 0, 0, p, q, ad), I4, J4) _
  refine mm_wcm h4 ?_
  rintro v τ ⟨r5, I5, J5, rfl, rfl, h5⟩
  refine mm_r1' ⟨rfl, ?_⟩
  exact h5
/- 226 ThreeBreathsModel gain -/
theorem fx_226 {d : Nat} {x0 : Int32} {fl : Nat → Bool} {n1 n2 : Nat} {p q : Bool} {ad : Nat → Nat} {I : mmI} {J : mmJ} {Q : mmQ} (h : mm_wc d 166 [.ref 46] ((fl, 0, 0, p, q, ad), I, J) (fun v τ => ∃ I1 J1, v = none ∧ τ = ((fl, 0, 0, p, q, ad), I1, J1) ∧ mm_wc d 204 [.ref 46, .int x0] ((fl, 0, 0, p, q, ad), I1, J1) (fun v τ => ∃ r2 I2 J2, v = some (.int r2) ∧ τ = ((fl, 0, 0, p, q, ad), I2, J2) ∧ ((¬ r2 = (nI 0) → mm_wc d 225 [.ref 46, .int x0] ((fl, 0, 0, p, q, ad), I2, J2) (fun v τ => ∃ r3 I3 J3, v = some (.int r3) ∧ τ = ((fl, 0, 0, p, q, ad), I3, J3) ∧ Q (some (.int r3)) ((fl, n1, n2, p, q, ad), I3, J3))) ∧ (r2 = (nI 0) → Q (some (.int (-100))) ((fl, n1, n2, p, q, ad), (mm_up I2 46 11 (nI 1)), J2)))))) : mm_wc (d + 1) 226 [.ref 46, .int x0] ((fl, n1, n2, p, q, ad), I, J) Q := by
  refine mm_call (c := 226) rfl rfl ?_
  refine mm_go [] 80 ?_
  show mm_wc d 166 [.ref 46] ((fl, 0, 0, p, q, ad), I, J) _
  refine mm_wcm h ?_
  rintro v τ ⟨I1, J1, rfl, rfl, h1⟩
  refine mm_r0' ⟨rfl, ?_⟩
  show mm_b _ _ _ _ _ [some (.ref 46), some (.int x0)] [] ((fl, n1, n2, p, q, ad), I1, J1)
  show mm_wc d 204 [.ref 46, .int x0] ((fl, 0, 0, p, q, ad), I1, J1) _
  refine mm_wcm h1 ?_
  rintro v τ ⟨r2, I2, J2, rfl, rfl, h2⟩
  refine mm_r1' ⟨rfl, ?_⟩
  show mm_b _ _ _ _ _ [some (.ref 46), some (.int x0)] [.int r2] ((fl, n1, n2, p, q, ad), I2, J2)
  show (¬ r2 = (nI 0) → _) ∧ (r2 = (nI 0) → _)
  refine ⟨fun c0 => ?_, fun c0 => ?_⟩
  · show mm_u _ _ _ _ _ _ [some (.ref 46), some (.int x0)] [] ((fl, n1, n2, p, q, ad), I2, J2)
    show mm_wc d 225 [.ref 46, .int x0] ((fl, 0, 0, p, q, ad), I2, J2) _
    refine mm_wcm (h2.1 c0) ?_
    rintro v τ ⟨r3, I3, J3, rfl, rfl, h3⟩
    refine mm_r1' ⟨rfl, ?_⟩
    exact h3
  · exact (h2.2 c0)
