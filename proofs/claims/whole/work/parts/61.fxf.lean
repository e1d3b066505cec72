/- 165 ThreeBreathsModel thrown -/
theorem fx_165 {d : Nat} {fl : Nat → Bool} {n1 n2 : Nat} {p q : Bool} {ad : Nat → Nat} {I : mmI} {J : mmJ} {Q : mmQ} (h : Q (some (.int (I 46 0))) ((fl, n1, n2, p, q, ad), I, J)) : mm_wc (d + 1) 165 [.ref 46] ((fl, n1, n2, p, q, ad), I, J) Q := by
  refine mm_call (c := 165) rfl rfl ?_
  refine mm_go [] 80 ?_
  exact h
/- 166 ThreeBreathsModel good -/
theorem fx_166 {d : Nat} {fl : Nat → Bool} {n1 n2 : Nat} {p q : Bool} {ad : Nat → Nat} {I : mmI} {J : mmJ} {Q : mmQ} (h : Q none ((fl, n1, n2, p, q, ad), (mm_up (mm_up I 46 0 (nI 0)) 46 11 (nI 0)), J)) : mm_wc (d + 1) 166 [.ref 46] ((fl, n1, n2, p, q, ad), I, J) Q := by
  refine mm_call (c := 166) rfl rfl ?_
  refine mm_go [] 80 ?_
  exact h
/- 167 ThreeBreathsModel no -/
theorem fx_167 {d : Nat} {x0 : Int32} {fl : Nat → Bool} {n1 n2 : Nat} {p q : Bool} {ad : Nat → Nat} {I : mmI} {J : mmJ} {Q : mmQ} (h : Q (some (.int (-1))) ((fl, n1, n2, p, q, ad), (mm_up I 46 11 x0), J)) : mm_wc (d + 1) 167 [.ref 46, .int x0] ((fl, n1, n2, p, q, ad), I, J) Q := by
  refine mm_call (c := 167) rfl rfl ?_
  refine mm_go [] 80 ?_
  exact h
/- 168 ThreeBreathsModel isNot -/
theorem fx_168 {d : Nat} {x0 : Int32} {fl : Nat → Bool} {n1 n2 : Nat} {p q : Bool} {ad : Nat → Nat} {I : mmI} {J : mmJ} {Q : mmQ} (h : Q (some (.int (nI 0))) ((fl, n1, n2, p, q, ad), (mm_up I 46 11 x0), J)) : mm_wc (d + 1) 168 [.ref 46, .int x0] ((fl, n1, n2, p, q, ad), I, J) Q := by
  refine mm_call (c := 168) rfl rfl ?_
  refine mm_go [] 80 ?_
  show (((nI 0) : Int32) = 0 ∨ ((nI 0) : Int32) = 1) ∧ _
  refine ⟨(by decide), ?_⟩
  exact h
/- 169 ThreeBreathsModel within -/
theorem fx_169 {d : Nat} {x0 : Int32} {x1 : Int32} {x2 : Int32} {fl : Nat → Bool} {n1 n2 : Nat} {p q : Bool} {ad : Nat → Nat} {I : mmI} {J : mmJ} {Q : mmQ} (h : ((x0 < x1 → Q (some (.int (nI 0))) ((fl, n1, n2, p, q, ad), I, J)) ∧ (¬ x0 < x1 → ((x2 < x0 → Q (some (.int (nI 0))) ((fl, n1, n2, p, q, ad), I, J)) ∧ (¬ x2 < x0 → Q (some (.int (nI 1))) ((fl, n1, n2, p, q, ad), I, J)))))) : mm_wc (d + 1) 169 [.int x0, .int x1, .int x2] ((fl, n1, n2, p, q, ad), I, J) Q := by
  refine mm_call (c := 169) rfl rfl ?_
  refine mm_go [] 80 ?_
  show (x0 < x1 → _) ∧ (¬ x0 < x1 → _)
  refine ⟨fun c0 => ?_, fun c0 => ?_⟩
  · show mm_u _ _ _ _ _ _ [some (.int x0), some (.int x1), some (.int x2)] [] ((fl, n1, n2, p, q, ad), I, J)
    show (((nI 0) : Int32) = 0 ∨ ((nI 0) : Int32) = 1) ∧ _
    refine ⟨(by decide), ?_⟩
    exact (h.1 c0)
  · show mm_b _ _ _ _ _ [some (.int x0), some (.int x1), some (.int x2)] [] ((fl, n1, n2, p, q, ad), I, J)
    show (x2 < x0 → _) ∧ (¬ x2 < x0 → _)
    refine ⟨fun c1 => ?_, fun c1 => ?_⟩
    · show mm_u _ _ _ _ _ _ [some (.int x0), some (.int x1), some (.int x2)] [] ((fl, n1, n2, p, q, ad), I, J)
      show (((nI 0) : Int32) = 0 ∨ ((nI 0) : Int32) = 1) ∧ _
      refine ⟨(by decide), ?_⟩
      exact ((h.2 c0).1 c1)
    · show mm_b _ _ _ _ _ [some (.int x0), some (.int x1), some (.int x2)] [] ((fl, n1, n2, p, q, ad), I, J)
      show (((nI 1) : Int32) = 0 ∨ ((nI 1) : Int32) = 1) ∧ _
      refine ⟨(by decide), ?_⟩
      exact ((h.2 c0).2 c1)
/- 170 ThreeBreathsModel has -/
theorem fx_170 {d : Nat} {x0 : Int32} {x1 : Int32} {fl : Nat → Bool} {n1 n2 : Nat} {p q : Bool} {ad : Nat → Nat} {I : mmI} {J : mmJ} {Q : mmQ} (h : ((¬ ((x0 >>> (x1 &&& 31)) &&& (nI 1)) = (nI 1) → Q (some (.int (nI 0))) ((fl, n1, n2, p, q, ad), I, J)) ∧ (((x0 >>> (x1 &&& 31)) &&& (nI 1)) = (nI 1) → Q (some (.int (nI 1))) ((fl, n1, n2, p, q, ad), I, J)))) : mm_wc (d + 1) 170 [.int x0, .int x1] ((fl, n1, n2, p, q, ad), I, J) Q := by
  refine mm_call (c := 170) rfl rfl ?_
  refine mm_go [] 80 ?_
  show (¬ ((x0 >>> (x1 &&& 31)) &&& (nI 1)) = (nI 1) → _) ∧ (((x0 >>> (x1 &&& 31)) &&& (nI 1)) = (nI 1) → _)
  refine ⟨fun c0 => ?_, fun c0 => ?_⟩
  · show mm_u _ _ _ _ _ _ [some (.int x0), some (.int x1)] [] ((fl, n1, n2, p, q, ad), I, J)
    show (((nI 0) : Int32) = 0 ∨ ((nI 0) : Int32) = 1) ∧ _
    refine ⟨(by decide), ?_⟩
    exact (h.1 c0)
  · show mm_b _ _ _ _ _ [some (.int x0), some (.int x1)] [] ((fl, n1, n2, p, q, ad), I, J)
    show (((nI 1) : Int32) = 0 ∨ ((nI 1) : Int32) = 1) ∧ _
    refine ⟨(by decide), ?_⟩
    exact (h.2 c0)
/- 171 ThreeBreathsModel bits -/
theorem fx_171 {d : Nat} {x0 : Int32} {fl : Nat → Bool} {n1 n2 : Nat} {p q : Bool} {ad : Nat → Nat} {I : mmI} {J : mmJ} {Q : mmQ} (h : mm_w Q (mm_wc d) bk_171 4 [some (.int x0), some (.int (nI 0)), some (.int (nI 0))] [] ((fl, n1, n2, p, q, ad), I, J)) : mm_wc (d + 1) 171 [.int x0] ((fl, n1, n2, p, q, ad), I, J) Q := by
  refine mm_call (c := 171) rfl rfl ?_
  refine mm_go [4] 80 ?_
  exact h
theorem fx_171_4 {d : Nat} {a0 : Int32} {a1 : Int32} {a2 : Int32} {fl : Nat → Bool} {n1 n2 : Nat} {p q : Bool} {ad : Nat → Nat} {I : mmI} {J : mmJ} {Q : mmQ} (h : (((nI 14) ≤ a2 → Q (some (.int a1)) ((fl, n1, n2, p, q, ad), I, J)) ∧ (¬ (nI 14) ≤ a2 → mm_w Q (mm_wc d) bk_171 4 [some (.int a0), some (.int (a1 + ((a0 >>> (a2 &&& 31)) &&& (nI 1)))), some (.int (a2 + (nI 1)))] [] ((fl, n1, n2, p, q, ad), I, J)))) : mm_w Q (mm_wc (d)) bk_171 4 [some (.int a0), some (.int a1), some (.int a2)] [] ((fl, n1, n2, p, q, ad), I, J) := by
  refine mm_go [4] 80 ?_
  show ((nI 14) ≤ a2 → _) ∧ (¬ (nI 14) ≤ a2 → _)
  refine ⟨fun c0 => ?_, fun c0 => ?_⟩
  · exact (h.1 c0)
  · exact (h.2 c0)
/- 172 ThreeBreathsModel feed -/
theorem fx_172 {d : Nat} {x0 : Int32} {x1 : Int32} {x2 : Int32} {x3 : Int32} {x4 : Int32} {fl : Nat → Bool} {n1 n2 : Nat} {p q : Bool} {ad : Nat → Nat} {I : mmI} {J : mmJ} {Q : mmQ} (h : ((((I 46 2) + (nI 20)) ≤ (nI 900) → mm_w Q (mm_wc d) bk_172 23 [some (.ref 46), some (.int x0), some (.int x1), some (.int x2), some (.int x3), some (.int x4), some (.int (nI 0)), none] [] ((fl, n1, n2, p, q, ad), (mm_up I 46 0 (nI 0)), J)) ∧ (¬ ((I 46 2) + (nI 20)) ≤ (nI 900) → Q (some (.int (-1))) ((fl, n1, n2, p, q, ad), (mm_up I 46 0 (nI 0)), J)))) : mm_wc (d + 1) 172 [.ref 46, .int x0, .int x1, .int x2, .int x3, .int x4] ((fl, n1, n2, p, q, ad), I, J) Q := by
  refine mm_call (c := 172) rfl rfl ?_
  refine mm_go [23] 80 ?_
  show (((I 46 2) + (nI 20)) ≤ (nI 900) → _) ∧ (¬ ((I 46 2) + (nI 20)) ≤ (nI 900) → _)
  refine ⟨fun c0 => ?_, fun c0 => ?_⟩
  · exact (h.1 c0)
  · exact (h.2 c0)
theorem fx_172_23 {d : Nat} {a1 : Int32} {a2 : Int32} {a3 : Int32} {a4 : Int32} {a5 : Int32} {a6 : Int32} {fl : Nat → Bool} {n1 n2 : Nat} {p q : Bool} {ad : Nat → Nat} {I : mmI} {J : mmJ} {Q : mmQ} (h : (((nI 20) ≤ a6 → Q (some (.int (I 46 2))) ((fl, n1, n2, p, q, ad), I, J)) ∧ (¬ (nI 20) ≤ a6 → (((nI 4) ≤ a6 → (((nI 8) ≤ a6 → (((nI 12) ≤ a6 → (((nI 16) ≤ a6 → (vp_in (I 46 2) 900 ∧ mm_w Q (mm_wc d) bk_172 23 [some (.ref 46), some (.int a1), some (.int a2), some (.int a3), some (.int a4), some (.int a5), some (.int (a6 + (nI 1))), none] [] ((fl, n1, n2, p, q, ad), (mm_up (mm_up I 47 ((I 46 2)).toNatClampNeg ((a5 >>> (((nI 24) - ((nI 8) * (a6 - a6 / (nI 4) * (nI 4)))) &&& 31)) &&& (nI 255))) 46 2 ((I 46 2) + (nI 1))), J))) ∧ (¬ (nI 16) ≤ a6 → (vp_in (I 46 2) 900 ∧ mm_w Q (mm_wc d) bk_172 23 [some (.ref 46), some (.int a1), some (.int a2), some (.int a3), some (.int a4), some (.int a5), some (.int (a6 + (nI 1))), none] [] ((fl, n1, n2, p, q, ad), (mm_up (mm_up I 47 ((I 46 2)).toNatClampNeg ((a4 >>> (((nI 24) - ((nI 8) * (a6 - a6 / (nI 4) * (nI 4)))) &&& 31)) &&& (nI 255))) 46 2 ((I 46 2) + (nI 1))), J))))) ∧ (¬ (nI 12) ≤ a6 → (vp_in (I 46 2) 900 ∧ mm_w Q (mm_wc d) bk_172 23 [some (.ref 46), some (.int a1), some (.int a2), some (.int a3), some (.int a4), some (.int a5), some (.int (a6 + (nI 1))), none] [] ((fl, n1, n2, p, q, ad), (mm_up (mm_up I 47 ((I 46 2)).toNatClampNeg ((a3 >>> (((nI 24) - ((nI 8) * (a6 - a6 / (nI 4) * (nI 4)))) &&& 31)) &&& (nI 255))) 46 2 ((I 46 2) + (nI 1))), J))))) ∧ (¬ (nI 8) ≤ a6 → (vp_in (I 46 2) 900 ∧ mm_w Q (mm_wc d) bk_172 23 [some (.ref 46), some (.int a1), some (.int a2), some (.int a3), some (.int a4), some (.int a5), some (.int (a6 + (nI 1))), none] [] ((fl, n1, n2, p, q, ad), (mm_up (mm_up I 47 ((I 46 2)).toNatClampNeg ((a2 >>> (((nI 24) - ((nI 8) * (a6 - a6 / (nI 4) * (nI 4)))) &&& 31)) &&& (nI 255))) 46 2 ((I 46 2) + (nI 1))), J))))) ∧ (¬ (nI 4) ≤ a6 → (vp_in (I 46 2) 900 ∧ mm_w Q (mm_wc d) bk_172 23 [some (.ref 46), some (.int a1), some (.int a2), some (.int a3), some (.int a4), some (.int a5), some (.int (a6 + (nI 1))), none] [] ((fl, n1, n2, p, q, ad), (mm_up (mm_up I 47 ((I 46 2)).toNatClampNeg ((a1 >>> (((nI 24) - ((nI 8) * (a6 - a6 / (nI 4) * (nI 4)))) &&& 31)) &&& (nI 255))) 46 2 ((I 46 2) + (nI 1))), J))))))) : mm_w Q (mm_wc (d)) bk_172 23 [some (.ref 46), some (.int a1), some (.int a2), some (.int a3), some (.int a4), some (.int a5), some (.int a6), none] [] ((fl, n1, n2, p, q, ad), I, J) := by
  refine mm_go [23] 80 ?_
  show ((nI 20) ≤ a6 → _) ∧ (¬ (nI 20) ≤ a6 → _)
  refine ⟨fun c0 => ?_, fun c0 => ?_⟩
  · exact (h.1 c0)
  · show mm_b _ _ _ _ _ [some (.ref 46), some (.int a1), some (.int a2), some (.int a3), some (.int a4), some (.int a5), some (.int a6), none] [] ((fl, n1, n2, p, q, ad), I, J)
    show ((nI 4) ≤ a6 → _) ∧ (¬ (nI 4) ≤ a6 → _)
    refine ⟨fun c1 => ?_, fun c1 => ?_⟩
    · show mm_u _ _ _ _ _ _ [some (.ref 46), some (.int a1), some (.int a2), some (.int a3), some (.int a4), some (.int a5), some (.int a6), none] [] ((fl, n1, n2, p, q, ad), I, J)
      show ((nI 8) ≤ a6 → _) ∧ (¬ (nI 8) ≤ a6 → _)
      refine ⟨fun c2 => ?_, fun c2 => ?_⟩
      · show mm_u _ _ _ _ _ _ [some (.ref 46), some (.int a1), some (.int a2), some (.int a3), some (.int a4), some (.int a5), some (.int a6), none] [] ((fl, n1, n2, p, q, ad), I, J)
        show ((nI 12) ≤ a6 → _) ∧ (¬ (nI 12) ≤ a6 → _)
        refine ⟨fun c3 => ?_, fun c3 => ?_⟩
        · show mm_u _ _ _ _ _ _ [some (.ref 46), some (.int a1), some (.int a2), some (.int a3), some (.int a4), some (.int a5), some (.int a6), none] [] ((fl, n1, n2, p, q, ad), I, J)
          show ((nI 16) ≤ a6 → _) ∧ (¬ (nI 16) ≤ a6 → _)
          refine ⟨fun c4 => ?_, fun c4 => ?_⟩
          · show mm_u _ _ _ _ _ _ [some (.ref 46), some (.int a1), some (.int a2), some (.int a3), some (.int a4), some (.int a5), some (.int a6), none] [] ((fl, n1, n2, p, q, ad), I, J)
            show (¬ ((nI 4) : Int32) = 0) ∧ _
            refine ⟨(by decide), ?_⟩
            show mm_b _ _ _ _ _ [some (.ref 46), some (.int a1), some (.int a2), some (.int a3), some (.int a4), some (.int a5), some (.int a6), some (.int a5)] [.int (a6 - a6 / (nI 4) * (nI 4)), .int (nI 8), .int (nI 24), .int a5, .int (I 46 2), .ref 47] ((fl, n1, n2, p, q, ad), I, J)
            show vp_in (I 46 2) 900 ∧ _
            refine ⟨(((((h.2 c0).1 c1).1 c2).1 c3).1 c4).1, ?_⟩
            exact (((((h.2 c0).1 c1).1 c2).1 c3).1 c4).2
          · show mm_b _ _ _ _ _ [some (.ref 46), some (.int a1), some (.int a2), some (.int a3), some (.int a4), some (.int a5), some (.int a6), none] [] ((fl, n1, n2, p, q, ad), I, J)
            show (¬ ((nI 4) : Int32) = 0) ∧ _
            refine ⟨(by decide), ?_⟩
            show mm_b _ _ _ _ _ [some (.ref 46), some (.int a1), some (.int a2), some (.int a3), some (.int a4), some (.int a5), some (.int a6), some (.int a4)] [.int (a6 - a6 / (nI 4) * (nI 4)), .int (nI 8), .int (nI 24), .int a4, .int (I 46 2), .ref 47] ((fl, n1, n2, p, q, ad), I, J)
            show vp_in (I 46 2) 900 ∧ _
            refine ⟨(((((h.2 c0).1 c1).1 c2).1 c3).2 c4).1, ?_⟩
            exact (((((h.2 c0).1 c1).1 c2).1 c3).2 c4).2
        · show mm_b _ _ _ _ _ [some (.ref 46), some (.int a1), some (.int a2), some (.int a3), some (.int a4), some (.int a5), some (.int a6), none] [] ((fl, n1, n2, p, q, ad), I, J)
          show (¬ ((nI 4) : Int32) = 0) ∧ _
          refine ⟨(by decide), ?_⟩
          show mm_b _ _ _ _ _ [some (.ref 46), some (.int a1), some (.int a2), some (.int a3), some (.int a4), some (.int a5), some (.int a6), some (.int a3)] [.int (a6 - a6 / (nI 4) * (nI 4)), .int (nI 8), .int (nI 24), .int a3, .int (I 46 2), .ref 47] ((fl, n1, n2, p, q, ad), I, J)
          show vp_in (I 46 2) 900 ∧ _
          refine ⟨((((h.2 c0).1 c1).1 c2).2 c3).1, ?_⟩
          exact ((((h.2 c0).1 c1).1 c2).2 c3).2
      · show mm_b _ _ _ _ _ [some (.ref 46), some (.int a1), some (.int a2), some (.int a3), some (.int a4), some (.int a5), some (.int a6), none] [] ((fl, n1, n2, p, q, ad), I, J)
        show (¬ ((nI 4) : Int32) = 0) ∧ _
        refine ⟨(by decide), ?_⟩
        show mm_b _ _ _ _ _ [some (.ref 46), some (.int a1), some (.int a2), some (.int a3), some (.int a4), some (.int a5), some (.int a6), some (.int a2)] [.int (a6 - a6 / (nI 4) * (nI 4)), .int (nI 8), .int (nI 24), .int a2, .int (I 46 2), .ref 47] ((fl, n1, n2, p, q, ad), I, J)
        show vp_in (I 46 2) 900 ∧ _
        refine ⟨(((h.2 c0).1 c1).2 c2).1, ?_⟩
        exact (((h.2 c0).1 c1).2 c2).2
    · show mm_b _ _ _ _ _ [some (.ref 46), some (.int a1), some (.int a2), some (.int a3), some (.int a4), some (.int a5), some (.int a6), none] [] ((fl, n1, n2, p, q, ad), I, J)
      show (¬ ((nI 4) : Int32) = 0) ∧ _
      refine ⟨(by decide), ?_⟩
      show mm_b _ _ _ _ _ [some (.ref 46), some (.int a1), some (.int a2), some (.int a3), some (.int a4), some (.int a5), some (.int a6), some (.int a1)] [.int (a6 - a6 / (nI 4) * (nI 4)), .int (nI 8), .int (nI 24), .int a1, .int (I 46 2), .ref 47] ((fl, n1, n2, p, q, ad), I, J)
      show vp_in (I 46 2) 900 ∧ _
      refine ⟨((h.2 c0).2 c1).1, ?_⟩
      exact ((h.2 c0).2 c1).2
/- 173 ThreeBreathsModel look -/
theorem fx_173 {d : Nat} {x0 : Int32} {fl : Nat → Bool} {n1 n2 : Nat} {p q : Bool} {ad : Nat → Nat} {I : mmI} {J : mmJ} {Q : mmQ} (h : (((I 46 3) ≤ x0 → Q (some (.int (-1))) ((fl, n1, n2, p, q, ad), I, J)) ∧ (¬ (I 46 3) ≤ x0 → (vp_in x0 900 ∧ Q (some (.int (I 47 x0.toNatClampNeg))) ((fl, n1, n2, p, q, ad), I, J))))) : mm_wc (d + 1) 173 [.ref 46, .int x0] ((fl, n1, n2, p, q, ad), I, J) Q := by
  refine mm_call (c := 173) rfl rfl ?_
  refine mm_go [] 80 ?_
  show ((I 46 3) ≤ x0 → _) ∧ (¬ (I 46 3) ≤ x0 → _)
  refine ⟨fun c0 => ?_, fun c0 => ?_⟩
  · exact (h.1 c0)
  · show mm_b _ _ _ _ _ [some (.ref 46), some (.int x0)] [] ((fl, n1, n2, p, q, ad), I, J)
    show vp_in x0 900 ∧ _
    refine ⟨(h.2 c0).1, ?_⟩
    exact (h.2 c0).2
/- 174 ThreeBreathsModel isSmall -/
theorem fx_174 {d : Nat} {x0 : Int32} {fl : Nat → Bool} {n1 n2 : Nat} {p q : Bool} {ad : Nat → Nat} {I : mmI} {J : mmJ} {Q : mmQ} (h : ((x0 < (nI 97) → Q (some (.int (nI 0))) ((fl, n1, n2, p, q, ad), I, J)) ∧ (¬ x0 < (nI 97) → (((nI 122) < x0 → Q (some (.int (nI 0))) ((fl, n1, n2, p, q, ad), I, J)) ∧ (¬ (nI 122) < x0 → Q (some (.int (nI 1))) ((fl, n1, n2, p, q, ad), I, J)))))) : mm_wc (d + 1) 174 [.int x0] ((fl, n1, n2, p, q, ad), I, J) Q := by
  refine mm_call (c := 174) rfl rfl ?_
  refine mm_go [] 80 ?_
  show (x0 < (nI 97) → _) ∧ (¬ x0 < (nI 97) → _)
  refine ⟨fun c0 => ?_, fun c0 => ?_⟩
  · show mm_u _ _ _ _ _ _ [some (.int x0)] [] ((fl, n1, n2, p, q, ad), I, J)
    show (((nI 0) : Int32) = 0 ∨ ((nI 0) : Int32) = 1) ∧ _
    refine ⟨(by decide), ?_⟩
    exact (h.1 c0)
  · show mm_b _ _ _ _ _ [some (.int x0)] [] ((fl, n1, n2, p, q, ad), I, J)
    show ((nI 122) < x0 → _) ∧ (¬ (nI 122) < x0 → _)
    refine ⟨fun c1 => ?_, fun c1 => ?_⟩
    · show mm_u _ _ _ _ _ _ [some (.int x0)] [] ((fl, n1, n2, p, q, ad), I, J)
      show (((nI 0) : Int32) = 0 ∨ ((nI 0) : Int32) = 1) ∧ _
      refine ⟨(by decide), ?_⟩
      exact ((h.2 c0).1 c1)
    · show mm_b _ _ _ _ _ [some (.int x0)] [] ((fl, n1, n2, p, q, ad), I, J)
      show (((nI 1) : Int32) = 0 ∨ ((nI 1) : Int32) = 1) ∧ _
      refine ⟨(by decide), ?_⟩
      exact ((h.2 c0).2 c1)
/- 175 ThreeBreathsModel isDigit -/
theorem fx_175 {d : Nat} {x0 : Int32} {fl : Nat → Bool} {n1 n2 : Nat} {p q : Bool} {ad : Nat → Nat} {I : mmI} {J : mmJ} {Q : mmQ} (h : ((x0 < (nI 48) → Q (some (.int (nI 0))) ((fl, n1, n2, p, q, ad), I, J)) ∧ (¬ x0 < (nI 48) → (((nI 57) < x0 → Q (some (.int (nI 0))) ((fl, n1, n2, p, q, ad), I, J)) ∧ (¬ (nI 57) < x0 → Q (some (.int (nI 1))) ((fl, n1, n2, p, q, ad), I, J)))))) : mm_wc (d + 1) 175 [.int x0] ((fl, n1, n2, p, q, ad), I, J) Q := by
  refine mm_call (c := 175) rfl rfl ?_
  refine mm_go [] 80 ?_
  show (x0 < (nI 48) → _) ∧ (¬ x0 < (nI 48) → _)
  refine ⟨fun c0 => ?_, fun c0 => ?_⟩
  · show mm_u _ _ _ _ _ _ [some (.int x0)] [] ((fl, n1, n2, p, q, ad), I, J)
    show (((nI 0) : Int32) = 0 ∨ ((nI 0) : Int32) = 1) ∧ _
    refine ⟨(by decide), ?_⟩
    exact (h.1 c0)
  · show mm_b _ _ _ _ _ [some (.int x0)] [] ((fl, n1, n2, p, q, ad), I, J)
    show ((nI 57) < x0 → _) ∧ (¬ (nI 57) < x0 → _)
    refine ⟨fun c1 => ?_, fun c1 => ?_⟩
    · show mm_u _ _ _ _ _ _ [some (.int x0)] [] ((fl, n1, n2, p, q, ad), I, J)
      show (((nI 0) : Int32) = 0 ∨ ((nI 0) : Int32) = 1) ∧ _
      refine ⟨(by decide), ?_⟩
      exact ((h.2 c0).1 c1)
    · show mm_b _ _ _ _ _ [some (.int x0)] [] ((fl, n1, n2, p, q, ad), I, J)
      show (((nI 1) : Int32) = 0 ∨ ((nI 1) : Int32) = 1) ∧ _
      refine ⟨(by decide), ?_⟩
      exact ((h.2 c0).2 c1)
/- 176 ThreeBreathsModel next -/
theorem fx_176 {d : Nat} {fl : Nat → Bool} {n1 n2 : Nat} {p q : Bool} {ad : Nat → Nat} {I : mmI} {J : mmJ} {Q : mmQ} (h : mm_w Q (mm_wc d) bk_176 5 [some (.ref 46), some (.int (I 46 5)), none, none] [] ((fl, n1, n2, p, q, ad), I, J)) : mm_wc (d + 1) 176 [.ref 46] ((fl, n1, n2, p, q, ad), I, J) Q := by
  refine mm_call (c := 176) rfl rfl ?_
  refine mm_go [5, 67, 152] 80 ?_
  exact h
theorem fx_176_5 {d : Nat} {a1 : Int32} {fl : Nat → Bool} {n1 n2 : Nat} {p q : Bool} {ad : Nat → Nat} {I : mmI} {J : mmJ} {Q : mmQ} (h : mm_wc d 173 [.ref 46, .int a1] ((fl, 0, 0, p, q, ad), I, J) (fun v τ => ∃ r1 I1 J1, v = some (.int r1) ∧ τ = ((fl, 0, 0, p, q, ad), I1, J1) ∧ ((¬ r1 = (nI 32) → mm_wc d 173 [.ref 46, .int a1] ((fl, 0, 0, p, q, ad), (mm_up I1 46 4 a1), J1) (fun v τ => ∃ r2 I2 J2, v = some (.int r2) ∧ τ = ((fl, 0, 0, p, q, ad), I2, J2) ∧ ((¬ r2 = (-1) → mm_wc d 174 [.int r2] ((fl, 0, 0, p, q, ad), (mm_up (mm_up I2 46 8 (nI 0)) 46 7 (nI 0)), J2) (fun v τ => ∃ r3 I3 J3, v = some (.int r3) ∧ τ = ((fl, 0, 0, p, q, ad), I3, J3) ∧ ((r3 = (nI 0) → mm_wc d 175 [.int r2] ((fl, 0, 0, p, q, ad), I3, J3) (fun v τ => ∃ r4 I4 J4, v = some (.int r4) ∧ τ = ((fl, 0, 0, p, q, ad), I4, J4) ∧ ((r4 = (nI 0) → ((r2 = (nI 59) → Q none ((fl, n1, n2, p, q, ad), (mm_up (mm_up I4 46 5 (a1 + (nI 1))) 46 6 r2), J4)) ∧ (¬ r2 = (nI 59) → ((¬ r2 = (nI 44) → Q none ((fl, n1, n2, p, q, ad), (mm_up (mm_up I4 46 5 (a1 + (nI 1))) 46 6 (nI 1)), J4)) ∧ (r2 = (nI 44) → Q none ((fl, n1, n2, p, q, ad), (mm_up (mm_up I4 46 5 (a1 + (nI 1))) 46 6 r2), J4)))))) ∧ (¬ r4 = (nI 0) → mm_w Q (mm_wc d) bk_176 152 [some (.ref 46), some (.int a1), none, some (.int (nI 0))] [] ((fl, n1, n2, p, q, ad), I4, J4))))) ∧ (¬ r3 = (nI 0) → mm_w Q (mm_wc d) bk_176 67 [some (.ref 46), some (.int a1), none, none] [] ((fl, n1, n2, p, q, ad), I3, J3))))) ∧ (r2 = (-1) → Q none ((fl, n1, n2, p, q, ad), (mm_up (mm_up (mm_up (mm_up I2 46 8 (nI 0)) 46 7 (nI 0)) 46 6 (nI 0)) 46 5 a1), J2))))) ∧ (r1 = (nI 32) → mm_w Q (mm_wc d) bk_176 5 [some (.ref 46), some (.int (a1 + (nI 1))), none, none] [] ((fl, n1, n2, p, q, ad), I1, J1))))) : mm_w Q (mm_wc (d)) bk_176 5 [some (.ref 46), some (.int a1), none, none] [] ((fl, n1, n2, p, q, ad), I, J) := by
  refine mm_go [5, 67, 152] 80 ?_
  show mm_wc d 173 [.ref 46, .int a1] ((fl, 0, 0, p, q, ad), I, J) _
  refine mm_wcm h ?_
  rintro v τ ⟨r1, I1, J1, rfl, rfl, h1⟩
  refine mm_r1' ⟨rfl, ?_⟩
  show mm_b _ _ _ _ _ [some (.ref 46), some (.int a1), none, none] [.int r1] ((fl, n1, n2, p, q, ad), I1, J1)
  show (¬ r1 = (nI 32) → _) ∧ (r1 = (nI 32) → _)
  refine ⟨fun c0 => ?_, fun c0 => ?_⟩
  · show mm_u _ _ _ _ _ _ [some (.ref 46), some (.int a1), none, none] [] ((fl, n1, n2, p, q, ad), I1, J1)
    show mm_wc d 173 [.ref 46, .int a1] ((fl, 0, 0, p, q, ad), (mm_up I1 46 4 a1), J1) _
    refine mm_wcm (h1.1 c0) ?_
    rintro v τ ⟨r2, I2, J2, rfl, rfl, h2⟩
    refine mm_r1' ⟨rfl, ?_⟩
    show mm_b _ _ _ _ _ [some (.ref 46), some (.int a1), none, none] [.int r2] ((fl, n1, n2, p, q, ad), I2, J2)
    show (¬ r2 = (-1) → _) ∧ (r2 = (-1) → _)
    refine ⟨fun c1 => ?_, fun c1 => ?_⟩
    · show mm_u _ _ _ _ _ _ [some (.ref 46), some (.int a1), some (.int r2), none] [] ((fl, n1, n2, p, q, ad), (mm_up (mm_up I2 46 8 (nI 0)) 46 7 (nI 0)), J2)
      show mm_wc d 174 [.int r2] ((fl, 0, 0, p, q, ad), (mm_up (mm_up I2 46 8 (nI 0)) 46 7 (nI 0)), J2) _
      refine mm_wcm (h2.1 c1) ?_
      rintro v τ ⟨r3, I3, J3, rfl, rfl, h3⟩
      refine mm_r1' ⟨rfl, ?_⟩
      show mm_b _ _ _ _ _ [some (.ref 46), some (.int a1), some (.int r2), none] [.int r3] ((fl, n1, n2, p, q, ad), I3, J3)
      show (r3 = (nI 0) → _) ∧ (¬ r3 = (nI 0) → _)
      refine ⟨fun c2 => ?_, fun c2 => ?_⟩
      · show mm_u _ _ _ _ _ _ [some (.ref 46), some (.int a1), some (.int r2), none] [] ((fl, n1, n2, p, q, ad), I3, J3)
        show mm_wc d 175 [.int r2] ((fl, 0, 0, p, q, ad), I3, J3) _
        refine mm_wcm (h3.1 c2) ?_
        rintro v τ ⟨r4, I4, J4, rfl, rfl, h4⟩
        refine mm_r1' ⟨rfl, ?_⟩
        show mm_b _ _ _ _ _ [some (.ref 46), some (.int a1), some (.int r2), none] [.int r4] ((fl, n1, n2, p, q, ad), I4, J4)
        show (r4 = (nI 0) → _) ∧ (¬ r4 = (nI 0) → _)
        refine ⟨fun c3 => ?_, fun c3 => ?_⟩
        · show mm_u _ _ _ _ _ _ [some (.ref 46), some (.int a1), some (.int r2), none] [] ((fl, n1, n2, p, q, ad), I4, J4)
          show (r2 = (nI 59) → _) ∧ (¬ r2 = (nI 59) → _)
          refine ⟨fun c4 => ?_, fun c4 => ?_⟩
          · exact ((h4.1 c3).1 c4)
          · show mm_b _ _ _ _ _ [some (.ref 46), some (.int a1), some (.int r2), none] [.ref 46] ((fl, n1, n2, p, q, ad), (mm_up I4 46 5 (a1 + (nI 1))), J4)
            show (¬ r2 = (nI 44) → _) ∧ (r2 = (nI 44) → _)
            refine ⟨fun c5 => ?_, fun c5 => ?_⟩
            · exact (((h4.1 c3).2 c4).1 c5)
            · exact (((h4.1 c3).2 c4).2 c5)
        · exact (h4.2 c3)
      · exact (h3.2 c2)
    · exact (h2.2 c1)
  · exact (h1.2 c0)
theorem fx_176_152 {d : Nat} {a1 : Int32} {a3 : Int32} {fl : Nat → Bool} {n1 n2 : Nat} {p q : Bool} {ad : Nat → Nat} {I : mmI} {J : mmJ} {Q : mmQ} (h : mm_wc d 173 [.ref 46, .int a1] ((fl, 0, 0, p, q, ad), I, J) (fun v τ => ∃ r1 I1 J1, v = some (.int r1) ∧ τ = ((fl, 0, 0, p, q, ad), I1, J1) ∧ mm_wc d 175 [.int r1] ((fl, 0, 0, p, q, ad), I1, J1) (fun v τ => ∃ r2 I2 J2, v = some (.int r2) ∧ τ = ((fl, 0, 0, p, q, ad), I2, J2) ∧ ((r2 = (nI 0) → ((a3 ≤ (nI 3) → Q none ((fl, n1, n2, p, q, ad), (mm_up (mm_up I2 46 5 a1) 46 6 (nI 3)), J2)) ∧ (¬ a3 ≤ (nI 3) → Q none ((fl, n1, n2, p, q, ad), (mm_up (mm_up I2 46 5 a1) 46 6 (nI 1)), J2)))) ∧ (¬ r2 = (nI 0) → (((nI 3) ≤ a3 → mm_w Q (mm_wc d) bk_176 152 [some (.ref 46), some (.int (a1 + (nI 1))), none, some (.int (a3 + (nI 1)))] [] ((fl, n1, n2, p, q, ad), I2, J2)) ∧ (¬ (nI 3) ≤ a3 → mm_wc d 173 [.ref 46, .int a1] ((fl, 0, 0, p, q, ad), I2, J2) (fun v τ => ∃ r3 I3 J3, v = some (.int r3) ∧ τ = ((fl, 0, 0, p, q, ad), I3, J3) ∧ mm_w Q (mm_wc d) bk_176 152 [some (.ref 46), some (.int (a1 + (nI 1))), none, some (.int (a3 + (nI 1)))] [] ((fl, n1, n2, p, q, ad), (mm_up I3 46 7 ((((nI 10) * (I2 46 7)) + r3) - (nI 48))), J3))))))))) : mm_w Q (mm_wc (d)) bk_176 152 [some (.ref 46), some (.int a1), none, some (.int a3)] [] ((fl, n1, n2, p, q, ad), I, J) := by
  refine mm_go [5, 67, 152] 80 ?_
  show mm_wc d 173 [.ref 46, .int a1] ((fl, 0, 0, p, q, ad), I, J) _
  refine mm_wcm h ?_
  rintro v τ ⟨r1, I1, J1, rfl, rfl, h1⟩
  refine mm_r1' ⟨rfl, ?_⟩
  show mm_b _ _ _ _ _ [some (.ref 46), some (.int a1), none, some (.int a3)] [.int r1] ((fl, n1, n2, p, q, ad), I1, J1)
  show mm_wc d 175 [.int r1] ((fl, 0, 0, p, q, ad), I1, J1) _
  refine mm_wcm h1 ?_
  rintro v τ ⟨r2, I2, J2, rfl, rfl, h2⟩
  refine mm_r1' ⟨rfl, ?_⟩
  show mm_b _ _ _ _ _ [some (.ref 46), some (.int a1), none, some (.int a3)] [.int r2] ((fl, n1, n2, p, q, ad), I2, J2)
  show (r2 = (nI 0) → _) ∧ (¬ r2 = (nI 0) → _)
  refine ⟨fun c0 => ?_, fun c0 => ?_⟩
  · show mm_u _ _ _ _ _ _ [some (.ref 46), some (.int a1), none, some (.int a3)] [] ((fl, n1, n2, p, q, ad), I2, J2)
    show (a3 ≤ (nI 3) → _) ∧ (¬ a3 ≤ (nI 3) → _)
    refine ⟨fun c1 => ?_, fun c1 => ?_⟩
    · exact ((h2.1 c0).1 c1)
    · exact ((h2.1 c0).2 c1)
  · show mm_b _ _ _ _ _ [some (.ref 46), some (.int a1), none, some (.int a3)] [] ((fl, n1, n2, p, q, ad), I2, J2)
    show ((nI 3) ≤ a3 → _) ∧ (¬ (nI 3) ≤ a3 → _)
    refine ⟨fun c1 => ?_, fun c1 => ?_⟩
    · exact ((h2.2 c0).1 c1)
    · show mm_b _ _ _ _ _ [some (.ref 46), some (.int a1), none, some (.int a3)] [] ((fl, n1, n2, p, q, ad), I2, J2)
      show mm_wc d 173 [.ref 46, .int a1] ((fl, 0, 0, p, q, ad), I2, J2) _
      refine mm_wcm ((h2.2 c0).2 c1) ?_
      rintro v τ ⟨r3, I3, J3, rfl, rfl, h3⟩
      refine mm_r1' ⟨rfl, ?_⟩
      exact h3
theorem fx_176_67 {d : Nat} {a1 : Int32} {fl : Nat → Bool} {n1 n2 : Nat} {p q : Bool} {ad : Nat → Nat} {I : mmI} {J : mmJ} {Q : mmQ} (h : mm_wc d 173 [.ref 46, .int a1] ((fl, 0, 0, p, q, ad), I, J) (fun v τ => ∃ r1 I1 J1, v = some (.int r1) ∧ τ = ((fl, 0, 0, p, q, ad), I1, J1) ∧ mm_wc d 174 [.int r1] ((fl, 0, 0, p, q, ad), I1, J1) (fun v τ => ∃ r2 I2 J2, v = some (.int r2) ∧ τ = ((fl, 0, 0, p, q, ad), I2, J2) ∧ ((r2 = (nI 0) → (((I2 46 8) ≤ (nI 8) → Q none ((fl, n1, n2, p, q, ad), (mm_up (mm_up I2 46 5 a1) 46 6 (nI 2)), J2)) ∧ (¬ (I2 46 8) ≤ (nI 8) → Q none ((fl, n1, n2, p, q, ad), (mm_up (mm_up I2 46 5 a1) 46 6 (nI 1)), J2)))) ∧ (¬ r2 = (nI 0) → (((nI 8) ≤ (I2 46 8) → mm_w Q (mm_wc d) bk_176 67 [some (.ref 46), some (.int (a1 + (nI 1))), none, none] [] ((fl, n1, n2, p, q, ad), (mm_up I2 46 8 ((I2 46 8) + (nI 1))), J2)) ∧ (¬ (nI 8) ≤ (I2 46 8) → mm_wc d 173 [.ref 46, .int a1] ((fl, 0, 0, p, q, ad), I2, J2) (fun v τ => ∃ r3 I3 J3, v = some (.int r3) ∧ τ = ((fl, 0, 0, p, q, ad), I3, J3) ∧ (vp_in (I2 46 8) 8 ∧ mm_w Q (mm_wc d) bk_176 67 [some (.ref 46), some (.int (a1 + (nI 1))), none, none] [] ((fl, n1, n2, p, q, ad), (mm_up (mm_up I3 48 ((I2 46 8)).toNatClampNeg r3) 46 8 ((I3 46 8) + (nI 1))), J3)))))))))) : mm_w Q (mm_wc (d)) bk_176 67 [some (.ref 46), some (.int a1), none, none] [] ((fl, n1, n2, p, q, ad), I, J) := by
  refine mm_go [5, 67, 152] 80 ?_
  show mm_wc d 173 [.ref 46, .int a1] ((fl, 0, 0, p, q, ad), I, J) _
  refine mm_wcm h ?_
  rintro v τ ⟨r1, I1, J1, rfl, rfl, h1⟩
  refine mm_r1' ⟨rfl, ?_⟩
  show mm_b _ _ _ _ _ [some (.ref 46), some (.int a1), none, none] [.int r1] ((fl, n1, n2, p, q, ad), I1, J1)
  show mm_wc d 174 [.int r1] ((fl, 0, 0, p, q, ad), I1, J1) _
  refine mm_wcm h1 ?_
  rintro v τ ⟨r2, I2, J2, rfl, rfl, h2⟩
  refine mm_r1' ⟨rfl, ?_⟩
  show mm_b _ _ _ _ _ [some (.ref 46), some (.int a1), none, none] [.int r2] ((fl, n1, n2, p, q, ad), I2, J2)
  show (r2 = (nI 0) → _) ∧ (¬ r2 = (nI 0) → _)
  refine ⟨fun c0 => ?_, fun c0 => ?_⟩
  · show mm_u _ _ _ _ _ _ [some (.ref 46), some (.int a1), none, none] [] ((fl, n1, n2, p, q, ad), I2, J2)
    show ((I2 46 8) ≤ (nI 8) → _) ∧ (¬ (I2 46 8) ≤ (nI 8) → _)
    refine ⟨fun c1 => ?_, fun c1 => ?_⟩
    · exact ((h2.1 c0).1 c1)
    · exact ((h2.1 c0).2 c1)
  · show mm_b _ _ _ _ _ [some (.ref 46), some (.int a1), none, none] [] ((fl, n1, n2, p, q, ad), I2, J2)
    show ((nI 8) ≤ (I2 46 8) → _) ∧ (¬ (nI 8) ≤ (I2 46 8) → _)
    refine ⟨fun c1 => ?_, fun c1 => ?_⟩
    · exact ((h2.2 c0).1 c1)
    · show mm_b _ _ _ _ _ [some (.ref 46), some (.int a1), none, none] [] ((fl, n1, n2, p, q, ad), I2, J2)
      show mm_wc d 173 [.ref 46, .int a1] ((fl, 0, 0, p, q, ad), I2, J2) _
      refine mm_wcm ((h2.2 c0).2 c1) ?_
      rintro v τ ⟨r3, I3, J3, rfl, rfl, h3⟩
      refine mm_r1' ⟨rfl, ?_⟩
      show mm_b _ _ _ _ _ [some (.ref 46), some (.int a1), none, none] [.int r3, .int (I2 46 8), .ref 48] ((fl, n1, n2, p, q, ad), I3, J3)
      show vp_in (I2 46 8) 8 ∧ _
      refine ⟨h3.1, ?_⟩
      exact h3.2
/- 177 ThreeBreathsModel wrong -/
theorem fx_177 {d : Nat} {x0 : Int32} {x1 : Int32} {fl : Nat → Bool} {n1 n2 : Nat} {p q : Bool} {ad : Nat → Nat} {I : mmI} {J : mmJ} {Q : mmQ} (h : (((I 46 13) = (nI 0) → Q none ((fl, n1, n2, p, q, ad), (mm_up (mm_up (mm_up I 46 13 (nI 1)) 46 9 x0) 46 10 x1), J)) ∧ (¬ (I 46 13) = (nI 0) → Q none ((fl, n1, n2, p, q, ad), I, J)))) : mm_wc (d + 1) 177 [.ref 46, .int x0, .int x1] ((fl, n1, n2, p, q, ad), I, J) Q := by
  refine mm_call (c := 177) rfl rfl ?_
  refine mm_go [] 80 ?_
  show ((I 46 13) = (nI 0) → _) ∧ (¬ (I 46 13) = (nI 0) → _)
  refine ⟨fun c0 => ?_, fun c0 => ?_⟩
  · show mm_u _ _ _ _ _ _ [some (.ref 46), some (.int x0), some (.int x1)] [] ((fl, n1, n2, p, q, ad), I, J)
    show (((nI 1) : Int32) = 0 ∨ ((nI 1) : Int32) = 1) ∧ _
    refine ⟨(by decide), ?_⟩
    exact (h.1 c0)
  · exact (h.2 c0)
/- 178 ThreeBreathsModel isWord -/
theorem fx_178_cake {d : Nat} {fl : Nat → Bool} {n1 n2 : Nat} {p q : Bool} {ad : Nat → Nat} {I : mmI} {J : mmJ} {Q : mmQ} (h : ((¬ (I 46 13) = (nI 0) → Q (some (.int (nI 0))) ((fl, n1, n2, p, q, ad), I, J)) ∧ ((I 46 13) = (nI 0) → ((¬ (I 46 6) = (nI 2) → Q (some (.int (nI 0))) ((fl, n1, n2, p, q, ad), I, J)) ∧ ((I 46 6) = (nI 2) → mm_wc d 1004 [.ref 98] ((fl, 0, 0, p, q, ad), I, J) (fun v τ => ∃ r1 I1 J1, v = some (.int r1) ∧ τ = ((fl, 0, 0, p, q, ad), I1, J1) ∧ (((I 46 8) = r1 → mm_w Q (mm_wc d) bk_178 32 [some (.ref 46), some (.ref 98), some (.int (nI 1)), some (.int (nI 0))] [] ((fl, n1, n2, p, q, ad), I1, J1)) ∧ (¬ (I 46 8) = r1 → Q (some (.int (nI 0))) ((fl, n1, n2, p, q, ad), I1, J1))))))))) : mm_wc (d + 1) 178 [.ref 46, .ref 98] ((fl, n1, n2, p, q, ad), I, J) Q := by
  refine mm_call (c := 178) rfl rfl ?_
  refine mm_go [32] 80 ?_
  show (¬ (I 46 13) = (nI 0) → _) ∧ ((I 46 13) = (nI 0) → _)
  refine ⟨fun c0 => ?_, fun c0 => ?_⟩
  · show mm_u _ _ _ _ _ _ [some (.ref 46), some (.ref 98), none, none] [] ((fl, n1, n2, p, q, ad), I, J)
    show (((nI 0) : Int32) = 0 ∨ ((nI 0) : Int32) = 1) ∧ _
    refine ⟨(by decide), ?_⟩
    exact (h.1 c0)
  · show mm_b _ _ _ _ _ [some (.ref 46), some (.ref 98), none, none] [] ((fl, n1, n2, p, q, ad), I, J)
    show (¬ (I 46 6) = (nI 2) → _) ∧ ((I 46 6) = (nI 2) → _)
    refine ⟨fun c1 => ?_, fun c1 => ?_⟩
    · show mm_u _ _ _ _ _ _ [some (.ref 46), some (.ref 98), none, none] [] ((fl, n1, n2, p, q, ad), I, J)
      show (((nI 0) : Int32) = 0 ∨ ((nI 0) : Int32) = 1) ∧ _
      refine ⟨(by decide), ?_⟩
      exact ((h.2 c0).1 c1)
    · show mm_b _ _ _ _ _ [some (.ref 46), some (.ref 98), none, none] [] ((fl, n1, n2, p, q, ad), I, J)
      show mm_wc d 1004 [.ref 98] ((fl, 0, 0, p, q, ad), I, J) _
      refine mm_wcm ((h.2 c0).2 c1) ?_
      rintro v τ ⟨r1, I1, J1, rfl, rfl, h1⟩
      refine mm_r1' ⟨rfl, ?_⟩
      show mm_b _ _ _ _ _ [some (.ref 46), some (.ref 98), none, none] [.int r1, .int (I 46 8)] ((fl, n1, n2, p, q, ad), I1, J1)
      show ((I 46 8) = r1 → _) ∧ (¬ (I 46 8) = r1 → _)
      refine ⟨fun c2 => ?_, fun c2 => ?_⟩
      · exact (h1.1 c2)
      · show mm_b _ _ _ _ _ [some (.ref 46), some (.ref 98), none, none] [] ((fl, n1, n2, p, q, ad), I1, J1)
        show (((nI 0) : Int32) = 0 ∨ ((nI 0) : Int32) = 1) ∧ _
        refine ⟨(by decide), ?_⟩
        exact (h1.2 c2)
theorem fx_178_cake_32 {d : Nat} {a2 : Int32} {a3 : Int32} {fl : Nat → Bool} {n1 n2 : Nat} {p q : Bool} {ad : Nat → Nat} {I : mmI} {J : mmJ} {Q : mmQ} (h : (((I 46 8) ≤ a3 → ((a2 = 0 ∨ a2 = 1) ∧ Q (some (.int a2)) ((fl, n1, n2, p, q, ad), I, J))) ∧ (¬ (I 46 8) ≤ a3 → ((a2 = (nI 0) → mm_w Q (mm_wc d) bk_178 32 [some (.ref 46), some (.ref 98), some (.int (nI 0)), some (.int (a3 + (nI 1)))] [] ((fl, n1, n2, p, q, ad), I, J)) ∧ (¬ a2 = (nI 0) → (vp_in a3 8 ∧ mm_wc d 1005 [.ref 98, .int a3] ((fl, 0, 0, p, q, ad), I, J) (fun v τ => ∃ r1 I1 J1, v = some (.int r1) ∧ τ = ((fl, 0, 0, p, q, ad), I1, J1) ∧ ((¬ (I 48 a3.toNatClampNeg) = r1 → mm_w Q (mm_wc d) bk_178 32 [some (.ref 46), some (.ref 98), some (.int (nI 0)), some (.int (a3 + (nI 1)))] [] ((fl, n1, n2, p, q, ad), I1, J1)) ∧ ((I 48 a3.toNatClampNeg) = r1 → mm_w Q (mm_wc d) bk_178 32 [some (.ref 46), some (.ref 98), some (.int (nI 1)), some (.int (a3 + (nI 1)))] [] ((fl, n1, n2, p, q, ad), I1, J1)))))))))) : mm_w Q (mm_wc (d)) bk_178 32 [some (.ref 46), some (.ref 98), some (.int a2), some (.int a3)] [] ((fl, n1, n2, p, q, ad), I, J) := by
  refine mm_go [32] 80 ?_
  show ((I 46 8) ≤ a3 → _) ∧ (¬ (I 46 8) ≤ a3 → _)
  refine ⟨fun c0 => ?_, fun c0 => ?_⟩
  · show mm_u _ _ _ _ _ _ [some (.ref 46), some (.ref 98), some (.int a2), some (.int a3)] [] ((fl, n1, n2, p, q, ad), I, J)
    show (a2 = 0 ∨ a2 = 1) ∧ _
    refine ⟨(h.1 c0).1, ?_⟩
    exact (h.1 c0).2
  · show mm_b _ _ _ _ _ [some (.ref 46), some (.ref 98), some (.int a2), some (.int a3)] [] ((fl, n1, n2, p, q, ad), I, J)
    show (a2 = (nI 0) → _) ∧ (¬ a2 = (nI 0) → _)
    refine ⟨fun c1 => ?_, fun c1 => ?_⟩
    · exact ((h.2 c0).1 c1)
    · show mm_b _ _ _ _ _ [some (.ref 46), some (.ref 98), some (.int a2), some (.int a3)] [] ((fl, n1, n2, p, q, ad), I, J)
      show vp_in a3 8 ∧ _
      refine ⟨((h.2 c0).2 c1).1, ?_⟩
      show mm_b _ _ _ _ _ [some (.ref 46), some (.ref 98), some (.int a2), some (.int a3)] [.int (I 48 a3.toNatClampNeg)] ((fl, n1, n2, p, q, ad), I, J)
      show mm_wc d 1005 [.ref 98, .int a3] ((fl, 0, 0, p, q, ad), I, J) _
      refine mm_wcm (((h.2 c0).2 c1).2) ?_
      rintro v τ ⟨r1, I1, J1, rfl, rfl, h1⟩
      refine mm_r1' ⟨rfl, ?_⟩
      show mm_b _ _ _ _ _ [some (.ref 46), some (.ref 98), some (.int a2), some (.int a3)] [.int r1, .int (I 48 a3.toNatClampNeg)] ((fl, n1, n2, p, q, ad), I1, J1)
      show (¬ (I 48 a3.toNatClampNeg) = r1 → _) ∧ ((I 48 a3.toNatClampNeg) = r1 → _)
      refine ⟨fun c2 => ?_, fun c2 => ?_⟩
      · exact (h1.1 c2)
      · exact (h1.2 c2)
/- 178 ThreeBreathsModel isWord -/
theorem fx_178_near {d : Nat} {fl : Nat → Bool} {n1 n2 : Nat} {p q : Bool} {ad : Nat → Nat} {I : mmI} {J : mmJ} {Q : mmQ} (h : ((¬ (I 46 13) = (nI 0) → Q (some (.int (nI 0))) ((fl, n1, n2, p, q, ad), I, J)) ∧ ((I 46 13) = (nI 0) → ((¬ (I 46 6) = (nI 2) → Q (some (.int (nI 0))) ((fl, n1, n2, p, q, ad), I, J)) ∧ ((I 46 6) = (nI 2) → mm_wc d 1004 [.ref 99] ((fl, 0, 0, p, q, ad), I, J) (fun v τ => ∃ r1 I1 J1, v = some (.int r1) ∧ τ = ((fl, 0, 0, p, q, ad), I1, J1) ∧ (((I 46 8) = r1 → mm_w Q (mm_wc d) bk_178 32 [some (.ref 46), some (.ref 99), some (.int (nI 1)), some (.int (nI 0))] [] ((fl, n1, n2, p, q, ad), I1, J1)) ∧ (¬ (I 46 8) = r1 → Q (some (.int (nI 0))) ((fl, n1, n2, p, q, ad), I1, J1))))))))) : mm_wc (d + 1) 178 [.ref 46, .ref 99] ((fl, n1, n2, p, q, ad), I, J) Q := by
  refine mm_call (c := 178) rfl rfl ?_
  refine mm_go [32] 80 ?_
  show (¬ (I 46 13) = (nI 0) → _) ∧ ((I 46 13) = (nI 0) → _)
  refine ⟨fun c0 => ?_, fun c0 => ?_⟩
  · show mm_u _ _ _ _ _ _ [some (.ref 46), some (.ref 99), none, none] [] ((fl, n1, n2, p, q, ad), I, J)
    show (((nI 0) : Int32) = 0 ∨ ((nI 0) : Int32) = 1) ∧ _
    refine ⟨(by decide), ?_⟩
    exact (h.1 c0)
  · show mm_b _ _ _ _ _ [some (.ref 46), some (.ref 99), none, none] [] ((fl, n1, n2, p, q, ad), I, J)
    show (¬ (I 46 6) = (nI 2) → _) ∧ ((I 46 6) = (nI 2) → _)
    refine ⟨fun c1 => ?_, fun c1 => ?_⟩
    · show mm_u _ _ _ _ _ _ [some (.ref 46), some (.ref 99), none, none] [] ((fl, n1, n2, p, q, ad), I, J)
      show (((nI 0) : Int32) = 0 ∨ ((nI 0) : Int32) = 1) ∧ _
      refine ⟨(by decide), ?_⟩
      exact ((h.2 c0).1 c1)
    · show mm_b _ _ _ _ _ [some (.ref 46), some (.ref 99), none, none] [] ((fl, n1, n2, p, q, ad), I, J)
      show mm_wc d 1004 [.ref 99] ((fl, 0, 0, p, q, ad), I, J) _
      refine mm_wcm ((h.2 c0).2 c1) ?_
      rintro v τ ⟨r1, I1, J1, rfl, rfl, h1⟩
      refine mm_r1' ⟨rfl, ?_⟩
      show mm_b _ _ _ _ _ [some (.ref 46), some (.ref 99), none, none] [.int r1, .int (I 46 8)] ((fl, n1, n2, p, q, ad), I1, J1)
      show ((I 46 8) = r1 → _) ∧ (¬ (I 46 8) = r1 → _)
      refine ⟨fun c2 => ?_, fun c2 => ?_⟩
      · exact (h1.1 c2)
      · show mm_b _ _ _ _ _ [some (.ref 46), some (.ref 99), none, none] [] ((fl, n1, n2, p, q, ad), I1, J1)
        show (((nI 0) : Int32) = 0 ∨ ((nI 0) : Int32) = 1) ∧ _
        refine ⟨(by decide), ?_⟩
        exact (h1.2 c2)
theorem fx_178_near_32 {d : Nat} {a2 : Int32} {a3 : Int32} {fl : Nat → Bool} {n1 n2 : Nat} {p q : Bool} {ad : Nat → Nat} {I : mmI} {J : mmJ} {Q : mmQ} (h : (((I 46 8) ≤ a3 → ((a2 = 0 ∨ a2 = 1) ∧ Q (some (.int a2)) ((fl, n1, n2, p, q, ad), I, J))) ∧ (¬ (I 46 8) ≤ a3 → ((a2 = (nI 0) → mm_w Q (mm_wc d) bk_178 32 [some (.ref 46), some (.ref 99), some (.int (nI 0)), some (.int (a3 + (nI 1)))] [] ((fl, n1, n2, p, q, ad), I, J)) ∧ (¬ a2 = (nI 0) → (vp_in a3 8 ∧ mm_wc d 1005 [.ref 99, .int a3] ((fl, 0, 0, p, q, ad), I, J) (fun v τ => ∃ r1 I1 J1, v = some (.int r1) ∧ τ = ((fl, 0, 0, p, q, ad), I1, J1) ∧ ((¬ (I 48 a3.toNatClampNeg) = r1 → mm_w Q (mm_wc d) bk_178 32 [some (.ref 46), some (.ref 99), some (.int (nI 0)), some (.int (a3 + (nI 1)))] [] ((fl, n1, n2, p, q, ad), I1, J1)) ∧ ((I 48 a3.toNatClampNeg) = r1 → mm_w Q (mm_wc d) bk_178 32 [some (.ref 46), some (.ref 99), some (.int (nI 1)), some (.int (a3 + (nI 1)))] [] ((fl, n1, n2, p, q, ad), I1, J1)))))))))) : mm_w Q (mm_wc (d)) bk_178 32 [some (.ref 46), some (.ref 99), some (.int a2), some (.int a3)] [] ((fl, n1, n2, p, q, ad), I, J) := by
  refine mm_go [32] 80 ?_
  show ((I 46 8) ≤ a3 → _) ∧ (¬ (I 46 8) ≤ a3 → _)
  refine ⟨fun c0 => ?_, fun c0 => ?_⟩
  · show mm_u _ _ _ _ _ _ [some (.ref 46), some (.ref 99), some (.int a2), some (.int a3)] [] ((fl, n1, n2, p, q, ad), I, J)
    show (a2 = 0 ∨ a2 = 1) ∧ _
    refine ⟨(h.1 c0).1, ?_⟩
    exact (h.1 c0).2
  · show mm_b _ _ _ _ _ [some (.ref 46), some (.ref 99), some (.int a2), some (.int a3)] [] ((fl, n1, n2, p, q, ad), I, J)
    show (a2 = (nI 0) → _) ∧ (¬ a2 = (nI 0) → _)
    refine ⟨fun c1 => ?_, fun c1 => ?_⟩
    · exact ((h.2 c0).1 c1)
    · show mm_b _ _ _ _ _ [some (.ref 46), some (.ref 99), some (.int a2), some (.int a3)] [] ((fl, n1, n2, p, q, ad), I, J)
      show vp_in a3 8 ∧ _
      refine ⟨((h.2 c0).2 c1).1, ?_⟩
      show mm_b _ _ _ _ _ [some (.ref 46), some (.ref 99), some (.int a2), some (.int a3)] [.int (I 48 a3.toNatClampNeg)] ((fl, n1, n2, p, q, ad), I, J)
      show mm_wc d 1005 [.ref 99, .int a3] ((fl, 0, 0, p, q, ad), I, J) _
      refine mm_wcm (((h.2 c0).2 c1).2) ?_
      rintro v τ ⟨r1, I1, J1, rfl, rfl, h1⟩
      refine mm_r1' ⟨rfl, ?_⟩
      show mm_b _ _ _ _ _ [some (.ref 46), some (.ref 99), some (.int a2), some (.int a3)] [.int r1, .int (I 48 a3.toNatClampNeg)] ((fl, n1, n2, p, q, ad), I1, J1)
      show (¬ (I 48 a3.toNatClampNeg) = r1 → _) ∧ ((I 48 a3.toNatClampNeg) = r1 → _)
      refine ⟨fun c2 => ?_, fun c2 => ?_⟩
      · exact (h1.1 c2)
      · exact (h1.2 c2)
/- 178 ThreeBreathsModel isWord -/
theorem fx_178_wax {d : Nat} {fl : Nat → Bool} {n1 n2 : Nat} {p q : Bool} {ad : Nat → Nat} {I : mmI} {J : mmJ} {Q : mmQ} (h : ((¬ (I 46 13) = (nI 0) → Q (some (.int (nI 0))) ((fl, n1, n2, p, q, ad), I, J)) ∧ ((I 46 13) = (nI 0) → ((¬ (I 46 6) = (nI 2) → Q (some (.int (nI 0))) ((fl, n1, n2, p, q, ad), I, J)) ∧ ((I 46 6) = (nI 2) → mm_wc d 1004 [.ref 100] ((fl, 0, 0, p, q, ad), I, J) (fun v τ => ∃ r1 I1 J1, v = some (.int r1) ∧ τ = ((fl, 0, 0, p, q, ad), I1, J1) ∧ (((I 46 8) = r1 → mm_w Q (mm_wc d) bk_178 32 [some (.ref 46), some (.ref 100), some (.int (nI 1)), some (.int (nI 0))] [] ((fl, n1, n2, p, q, ad), I1, J1)) ∧ (¬ (I 46 8) = r1 → Q (some (.int (nI 0))) ((fl, n1, n2, p, q, ad), I1, J1))))))))) : mm_wc (d + 1) 178 [.ref 46, .ref 100] ((fl, n1, n2, p, q, ad), I, J) Q := by
  refine mm_call (c := 178) rfl rfl ?_
  refine mm_go [32] 80 ?_
  show (¬ (I 46 13) = (nI 0) → _) ∧ ((I 46 13) = (nI 0) → _)
  refine ⟨fun c0 => ?_, fun c0 => ?_⟩
  · show mm_u _ _ _ _ _ _ [some (.ref 46), some (.ref 100), none, none] [] ((fl, n1, n2, p, q, ad), I, J)
    show (((nI 0) : Int32) = 0 ∨ ((nI 0) : Int32) = 1) ∧ _
    refine ⟨(by decide), ?_⟩
    exact (h.1 c0)
  · show mm_b _ _ _ _ _ [some (.ref 46), some (.ref 100), none, none] [] ((fl, n1, n2, p, q, ad), I, J)
    show (¬ (I 46 6) = (nI 2) → _) ∧ ((I 46 6) = (nI 2) → _)
    refine ⟨fun c1 => ?_, fun c1 => ?_⟩
    · show mm_u _ _ _ _ _ _ [some (.ref 46), some (.ref 100), none, none] [] ((fl, n1, n2, p, q, ad), I, J)
      show (((nI 0) : Int32) = 0 ∨ ((nI 0) : Int32) = 1) ∧ _
      refine ⟨(by decide), ?_⟩
      exact ((h.2 c0).1 c1)
    · show mm_b _ _ _ _ _ [some (.ref 46), some (.ref 100), none, none] [] ((fl, n1, n2, p, q, ad), I, J)
      show mm_wc d 1004 [.ref 100] ((fl, 0, 0, p, q, ad), I, J) _
      refine mm_wcm ((h.2 c0).2 c1) ?_
      rintro v τ ⟨r1, I1, J1, rfl, rfl, h1⟩
      refine mm_r1' ⟨rfl, ?_⟩
      show mm_b _ _ _ _ _ [some (.ref 46), some (.ref 100), none, none] [.int r1, .int (I 46 8)] ((fl, n1, n2, p, q, ad), I1, J1)
      show ((I 46 8) = r1 → _) ∧ (¬ (I 46 8) = r1 → _)
      refine ⟨fun c2 => ?_, fun c2 => ?_⟩
      · exact (h1.1 c2)
      · show mm_b _ _ _ _ _ [some (.ref 46), some (.ref 100), none, none] [] ((fl, n1, n2, p, q, ad), I1, J1)
        show (((nI 0) : Int32) = 0 ∨ ((nI 0) : Int32) = 1) ∧ _
        refine ⟨(by decide), ?_⟩
        exact (h1.2 c2)
theorem fx_178_wax_32 {d : Nat} {a2 : Int32} {a3 : Int32} {fl : Nat → Bool} {n1 n2 : Nat} {p q : Bool} {ad : Nat → Nat} {I : mmI} {J : mmJ} {Q : mmQ} (h : (((I 46 8) ≤ a3 → ((a2 = 0 ∨ a2 = 1) ∧ Q (some (.int a2)) ((fl, n1, n2, p, q, ad), I, J))) ∧ (¬ (I 46 8) ≤ a3 → ((a2 = (nI 0) → mm_w Q (mm_wc d) bk_178 32 [some (.ref 46), some (.ref 100), some (.int (nI 0)), some (.int (a3 + (nI 1)))] [] ((fl, n1, n2, p, q, ad), I, J)) ∧ (¬ a2 = (nI 0) → (vp_in a3 8 ∧ mm_wc d 1005 [.ref 100, .int a3] ((fl, 0, 0, p, q, ad), I, J) (fun v τ => ∃ r1 I1 J1, v = some (.int r1) ∧ τ = ((fl, 0, 0, p, q, ad), I1, J1) ∧ ((¬ (I 48 a3.toNatClampNeg) = r1 → mm_w Q (mm_wc d) bk_178 32 [some (.ref 46), some (.ref 100), some (.int (nI 0)), some (.int (a3 + (nI 1)))] [] ((fl, n1, n2, p, q, ad), I1, J1)) ∧ ((I 48 a3.toNatClampNeg) = r1 → mm_w Q (mm_wc d) bk_178 32 [some (.ref 46), some (.ref 100), some (.int (nI 1)), some (.int (a3 + (nI 1)))] [] ((fl, n1, n2, p, q, ad), I1, J1)))))))))) : mm_w Q (mm_wc (d)) bk_178 32 [some (.ref 46), some (.ref 100), some (.int a2), some (.int a3)] [] ((fl, n1, n2, p, q, ad), I, J) := by
  refine mm_go [32] 80 ?_
  show ((I 46 8) ≤ a3 → _) ∧ (¬ (I 46 8) ≤ a3 → _)
  refine ⟨fun c0 => ?_, fun c0 => ?_⟩
  · show mm_u _ _ _ _ _ _ [some (.ref 46), some (.ref 100), some (.int a2), some (.int a3)] [] ((fl, n1, n2, p, q, ad), I, J)
    show (a2 = 0 ∨ a2 = 1) ∧ _
    refine ⟨(h.1 c0).1, ?_⟩
    exact (h.1 c0).2
  · show mm_b _ _ _ _ _ [some (.ref 46), some (.ref 100), some (.int a2), some (.int a3)] [] ((fl, n1, n2, p, q, ad), I, J)
    show (a2 = (nI 0) → _) ∧ (¬ a2 = (nI 0) → _)
    refine ⟨fun c1 => ?_, fun c1 => ?_⟩
    · exact ((h.2 c0).1 c1)
    · show mm_b _ _ _ _ _ [some (.ref 46), some (.ref 100), some (.int a2), some (.int a3)] [] ((fl, n1, n2, p, q, ad), I, J)
      show vp_in a3 8 ∧ _
      refine ⟨((h.2 c0).2 c1).1, ?_⟩
      show mm_b _ _ _ _ _ [some (.ref 46), some (.ref 100), some (.int a2), some (.int a3)] [.int (I 48 a3.toNatClampNeg)] ((fl, n1, n2, p, q, ad), I, J)
      show mm_wc d 1005 [.ref 100, .int a3] ((fl, 0, 0, p, q, ad), I, J) _
      refine mm_wcm (((h.2 c0).2 c1).2) ?_
      rintro v τ ⟨r1, I1, J1, rfl, rfl, h1⟩
      refine mm_r1' ⟨rfl, ?_⟩
      show mm_b _ _ _ _ _ [some (.ref 46), some (.ref 100), some (.int a2), some (.int a3)] [.int r1, .int (I 48 a3.toNatClampNeg)] ((fl, n1, n2, p, q, ad), I1, J1)
      show (¬ (I 48 a3.toNatClampNeg) = r1 → _) ∧ ((I 48 a3.toNatClampNeg) = r1 → _)
      refine ⟨fun c2 => ?_, fun c2 => ?_⟩
      · exact (h1.1 c2)
      · exact (h1.2 c2)
/- 178 ThreeBreathsModel isWord -/
theorem fx_178_candle {d : Nat} {fl : Nat → Bool} {n1 n2 : Nat} {p q : Bool} {ad : Nat → Nat} {I : mmI} {J : mmJ} {Q : mmQ} (h : ((¬ (I 46 13) = (nI 0) → Q (some (.int (nI 0))) ((fl, n1, n2, p, q, ad), I, J)) ∧ ((I 46 13) = (nI 0) → ((¬ (I 46 6) = (nI 2) → Q (some (.int (nI 0))) ((fl, n1, n2, p, q, ad), I, J)) ∧ ((I 46 6) = (nI 2) → mm_wc d 1004 [.ref 101] ((fl, 0, 0, p, q, ad), I, J) (fun v τ => ∃ r1 I1 J1, v = some (.int r1) ∧ τ = ((fl, 0, 0, p, q, ad), I1, J1) ∧ (((I 46 8) = r1 → mm_w Q (mm_wc d) bk_178 32 [some (.ref 46), some (.ref 101), some (.int (nI 1)), some (.int (nI 0))] [] ((fl, n1, n2, p, q, ad), I1, J1)) ∧ (¬ (I 46 8) = r1 → Q (some (.int (nI 0))) ((fl, n1, n2, p, q, ad), I1, J1))))))))) : mm_wc (d + 1) 178 [.ref 46, .ref 101] ((fl, n1, n2, p, q, ad), I, J) Q := by
  refine mm_call (c := 178) rfl rfl ?_
  refine mm_go [32] 80 ?_
  show (¬ (I 46 13) = (nI 0) → _) ∧ ((I 46 13) = (nI 0) → _)
  refine ⟨fun c0 => ?_, fun c0 => ?_⟩
  · show mm_u _ _ _ _ _ _ [some (.ref 46), some (.ref 101), none, none] [] ((fl, n1, n2, p, q, ad), I, J)
    show (((nI 0) : Int32) = 0 ∨ ((nI 0) : Int32) = 1) ∧ _
    refine ⟨(by decide), ?_⟩
    exact (h.1 c0)
  · show mm_b _ _ _ _ _ [some (.ref 46), some (.ref 101), none, none] [] ((fl, n1, n2, p, q, ad), I, J)
    show (¬ (I 46 6) = (nI 2) → _) ∧ ((I 46 6) = (nI 2) → _)
    refine ⟨fun c1 => ?_, fun c1 => ?_⟩
    · show mm_u _ _ _ _ _ _ [some (.ref 46), some (.ref 101), none, none] [] ((fl, n1, n2, p, q, ad), I, J)
      show (((nI 0) : Int32) = 0 ∨ ((nI 0) : Int32) = 1) ∧ _
      refine ⟨(by decide), ?_⟩
      exact ((h.2 c0).1 c1)
    · show mm_b _ _ _ _ _ [some (.ref 46), some (.ref 101), none, none] [] ((fl, n1, n2, p, q, ad), I, J)
      show mm_wc d 1004 [.ref 101] ((fl, 0, 0, p, q, ad), I, J) _
      refine mm_wcm ((h.2 c0).2 c1) ?_
      rintro v τ ⟨r1, I1, J1, rfl, rfl, h1⟩
      refine mm_r1' ⟨rfl, ?_⟩
      show mm_b _ _ _ _ _ [some (.ref 46), some (.ref 101), none, none] [.int r1, .int (I 46 8)] ((fl, n1, n2, p, q, ad), I1, J1)
      show ((I 46 8) = r1 → _) ∧ (¬ (I 46 8) = r1 → _)
      refine ⟨fun c2 => ?_, fun c2 => ?_⟩
      · exact (h1.1 c2)
      · show mm_b _ _ _ _ _ [some (.ref 46), some (.ref 101), none, none] [] ((fl, n1, n2, p, q, ad), I1, J1)
        show (((nI 0) : Int32) = 0 ∨ ((nI 0) : Int32) = 1) ∧ _
        refine ⟨(by decide), ?_⟩
        exact (h1.2 c2)
theorem fx_178_candle_32 {d : Nat} {a2 : Int32} {a3 : Int32} {fl : Nat → Bool} {n1 n2 : Nat} {p q : Bool} {ad : Nat → Nat} {I : mmI} {J : mmJ} {Q : mmQ} (h : (((I 46 8) ≤ a3 → ((a2 = 0 ∨ a2 = 1) ∧ Q (some (.int a2)) ((fl, n1, n2, p, q, ad), I, J))) ∧ (¬ (I 46 8) ≤ a3 → ((a2 = (nI 0) → mm_w Q (mm_wc d) bk_178 32 [some (.ref 46), some (.ref 101), some (.int (nI 0)), some (.int (a3 + (nI 1)))] [] ((fl, n1, n2, p, q, ad), I, J)) ∧ (¬ a2 = (nI 0) → (vp_in a3 8 ∧ mm_wc d 1005 [.ref 101, .int a3] ((fl, 0, 0, p, q, ad), I, J) (fun v τ => ∃ r1 I1 J1, v = some (.int r1) ∧ τ = ((fl, 0, 0, p, q, ad), I1, J1) ∧ ((¬ (I 48 a3.toNatClampNeg) = r1 → mm_w Q (mm_wc d) bk_178 32 [some (.ref 46), some (.ref 101), some (.int (nI 0)), some (.int (a3 + (nI 1)))] [] ((fl, n1, n2, p, q, ad), I1, J1)) ∧ ((I 48 a3.toNatClampNeg) = r1 → mm_w Q (mm_wc d) bk_178 32 [some (.ref 46), some (.ref 101), some (.int (nI 1)), some (.int (a3 + (nI 1)))] [] ((fl, n1, n2, p, q, ad), I1, J1)))))))))) : mm_w Q (mm_wc (d)) bk_178 32 [some (.ref 46), some (.ref 101), some (.int a2), some (.int a3)] [] ((fl, n1, n2, p, q, ad), I, J) := by
  refine mm_go [32] 80 ?_
  show ((I 46 8) ≤ a3 → _) ∧ (¬ (I 46 8) ≤ a3 → _)
  refine ⟨fun c0 => ?_, fun c0 => ?_⟩
  · show mm_u _ _ _ _ _ _ [some (.ref 46), some (.ref 101), some (.int a2), some (.int a3)] [] ((fl, n1, n2, p, q, ad), I, J)
    show (a2 = 0 ∨ a2 = 1) ∧ _
    refine ⟨(h.1 c0).1, ?_⟩
    exact (h.1 c0).2
  · show mm_b _ _ _ _ _ [some (.ref 46), some (.ref 101), some (.int a2), some (.int a3)] [] ((fl, n1, n2, p, q, ad), I, J)
    show (a2 = (nI 0) → _) ∧ (¬ a2 = (nI 0) → _)
    refine ⟨fun c1 => ?_, fun c1 => ?_⟩
    · exact ((h.2 c0).1 c1)
    · show mm_b _ _ _ _ _ [some (.ref 46), some (.ref 101), some (.int a2), some (.int a3)] [] ((fl, n1, n2, p, q, ad), I, J)
      show vp_in a3 8 ∧ _
      refine ⟨((h.2 c0).2 c1).1, ?_⟩
      show mm_b _ _ _ _ _ [some (.ref 46), some (.ref 101), some (.int a2), some (.int a3)] [.int (I 48 a3.toNatClampNeg)] ((fl, n1, n2, p, q, ad), I, J)
      show mm_wc d 1005 [.ref 101, .int a3] ((fl, 0, 0, p, q, ad), I, J) _
      refine mm_wcm (((h.2 c0).2 c1).2) ?_
      rintro v τ ⟨r1, I1, J1, rfl, rfl, h1⟩
      refine mm_r1' ⟨rfl, ?_⟩
      show mm_b _ _ _ _ _ [some (.ref 46), some (.ref 101), some (.int a2), some (.int a3)] [.int r1, .int (I 48 a3.toNatClampNeg)] ((fl, n1, n2, p, q, ad), I1, J1)
      show (¬ (I 48 a3.toNatClampNeg) = r1 → _) ∧ ((I 48 a3.toNatClampNeg) = r1 → _)
      refine ⟨fun c2 => ?_, fun c2 => ?_⟩
      · exact (h1.1 c2)
      · exact (h1.2 c2)
/- 178 ThreeBreathsModel isWord -/
theorem fx_178_place {d : Nat} {fl : Nat → Bool} {n1 n2 : Nat} {p q : Bool} {ad : Nat → Nat} {I : mmI} {J : mmJ} {Q : mmQ} (h : ((¬ (I 46 13) = (nI 0) → Q (some (.int (nI 0))) ((fl, n1, n2, p, q, ad), I, J)) ∧ ((I 46 13) = (nI 0) → ((¬ (I 46 6) = (nI 2) → Q (some (.int (nI 0))) ((fl, n1, n2, p, q, ad), I, J)) ∧ ((I 46 6) = (nI 2) → mm_wc d 1004 [.ref 102] ((fl, 0, 0, p, q, ad), I, J) (fun v τ => ∃ r1 I1 J1, v = some (.int r1) ∧ τ = ((fl, 0, 0, p, q, ad), I1, J1) ∧ (((I 46 8) = r1 → mm_w Q (mm_wc d) bk_178 32 [some (.ref 46), some (.ref 102), some (.int (nI 1)), some (.int (nI 0))] [] ((fl, n1, n2, p, q, ad), I1, J1)) ∧ (¬ (I 46 8) = r1 → Q (some (.int (nI 0))) ((fl, n1, n2, p, q, ad), I1, J1))))))))) : mm_wc (d + 1) 178 [.ref 46, .ref 102] ((fl, n1, n2, p, q, ad), I, J) Q := by
  refine mm_call (c := 178) rfl rfl ?_
  refine mm_go [32] 80 ?_
  show (¬ (I 46 13) = (nI 0) → _) ∧ ((I 46 13) = (nI 0) → _)
  refine ⟨fun c0 => ?_, fun c0 => ?_⟩
  · show mm_u _ _ _ _ _ _ [some (.ref 46), some (.ref 102), none, none] [] ((fl, n1, n2, p, q, ad), I, J)
    show (((nI 0) : Int32) = 0 ∨ ((nI 0) : Int32) = 1) ∧ _
    refine ⟨(by decide), ?_⟩
    exact (h.1 c0)
  · show mm_b _ _ _ _ _ [some (.ref 46), some (.ref 102), none, none] [] ((fl, n1, n2, p, q, ad), I, J)
    show (¬ (I 46 6) = (nI 2) → _) ∧ ((I 46 6) = (nI 2) → _)
    refine ⟨fun c1 => ?_, fun c1 => ?_⟩
    · show mm_u _ _ _ _ _ _ [some (.ref 46), some (.ref 102), none, none] [] ((fl, n1, n2, p, q, ad), I, J)
      show (((nI 0) : Int32) = 0 ∨ ((nI 0) : Int32) = 1) ∧ _
      refine ⟨(by decide), ?_⟩
      exact ((h.2 c0).1 c1)
    · show mm_b _ _ _ _ _ [some (.ref 46), some (.ref 102), none, none] [] ((fl, n1, n2, p, q, ad), I, J)
      show mm_wc d 1004 [.ref 102] ((fl, 0, 0, p, q, ad), I, J) _
      refine mm_wcm ((h.2 c0).2 c1) ?_
      rintro v τ ⟨r1, I1, J1, rfl, rfl, h1⟩
      refine mm_r1' ⟨rfl, ?_⟩
      show mm_b _ _ _ _ _ [some (.ref 46), some (.ref 102), none, none] [.int r1, .int (I 46 8)] ((fl, n1, n2, p, q, ad), I1, J1)
      show ((I 46 8) = r1 → _) ∧ (¬ (I 46 8) = r1 → _)
      refine ⟨fun c2 => ?_, fun c2 => ?_⟩
      · exact (h1.1 c2)
      · show mm_b _ _ _ _ _ [some (.ref 46), some (.ref 102), none, none] [] ((fl, n1, n2, p, q, ad), I1, J1)
        show (((nI 0) : Int32) = 0 ∨ ((nI 0) : Int32) = 1) ∧ _
        refine ⟨(by decide), ?_⟩
        exact (h1.2 c2)
theorem fx_178_place_32 {d : Nat} {a2 : Int32} {a3 : Int32} {fl : Nat → Bool} {n1 n2 : Nat} {p q : Bool} {ad : Nat → Nat} {I : mmI} {J : mmJ} {Q : mmQ} (h : (((I 46 8) ≤ a3 → ((a2 = 0 ∨ a2 = 1) ∧ Q (some (.int a2)) ((fl, n1, n2, p, q, ad), I, J))) ∧ (¬ (I 46 8) ≤ a3 → ((a2 = (nI 0) → mm_w Q (mm_wc d) bk_178 32 [some (.ref 46), some (.ref 102), some (.int (nI 0)), some (.int (a3 + (nI 1)))] [] ((fl, n1, n2, p, q, ad), I, J)) ∧ (¬ a2 = (nI 0) → (vp_in a3 8 ∧ mm_wc d 1005 [.ref 102, .int a3] ((fl, 0, 0, p, q, ad), I, J) (fun v τ => ∃ r1 I1 J1, v = some (.int r1) ∧ τ = ((fl, 0, 0, p, q, ad), I1, J1) ∧ ((¬ (I 48 a3.toNatClampNeg) = r1 → mm_w Q (mm_wc d) bk_178 32 [some (.ref 46), some (.ref 102), some (.int (nI 0)), some (.int (a3 + (nI 1)))] [] ((fl, n1, n2, p, q, ad), I1, J1)) ∧ ((I 48 a3.toNatClampNeg) = r1 → mm_w Q (mm_wc d) bk_178 32 [some (.ref 46), some (.ref 102), some (.int (nI 1)), some (.int (a3 + (nI 1)))] [] ((fl, n1, n2, p, q, ad), I1, J1)))))))))) : mm_w Q (mm_wc (d)) bk_178 32 [some (.ref 46), some (.ref 102), some (.int a2), some (.int a3)] [] ((fl, n1, n2, p, q, ad), I, J) := by
  refine mm_go [32] 80 ?_
  show ((I 46 8) ≤ a3 → _) ∧ (¬ (I 46 8) ≤ a3 → _)
  refine ⟨fun c0 => ?_, fun c0 => ?_⟩
  · show mm_u _ _ _ _ _ _ [some (.ref 46), some (.ref 102), some (.int a2), some (.int a3)] [] ((fl, n1, n2, p, q, ad), I, J)
    show (a2 = 0 ∨ a2 = 1) ∧ _
    refine ⟨(h.1 c0).1, ?_⟩
    exact (h.1 c0).2
  · show mm_b _ _ _ _ _ [some (.ref 46), some (.ref 102), some (.int a2), some (.int a3)] [] ((fl, n1, n2, p, q, ad), I, J)
    show (a2 = (nI 0) → _) ∧ (¬ a2 = (nI 0) → _)
    refine ⟨fun c1 => ?_, fun c1 => ?_⟩
    · exact ((h.2 c0).1 c1)
    · show mm_b _ _ _ _ _ [some (.ref 46), some (.ref 102), some (.int a2), some (.int a3)] [] ((fl, n1, n2, p, q, ad), I, J)
      show vp_in a3 8 ∧ _
      refine ⟨((h.2 c0).2 c1).1, ?_⟩
      show mm_b _ _ _ _ _ [some (.ref 46), some (.ref 102), some (.int a2), some (.int a3)] [.int (I 48 a3.toNatClampNeg)] ((fl, n1, n2, p, q, ad), I, J)
      show mm_wc d 1005 [.ref 102, .int a3] ((fl, 0, 0, p, q, ad), I, J) _
      refine mm_wcm (((h.2 c0).2 c1).2) ?_
      rintro v τ ⟨r1, I1, J1, rfl, rfl, h1⟩
      refine mm_r1' ⟨rfl, ?_⟩
      show mm_b _ _ _ _ _ [some (.ref 46), some (.ref 102), some (.int a2), some (.int a3)] [.int r1, .int (I 48 a3.toNatClampNeg)] ((fl, n1, n2, p, q, ad), I1, J1)
      show (¬ (I 48 a3.toNatClampNeg) = r1 → _) ∧ ((I 48 a3.toNatClampNeg) = r1 → _)
      refine ⟨fun c2 => ?_, fun c2 => ?_⟩
      · exact (h1.1 c2)
      · exact (h1.2 c2)
/- 178 ThreeBreathsModel isWord -/
theorem fx_178_spot {d : Nat} {fl : Nat → Bool} {n1 n2 : Nat} {p q : Bool} {ad : Nat → Nat} {I : mmI} {J : mmJ} {Q : mmQ} (h : ((¬ (I 46 13) = (nI 0) → Q (some (.int (nI 0))) ((fl, n1, n2, p, q, ad), I, J)) ∧ ((I 46 13) = (nI 0) → ((¬ (I 46 6) = (nI 2) → Q (some (.int (nI 0))) ((fl, n1, n2, p, q, ad), I, J)) ∧ ((I 46 6) = (nI 2) → mm_wc d 1004 [.ref 103] ((fl, 0, 0, p, q, ad), I, J) (fun v τ => ∃ r1 I1 J1, v = some (.int r1) ∧ τ = ((fl, 0, 0, p, q, ad), I1, J1) ∧ (((I 46 8) = r1 → mm_w Q (mm_wc d) bk_178 32 [some (.ref 46), some (.ref 103), some (.int (nI 1)), some (.int (nI 0))] [] ((fl, n1, n2, p, q, ad), I1, J1)) ∧ (¬ (I 46 8) = r1 → Q (some (.int (nI 0))) ((fl, n1, n2, p, q, ad), I1, J1))))))))) : mm_wc (d + 1) 178 [.ref 46, .ref 103] ((fl, n1, n2, p, q, ad), I, J) Q := by
  refine mm_call (c := 178) rfl rfl ?_
  refine mm_go [32] 80 ?_
  show (¬ (I 46 13) = (nI 0) → _) ∧ ((I 46 13) = (nI 0) → _)
  refine ⟨fun c0 => ?_, fun c0 => ?_⟩
  · show mm_u _ _ _ _ _ _ [some (.ref 46), some (.ref 103), none, none] [] ((fl, n1, n2, p, q, ad), I, J)
    show (((nI 0) : Int32) = 0 ∨ ((nI 0) : Int32) = 1) ∧ _
    refine ⟨(by decide), ?_⟩
    exact (h.1 c0)
  · show mm_b _ _ _ _ _ [some (.ref 46), some (.ref 103), none, none] [] ((fl, n1, n2, p, q, ad), I, J)
    show (¬ (I 46 6) = (nI 2) → _) ∧ ((I 46 6) = (nI 2) → _)
    refine ⟨fun c1 => ?_, fun c1 => ?_⟩
    · show mm_u _ _ _ _ _ _ [some (.ref 46), some (.ref 103), none, none] [] ((fl, n1, n2, p, q, ad), I, J)
      show (((nI 0) : Int32) = 0 ∨ ((nI 0) : Int32) = 1) ∧ _
      refine ⟨(by decide), ?_⟩
      exact ((h.2 c0).1 c1)
    · show mm_b _ _ _ _ _ [some (.ref 46), some (.ref 103), none, none] [] ((fl, n1, n2, p, q, ad), I, J)
      show mm_wc d 1004 [.ref 103] ((fl, 0, 0, p, q, ad), I, J) _
      refine mm_wcm ((h.2 c0).2 c1) ?_
      rintro v τ ⟨r1, I1, J1, rfl, rfl, h1⟩
      refine mm_r1' ⟨rfl, ?_⟩
      show mm_b _ _ _ _ _ [some (.ref 46), some (.ref 103), none, none] [.int r1, .int (I 46 8)] ((fl, n1, n2, p, q, ad), I1, J1)
      show ((I 46 8) = r1 → _) ∧ (¬ (I 46 8) = r1 → _)
      refine ⟨fun c2 => ?_, fun c2 => ?_⟩
      · exact (h1.1 c2)
      · show mm_b _ _ _ _ _ [some (.ref 46), some (.ref 103), none, none] [] ((fl, n1, n2, p, q, ad), I1, J1)
        show (((nI 0) : Int32) = 0 ∨ ((nI 0) : Int32) = 1) ∧ _
        refine ⟨(by decide), ?_⟩
        exact (h1.2 c2)
theorem fx_178_spot_32 {d : Nat} {a2 : Int32} {a3 : Int32} {fl : Nat → Bool} {n1 n2 : Nat} {p q : Bool} {ad : Nat → Nat} {I : mmI} {J : mmJ} {Q : mmQ} (h : (((I 46 8) ≤ a3 → ((a2 = 0 ∨ a2 = 1) ∧ Q (some (.int a2)) ((fl, n1, n2, p, q, ad), I, J))) ∧ (¬ (I 46 8) ≤ a3 → ((a2 = (nI 0) → mm_w Q (mm_wc d) bk_178 32 [some (.ref 46), some (.ref 103), some (.int (nI 0)), some (.int (a3 + (nI 1)))] [] ((fl, n1, n2, p, q, ad), I, J)) ∧ (¬ a2 = (nI 0) → (vp_in a3 8 ∧ mm_wc d 1005 [.ref 103, .int a3] ((fl, 0, 0, p, q, ad), I, J) (fun v τ => ∃ r1 I1 J1, v = some (.int r1) ∧ τ = ((fl, 0, 0, p, q, ad), I1, J1) ∧ ((¬ (I 48 a3.toNatClampNeg) = r1 → mm_w Q (mm_wc d) bk_178 32 [some (.ref 46), some (.ref 103), some (.int (nI 0)), some (.int (a3 + (nI 1)))] [] ((fl, n1, n2, p, q, ad), I1, J1)) ∧ ((I 48 a3.toNatClampNeg) = r1 → mm_w Q (mm_wc d) bk_178 32 [some (.ref 46), some (.ref 103), some (.int (nI 1)), some (.int (a3 + (nI 1)))] [] ((fl, n1, n2, p, q, ad), I1, J1)))))))))) : mm_w Q (mm_wc (d)) bk_178 32 [some (.ref 46), some (.ref 103), some (.int a2), some (.int a3)] [] ((fl, n1, n2, p, q, ad), I, J) := by
  refine mm_go [32] 80 ?_
  show ((I 46 8) ≤ a3 → _) ∧ (¬ (I 46 8) ≤ a3 → _)
  refine ⟨fun c0 => ?_, fun c0 => ?_⟩
  · show mm_u _ _ _ _ _ _ [some (.ref 46), some (.ref 103), some (.int a2), some (.int a3)] [] ((fl, n1, n2, p, q, ad), I, J)
    show (a2 = 0 ∨ a2 = 1) ∧ _
    refine ⟨(h.1 c0).1, ?_⟩
    exact (h.1 c0).2
  · show mm_b _ _ _ _ _ [some (.ref 46), some (.ref 103), some (.int a2), some (.int a3)] [] ((fl, n1, n2, p, q, ad), I, J)
    show (a2 = (nI 0) → _) ∧ (¬ a2 = (nI 0) → _)
    refine ⟨fun c1 => ?_, fun c1 => ?_⟩
    · exact ((h.2 c0).1 c1)
    · show mm_b _ _ _ _ _ [some (.ref 46), some (.ref 103), some (.int a2), some (.int a3)] [] ((fl, n1, n2, p, q, ad), I, J)
      show vp_in a3 8 ∧ _
      refine ⟨((h.2 c0).2 c1).1, ?_⟩
      show mm_b _ _ _ _ _ [some (.ref 46), some (.ref 103), some (.int a2), some (.int a3)] [.int (I 48 a3.toNatClampNeg)] ((fl, n1, n2, p, q, ad), I, J)
      show mm_wc d 1005 [.ref 103, .int a3] ((fl, 0, 0, p, q, ad), I, J) _
      refine mm_wcm (((h.2 c0).2 c1).2) ?_
      rintro v τ ⟨r1, I1, J1, rfl, rfl, h1⟩
      refine mm_r1' ⟨rfl, ?_⟩
      show mm_b _ _ _ _ _ [some (.ref 46), some (.ref 103), some (.int a2), some (.int a3)] [.int r1, .int (I 48 a3.toNatClampNeg)] ((fl, n1, n2, p, q, ad), I1, J1)
      show (¬ (I 48 a3.toNatClampNeg) = r1 → _) ∧ ((I 48 a3.toNatClampNeg) = r1 → _)
      refine ⟨fun c2 => ?_, fun c2 => ?_⟩
      · exact (h1.1 c2)
      · exact (h1.2 c2)
/- 178 ThreeBreathsModel isWord -/
theorem fx_178_person {d : Nat} {fl : Nat → Bool} {n1 n2 : Nat} {p q : Bool} {ad : Nat → Nat} {I : mmI} {J : mmJ} {Q : mmQ} (h : ((¬ (I 46 13) = (nI 0) → Q (some (.int (nI 0))) ((fl, n1, n2, p, q, ad), I, J)) ∧ ((I 46 13) = (nI 0) → ((¬ (I 46 6) = (nI 2) → Q (some (.int (nI 0))) ((fl, n1, n2, p, q, ad), I, J)) ∧ ((I 46 6) = (nI 2) → mm_wc d 1004 [.ref 104] ((fl, 0, 0, p, q, ad), I, J) (fun v τ => ∃ r1 I1 J1, v = some (.int r1) ∧ τ = ((fl, 0, 0, p, q, ad), I1, J1) ∧ (((I 46 8) = r1 → mm_w Q (mm_wc d) bk_178 32 [some (.ref 46), some (.ref 104), some (.int (nI 1)), some (.int (nI 0))] [] ((fl, n1, n2, p, q, ad), I1, J1)) ∧ (¬ (I 46 8) = r1 → Q (some (.int (nI 0))) ((fl, n1, n2, p, q, ad), I1, J1))))))))) : mm_wc (d + 1) 178 [.ref 46, .ref 104] ((fl, n1, n2, p, q, ad), I, J) Q := by
  refine mm_call (c := 178) rfl rfl ?_
  refine mm_go [32] 80 ?_
  show (¬ (I 46 13) = (nI 0) → _) ∧ ((I 46 13) = (nI 0) → _)
  refine ⟨fun c0 => ?_, fun c0 => ?_⟩
  · show mm_u _ _ _ _ _ _ [some (.ref 46), some (.ref 104), none, none] [] ((fl, n1, n2, p, q, ad), I, J)
    show (((nI 0) : Int32) = 0 ∨ ((nI 0) : Int32) = 1) ∧ _
    refine ⟨(by decide), ?_⟩
    exact (h.1 c0)
  · show mm_b _ _ _ _ _ [some (.ref 46), some (.ref 104), none, none] [] ((fl, n1, n2, p, q, ad), I, J)
    show (¬ (I 46 6) = (nI 2) → _) ∧ ((I 46 6) = (nI 2) → _)
    refine ⟨fun c1 => ?_, fun c1 => ?_⟩
    · show mm_u _ _ _ _ _ _ [some (.ref 46), some (.ref 104), none, none] [] ((fl, n1, n2, p, q, ad), I, J)
      show (((nI 0) : Int32) = 0 ∨ ((nI 0) : Int32) = 1) ∧ _
      refine ⟨(by decide), ?_⟩
      exact ((h.2 c0).1 c1)
    · show mm_b _ _ _ _ _ [some (.ref 46), some (.ref 104), none, none] [] ((fl, n1, n2, p, q, ad), I, J)
      show mm_wc d 1004 [.ref 104] ((fl, 0, 0, p, q, ad), I, J) _
      refine mm_wcm ((h.2 c0).2 c1) ?_
      rintro v τ ⟨r1, I1, J1, rfl, rfl, h1⟩
      refine mm_r1' ⟨rfl, ?_⟩
      show mm_b _ _ _ _ _ [some (.ref 46), some (.ref 104), none, none] [.int r1, .int (I 46 8)] ((fl, n1, n2, p, q, ad), I1, J1)
      show ((I 46 8) = r1 → _) ∧ (¬ (I 46 8) = r1 → _)
      refine ⟨fun c2 => ?_, fun c2 => ?_⟩
      · exact (h1.1 c2)
      · show mm_b _ _ _ _ _ [some (.ref 46), some (.ref 104), none, none] [] ((fl, n1, n2, p, q, ad), I1, J1)
        show (((nI 0) : Int32) = 0 ∨ ((nI 0) : Int32) = 1) ∧ _
        refine ⟨(by decide), ?_⟩
        exact (h1.2 c2)
theorem fx_178_person_32 {d : Nat} {a2 : Int32} {a3 : Int32} {fl : Nat → Bool} {n1 n2 : Nat} {p q : Bool} {ad : Nat → Nat} {I : mmI} {J : mmJ} {Q : mmQ} (h : (((I 46 8) ≤ a3 → ((a2 = 0 ∨ a2 = 1) ∧ Q (some (.int a2)) ((fl, n1, n2, p, q, ad), I, J))) ∧ (¬ (I 46 8) ≤ a3 → ((a2 = (nI 0) → mm_w Q (mm_wc d) bk_178 32 [some (.ref 46), some (.ref 104), some (.int (nI 0)), some (.int (a3 + (nI 1)))] [] ((fl, n1, n2, p, q, ad), I, J)) ∧ (¬ a2 = (nI 0) → (vp_in a3 8 ∧ mm_wc d 1005 [.ref 104, .int a3] ((fl, 0, 0, p, q, ad), I, J) (fun v τ => ∃ r1 I1 J1, v = some (.int r1) ∧ τ = ((fl, 0, 0, p, q, ad), I1, J1) ∧ ((¬ (I 48 a3.toNatClampNeg) = r1 → mm_w Q (mm_wc d) bk_178 32 [some (.ref 46), some (.ref 104), some (.int (nI 0)), some (.int (a3 + (nI 1)))] [] ((fl, n1, n2, p, q, ad), I1, J1)) ∧ ((I 48 a3.toNatClampNeg) = r1 → mm_w Q (mm_wc d) bk_178 32 [some (.ref 46), some (.ref 104), some (.int (nI 1)), some (.int (a3 + (nI 1)))] [] ((fl, n1, n2, p, q, ad), I1, J1)))))))))) : mm_w Q (mm_wc (d)) bk_178 32 [some (.ref 46), some (.ref 104), some (.int a2), some (.int a3)] [] ((fl, n1, n2, p, q, ad), I, J) := by
  refine mm_go [32] 80 ?_
  show ((I 46 8) ≤ a3 → _) ∧ (¬ (I 46 8) ≤ a3 → _)
  refine ⟨fun c0 => ?_, fun c0 => ?_⟩
  · show mm_u _ _ _ _ _ _ [some (.ref 46), some (.ref 104), some (.int a2), some (.int a3)] [] ((fl, n1, n2, p, q, ad), I, J)
    show (a2 = 0 ∨ a2 = 1) ∧ _
    refine ⟨(h.1 c0).1, ?_⟩
    exact (h.1 c0).2
  · show mm_b _ _ _ _ _ [some (.ref 46), some (.ref 104), some (.int a2), some (.int a3)] [] ((fl, n1, n2, p, q, ad), I, J)
    show (a2 = (nI 0) → _) ∧ (¬ a2 = (nI 0) → _)
    refine ⟨fun c1 => ?_, fun c1 => ?_⟩
    · exact ((h.2 c0).1 c1)
    · show mm_b _ _ _ _ _ [some (.ref 46), some (.ref 104), some (.int a2), some (.int a3)] [] ((fl, n1, n2, p, q, ad), I, J)
      show vp_in a3 8 ∧ _
      refine ⟨((h.2 c0).2 c1).1, ?_⟩
      show mm_b _ _ _ _ _ [some (.ref 46), some (.ref 104), some (.int a2), some (.int a3)] [.int (I 48 a3.toNatClampNeg)] ((fl, n1, n2, p, q, ad), I, J)
      show mm_wc d 1005 [.ref 104, .int a3] ((fl, 0, 0, p, q, ad), I, J) _
      refine mm_wcm (((h.2 c0).2 c1).2) ?_
      rintro v τ ⟨r1, I1, J1, rfl, rfl, h1⟩
      refine mm_r1' ⟨rfl, ?_⟩
      show mm_b _ _ _ _ _ [some (.ref 46), some (.ref 104), some (.int a2), some (.int a3)] [.int r1, .int (I 48 a3.toNatClampNeg)] ((fl, n1, n2, p, q, ad), I1, J1)
      show (¬ (I 48 a3.toNatClampNeg) = r1 → _) ∧ ((I 48 a3.toNatClampNeg) = r1 → _)
      refine ⟨fun c2 => ?_, fun c2 => ?_⟩
      · exact (h1.1 c2)
      · exact (h1.2 c2)
/- 178 ThreeBreathsModel isWord -/
theorem fx_178_shaky {d : Nat} {fl : Nat → Bool} {n1 n2 : Nat} {p q : Bool} {ad : Nat → Nat} {I : mmI} {J : mmJ} {Q : mmQ} (h : ((¬ (I 46 13) = (nI 0) → Q (some (.int (nI 0))) ((fl, n1, n2, p, q, ad), I, J)) ∧ ((I 46 13) = (nI 0) → ((¬ (I 46 6) = (nI 2) → Q (some (.int (nI 0))) ((fl, n1, n2, p, q, ad), I, J)) ∧ ((I 46 6) = (nI 2) → mm_wc d 1004 [.ref 105] ((fl, 0, 0, p, q, ad), I, J) (fun v τ => ∃ r1 I1 J1, v = some (.int r1) ∧ τ = ((fl, 0, 0, p, q, ad), I1, J1) ∧ (((I 46 8) = r1 → mm_w Q (mm_wc d) bk_178 32 [some (.ref 46), some (.ref 105), some (.int (nI 1)), some (.int (nI 0))] [] ((fl, n1, n2, p, q, ad), I1, J1)) ∧ (¬ (I 46 8) = r1 → Q (some (.int (nI 0))) ((fl, n1, n2, p, q, ad), I1, J1))))))))) : mm_wc (d + 1) 178 [.ref 46, .ref 105] ((fl, n1, n2, p, q, ad), I, J) Q := by
  refine mm_call (c := 178) rfl rfl ?_
  refine mm_go [32] 80 ?_
  show (¬ (I 46 13) = (nI 0) → _) ∧ ((I 46 13) = (nI 0) → _)
  refine ⟨fun c0 => ?_, fun c0 => ?_⟩
  · show mm_u _ _ _ _ _ _ [some (.ref 46), some (.ref 105), none, none] [] ((fl, n1, n2, p, q, ad), I, J)
    show (((nI 0) : Int32) = 0 ∨ ((nI 0) : Int32) = 1) ∧ _
    refine ⟨(by decide), ?_⟩
    exact (h.1 c0)
  · show mm_b _ _ _ _ _ [some (.ref 46), some (.ref 105), none, none] [] ((fl, n1, n2, p, q, ad), I, J)
    show (¬ (I 46 6) = (nI 2) → _) ∧ ((I 46 6) = (nI 2) → _)
    refine ⟨fun c1 => ?_, fun c1 => ?_⟩
    · show mm_u _ _ _ _ _ _ [some (.ref 46), some (.ref 105), none, none] [] ((fl, n1, n2, p, q, ad), I, J)
      show (((nI 0) : Int32) = 0 ∨ ((nI 0) : Int32) = 1) ∧ _
      refine ⟨(by decide), ?_⟩
      exact ((h.2 c0).1 c1)
    · show mm_b _ _ _ _ _ [some (.ref 46), some (.ref 105), none, none] [] ((fl, n1, n2, p, q, ad), I, J)
      show mm_wc d 1004 [.ref 105] ((fl, 0, 0, p, q, ad), I, J) _
      refine mm_wcm ((h.2 c0).2 c1) ?_
      rintro v τ ⟨r1, I1, J1, rfl, rfl, h1⟩
      refine mm_r1' ⟨rfl, ?_⟩
      show mm_b _ _ _ _ _ [some (.ref 46), some (.ref 105), none, none] [.int r1, .int (I 46 8)] ((fl, n1, n2, p, q, ad), I1, J1)
      show ((I 46 8) = r1 → _) ∧ (¬ (I 46 8) = r1 → _)
      refine ⟨fun c2 => ?_, fun c2 => ?_⟩
      · exact (h1.1 c2)
      · show mm_b _ _ _ _ _ [some (.ref 46), some (.ref 105), none, none] [] ((fl, n1, n2, p, q, ad), I1, J1)
        show (((nI 0) : Int32) = 0 ∨ ((nI 0) : Int32) = 1) ∧ _
        refine ⟨(by decide), ?_⟩
        exact (h1.2 c2)
theorem fx_178_shaky_32 {d : Nat} {a2 : Int32} {a3 : Int32} {fl : Nat → Bool} {n1 n2 : Nat} {p q : Bool} {ad : Nat → Nat} {I : mmI} {J : mmJ} {Q : mmQ} (h : (((I 46 8) ≤ a3 → ((a2 = 0 ∨ a2 = 1) ∧ Q (some (.int a2)) ((fl, n1, n2, p, q, ad), I, J))) ∧ (¬ (I 46 8) ≤ a3 → ((a2 = (nI 0) → mm_w Q (mm_wc d) bk_178 32 [some (.ref 46), some (.ref 105), some (.int (nI 0)), some (.int (a3 + (nI 1)))] [] ((fl, n1, n2, p, q, ad), I, J)) ∧ (¬ a2 = (nI 0) → (vp_in a3 8 ∧ mm_wc d 1005 [.ref 105, .int a3] ((fl, 0, 0, p, q, ad), I, J) (fun v τ => ∃ r1 I1 J1, v = some (.int r1) ∧ τ = ((fl, 0, 0, p, q, ad), I1, J1) ∧ ((¬ (I 48 a3.toNatClampNeg) = r1 → mm_w Q (mm_wc d) bk_178 32 [some (.ref 46), some (.ref 105), some (.int (nI 0)), some (.int (a3 + (nI 1)))] [] ((fl, n1, n2, p, q, ad), I1, J1)) ∧ ((I 48 a3.toNatClampNeg) = r1 → mm_w Q (mm_wc d) bk_178 32 [some (.ref 46), some (.ref 105), some (.int (nI 1)), some (.int (a3 + (nI 1)))] [] ((fl, n1, n2, p, q, ad), I1, J1)))))))))) : mm_w Q (mm_wc (d)) bk_178 32 [some (.ref 46), some (.ref 105), some (.int a2), some (.int a3)] [] ((fl, n1, n2, p, q, ad), I, J) := by
  refine mm_go [32] 80 ?_
  show ((I 46 8) ≤ a3 → _) ∧ (¬ (I 46 8) ≤ a3 → _)
  refine ⟨fun c0 => ?_, fun c0 => ?_⟩
  · show mm_u _ _ _ _ _ _ [some (.ref 46), some (.ref 105), some (.int a2), some (.int a3)] [] ((fl, n1, n2, p, q, ad), I, J)
    show (a2 = 0 ∨ a2 = 1) ∧ _
    refine ⟨(h.1 c0).1, ?_⟩
    exact (h.1 c0).2
  · show mm_b _ _ _ _ _ [some (.ref 46), some (.ref 105), some (.int a2), some (.int a3)] [] ((fl, n1, n2, p, q, ad), I, J)
    show (a2 = (nI 0) → _) ∧ (¬ a2 = (nI 0) → _)
    refine ⟨fun c1 => ?_, fun c1 => ?_⟩
    · exact ((h.2 c0).1 c1)
    · show mm_b _ _ _ _ _ [some (.ref 46), some (.ref 105), some (.int a2), some (.int a3)] [] ((fl, n1, n2, p, q, ad), I, J)
      show vp_in a3 8 ∧ _
      refine ⟨((h.2 c0).2 c1).1, ?_⟩
      show mm_b _ _ _ _ _ [some (.ref 46), some (.ref 105), some (.int a2), some (.int a3)] [.int (I 48 a3.toNatClampNeg)] ((fl, n1, n2, p, q, ad), I, J)
      show mm_wc d 1005 [.ref 105, .int a3] ((fl, 0, 0, p, q, ad), I, J) _
      refine mm_wcm (((h.2 c0).2 c1).2) ?_
      rintro v τ ⟨r1, I1, J1, rfl, rfl, h1⟩
      refine mm_r1' ⟨rfl, ?_⟩
      show mm_b _ _ _ _ _ [some (.ref 46), some (.ref 105), some (.int a2), some (.int a3)] [.int r1, .int (I 48 a3.toNatClampNeg)] ((fl, n1, n2, p, q, ad), I1, J1)
      show (¬ (I 48 a3.toNatClampNeg) = r1 → _) ∧ ((I 48 a3.toNatClampNeg) = r1 → _)
      refine ⟨fun c2 => ?_, fun c2 => ?_⟩
      · exact (h1.1 c2)
      · exact (h1.2 c2)
/- 178 ThreeBreathsModel isWord -/
theorem fx_178_left {d : Nat} {fl : Nat → Bool} {n1 n2 : Nat} {p q : Bool} {ad : Nat → Nat} {I : mmI} {J : mmJ} {Q : mmQ} (h : ((¬ (I 46 13) = (nI 0) → Q (some (.int (nI 0))) ((fl, n1, n2, p, q, ad), I, J)) ∧ ((I 46 13) = (nI 0) → ((¬ (I 46 6) = (nI 2) → Q (some (.int (nI 0))) ((fl, n1, n2, p, q, ad), I, J)) ∧ ((I 46 6) = (nI 2) → mm_wc d 1004 [.ref 106] ((fl, 0, 0, p, q, ad), I, J) (fun v τ => ∃ r1 I1 J1, v = some (.int r1) ∧ τ = ((fl, 0, 0, p, q, ad), I1, J1) ∧ (((I 46 8) = r1 → mm_w Q (mm_wc d) bk_178 32 [some (.ref 46), some (.ref 106), some (.int (nI 1)), some (.int (nI 0))] [] ((fl, n1, n2, p, q, ad), I1, J1)) ∧ (¬ (I 46 8) = r1 → Q (some (.int (nI 0))) ((fl, n1, n2, p, q, ad), I1, J1))))))))) : mm_wc (d + 1) 178 [.ref 46, .ref 106] ((fl, n1, n2, p, q, ad), I, J) Q := by
  refine mm_call (c := 178) rfl rfl ?_
  refine mm_go [32] 80 ?_
  show (¬ (I 46 13) = (nI 0) → _) ∧ ((I 46 13) = (nI 0) → _)
  refine ⟨fun c0 => ?_, fun c0 => ?_⟩
  · show mm_u _ _ _ _ _ _ [some (.ref 46), some (.ref 106), none, none] [] ((fl, n1, n2, p, q, ad), I, J)
    show (((nI 0) : Int32) = 0 ∨ ((nI 0) : Int32) = 1) ∧ _
    refine ⟨(by decide), ?_⟩
    exact (h.1 c0)
  · show mm_b _ _ _ _ _ [some (.ref 46), some (.ref 106), none, none] [] ((fl, n1, n2, p, q, ad), I, J)
    show (¬ (I 46 6) = (nI 2) → _) ∧ ((I 46 6) = (nI 2) → _)
    refine ⟨fun c1 => ?_, fun c1 => ?_⟩
    · show mm_u _ _ _ _ _ _ [some (.ref 46), some (.ref 106), none, none] [] ((fl, n1, n2, p, q, ad), I, J)
      show (((nI 0) : Int32) = 0 ∨ ((nI 0) : Int32) = 1) ∧ _
      refine ⟨(by decide), ?_⟩
      exact ((h.2 c0).1 c1)
    · show mm_b _ _ _ _ _ [some (.ref 46), some (.ref 106), none, none] [] ((fl, n1, n2, p, q, ad), I, J)
      show mm_wc d 1004 [.ref 106] ((fl, 0, 0, p, q, ad), I, J) _
      refine mm_wcm ((h.2 c0).2 c1) ?_
      rintro v τ ⟨r1, I1, J1, rfl, rfl, h1⟩
      refine mm_r1' ⟨rfl, ?_⟩
      show mm_b _ _ _ _ _ [some (.ref 46), some (.ref 106), none, none] [.int r1, .int (I 46 8)] ((fl, n1, n2, p, q, ad), I1, J1)
      show ((I 46 8) = r1 → _) ∧ (¬ (I 46 8) = r1 → _)
      refine ⟨fun c2 => ?_, fun c2 => ?_⟩
      · exact (h1.1 c2)
      · show mm_b _ _ _ _ _ [some (.ref 46), some (.ref 106), none, none] [] ((fl, n1, n2, p, q, ad), I1, J1)
        show (((nI 0) : Int32) = 0 ∨ ((nI 0) : Int32) = 1) ∧ _
        refine ⟨(by decide), ?_⟩
        exact (h1.2 c2)
theorem fx_178_left_32 {d : Nat} {a2 : Int32} {a3 : Int32} {fl : Nat → Bool} {n1 n2 : Nat} {p q : Bool} {ad : Nat → Nat} {I : mmI} {J : mmJ} {Q : mmQ} (h : (((I 46 8) ≤ a3 → ((a2 = 0 ∨ a2 = 1) ∧ Q (some (.int a2)) ((fl, n1, n2, p, q, ad), I, J))) ∧ (¬ (I 46 8) ≤ a3 → ((a2 = (nI 0) → mm_w Q (mm_wc d) bk_178 32 [some (.ref 46), some (.ref 106), some (.int (nI 0)), some (.int (a3 + (nI 1)))] [] ((fl, n1, n2, p, q, ad), I, J)) ∧ (¬ a2 = (nI 0) → (vp_in a3 8 ∧ mm_wc d 1005 [.ref 106, .int a3] ((fl, 0, 0, p, q, ad), I, J) (fun v τ => ∃ r1 I1 J1, v = some (.int r1) ∧ τ = ((fl, 0, 0, p, q, ad), I1, J1) ∧ ((¬ (I 48 a3.toNatClampNeg) = r1 → mm_w Q (mm_wc d) bk_178 32 [some (.ref 46), some (.ref 106), some (.int (nI 0)), some (.int (a3 + (nI 1)))] [] ((fl, n1, n2, p, q, ad), I1, J1)) ∧ ((I 48 a3.toNatClampNeg) = r1 → mm_w Q (mm_wc d) bk_178 32 [some (.ref 46), some (.ref 106), some (.int (nI 1)), some (.int (a3 + (nI 1)))] [] ((fl, n1, n2, p, q, ad), I1, J1)))))))))) : mm_w Q (mm_wc (d)) bk_178 32 [some (.ref 46), some (.ref 106), some (.int a2), some (.int a3)] [] ((fl, n1, n2, p, q, ad), I, J) := by
  refine mm_go [32] 80 ?_
  show ((I 46 8) ≤ a3 → _) ∧ (¬ (I 46 8) ≤ a3 → _)
  refine ⟨fun c0 => ?_, fun c0 => ?_⟩
  · show mm_u _ _ _ _ _ _ [some (.ref 46), some (.ref 106), some (.int a2), some (.int a3)] [] ((fl, n1, n2, p, q, ad), I, J)
    show (a2 = 0 ∨ a2 = 1) ∧ _
    refine ⟨(h.1 c0).1, ?_⟩
    exact (h.1 c0).2
  · show mm_b _ _ _ _ _ [some (.ref 46), some (.ref 106), some (.int a2), some (.int a3)] [] ((fl, n1, n2, p, q, ad), I, J)
    show (a2 = (nI 0) → _) ∧ (¬ a2 = (nI 0) → _)
    refine ⟨fun c1 => ?_, fun c1 => ?_⟩
    · exact ((h.2 c0).1 c1)
    · show mm_b _ _ _ _ _ [some (.ref 46), some (.ref 106), some (.int a2), some (.int a3)] [] ((fl, n1, n2, p, q, ad), I, J)
      show vp_in a3 8 ∧ _
      refine ⟨((h.2 c0).2 c1).1, ?_⟩
      show mm_b _ _ _ _ _ [some (.ref 46), some (.ref 106), some (.int a2), some (.int a3)] [.int (I 48 a3.toNatClampNeg)] ((fl, n1, n2, p, q, ad), I, J)
      show mm_wc d 1005 [.ref 106, .int a3] ((fl, 0, 0, p, q, ad), I, J) _
      refine mm_wcm (((h.2 c0).2 c1).2) ?_
      rintro v τ ⟨r1, I1, J1, rfl, rfl, h1⟩
      refine mm_r1' ⟨rfl, ?_⟩
      show mm_b _ _ _ _ _ [some (.ref 46), some (.ref 106), some (.int a2), some (.int a3)] [.int r1, .int (I 48 a3.toNatClampNeg)] ((fl, n1, n2, p, q, ad), I1, J1)
      show (¬ (I 48 a3.toNatClampNeg) = r1 → _) ∧ ((I 48 a3.toNatClampNeg) = r1 → _)
      refine ⟨fun c2 => ?_, fun c2 => ?_⟩
      · exact (h1.1 c2)
      · exact (h1.2 c2)
/- 178 ThreeBreathsModel isWord -/
theorem fx_178_none {d : Nat} {fl : Nat → Bool} {n1 n2 : Nat} {p q : Bool} {ad : Nat → Nat} {I : mmI} {J : mmJ} {Q : mmQ} (h : ((¬ (I 46 13) = (nI 0) → Q (some (.int (nI 0))) ((fl, n1, n2, p, q, ad), I, J)) ∧ ((I 46 13) = (nI 0) → ((¬ (I 46 6) = (nI 2) → Q (some (.int (nI 0))) ((fl, n1, n2, p, q, ad), I, J)) ∧ ((I 46 6) = (nI 2) → mm_wc d 1004 [.ref 107] ((fl, 0, 0, p, q, ad), I, J) (fun v τ => ∃ r1 I1 J1, v = some (.int r1) ∧ τ = ((fl, 0, 0, p, q, ad), I1, J1) ∧ (((I 46 8) = r1 → mm_w Q (mm_wc d) bk_178 32 [some (.ref 46), some (.ref 107), some (.int (nI 1)), some (.int (nI 0))] [] ((fl, n1, n2, p, q, ad), I1, J1)) ∧ (¬ (I 46 8) = r1 → Q (some (.int (nI 0))) ((fl, n1, n2, p, q, ad), I1, J1))))))))) : mm_wc (d + 1) 178 [.ref 46, .ref 107] ((fl, n1, n2, p, q, ad), I, J) Q := by
  refine mm_call (c := 178) rfl rfl ?_
  refine mm_go [32] 80 ?_
  show (¬ (I 46 13) = (nI 0) → _) ∧ ((I 46 13) = (nI 0) → _)
  refine ⟨fun c0 => ?_, fun c0 => ?_⟩
  · show mm_u _ _ _ _ _ _ [some (.ref 46), some (.ref 107), none, none] [] ((fl, n1, n2, p, q, ad), I, J)
    show (((nI 0) : Int32) = 0 ∨ ((nI 0) : Int32) = 1) ∧ _
    refine ⟨(by decide), ?_⟩
    exact (h.1 c0)
  · show mm_b _ _ _ _ _ [some (.ref 46), some (.ref 107), none, none] [] ((fl, n1, n2, p, q, ad), I, J)
    show (¬ (I 46 6) = (nI 2) → _) ∧ ((I 46 6) = (nI 2) → _)
    refine ⟨fun c1 => ?_, fun c1 => ?_⟩
    · show mm_u _ _ _ _ _ _ [some (.ref 46), some (.ref 107), none, none] [] ((fl, n1, n2, p, q, ad), I, J)
      show (((nI 0) : Int32) = 0 ∨ ((nI 0) : Int32) = 1) ∧ _
      refine ⟨(by decide), ?_⟩
      exact ((h.2 c0).1 c1)
    · show mm_b _ _ _ _ _ [some (.ref 46), some (.ref 107), none, none] [] ((fl, n1, n2, p, q, ad), I, J)
      show mm_wc d 1004 [.ref 107] ((fl, 0, 0, p, q, ad), I, J) _
      refine mm_wcm ((h.2 c0).2 c1) ?_
      rintro v τ ⟨r1, I1, J1, rfl, rfl, h1⟩
      refine mm_r1' ⟨rfl, ?_⟩
      show mm_b _ _ _ _ _ [some (.ref 46), some (.ref 107), none, none] [.int r1, .int (I 46 8)] ((fl, n1, n2, p, q, ad), I1, J1)
      show ((I 46 8) = r1 → _) ∧ (¬ (I 46 8) = r1 → _)
      refine ⟨fun c2 => ?_, fun c2 => ?_⟩
      · exact (h1.1 c2)
      · show mm_b _ _ _ _ _ [some (.ref 46), some (.ref 107), none, none] [] ((fl, n1, n2, p, q, ad), I1, J1)
        show (((nI 0) : Int32) = 0 ∨ ((nI 0) : Int32) = 1) ∧ _
        refine ⟨(by decide), ?_⟩
        exact (h1.2 c2)
theorem fx_178_none_32 {d : Nat} {a2 : Int32} {a3 : Int32} {fl : Nat → Bool} {n1 n2 : Nat} {p q : Bool} {ad : Nat → Nat} {I : mmI} {J : mmJ} {Q : mmQ} (h : (((I 46 8) ≤ a3 → ((a2 = 0 ∨ a2 = 1) ∧ Q (some (.int a2)) ((fl, n1, n2, p, q, ad), I, J))) ∧ (¬ (I 46 8) ≤ a3 → ((a2 = (nI 0) → mm_w Q (mm_wc d) bk_178 32 [some (.ref 46), some (.ref 107), some (.int (nI 0)), some (.int (a3 + (nI 1)))] [] ((fl, n1, n2, p, q, ad), I, J)) ∧ (¬ a2 = (nI 0) → (vp_in a3 8 ∧ mm_wc d 1005 [.ref 107, .int a3] ((fl, 0, 0, p, q, ad), I, J) (fun v τ => ∃ r1 I1 J1, v = some (.int r1) ∧ τ = ((fl, 0, 0, p, q, ad), I1, J1) ∧ ((¬ (I 48 a3.toNatClampNeg) = r1 → mm_w Q (mm_wc d) bk_178 32 [some (.ref 46), some (.ref 107), some (.int (nI 0)), some (.int (a3 + (nI 1)))] [] ((fl, n1, n2, p, q, ad), I1, J1)) ∧ ((I 48 a3.toNatClampNeg) = r1 → mm_w Q (mm_wc d) bk_178 32 [some (.ref 46), some (.ref 107), some (.int (nI 1)), some (.int (a3 + (nI 1)))] [] ((fl, n1, n2, p, q, ad), I1, J1)))))))))) : mm_w Q (mm_wc (d)) bk_178 32 [some (.ref 46), some (.ref 107), some (.int a2), some (.int a3)] [] ((fl, n1, n2, p, q, ad), I, J) := by
  refine mm_go [32] 80 ?_
  show ((I 46 8) ≤ a3 → _) ∧ (¬ (I 46 8) ≤ a3 → _)
  refine ⟨fun c0 => ?_, fun c0 => ?_⟩
  · show mm_u _ _ _ _ _ _ [some (.ref 46), some (.ref 107), some (.int a2), some (.int a3)] [] ((fl, n1, n2, p, q, ad), I, J)
    show (a2 = 0 ∨ a2 = 1) ∧ _
    refine ⟨(h.1 c0).1, ?_⟩
    exact (h.1 c0).2
  · show mm_b _ _ _ _ _ [some (.ref 46), some (.ref 107), some (.int a2), some (.int a3)] [] ((fl, n1, n2, p, q, ad), I, J)
    show (a2 = (nI 0) → _) ∧ (¬ a2 = (nI 0) → _)
    refine ⟨fun c1 => ?_, fun c1 => ?_⟩
    · exact ((h.2 c0).1 c1)
    · show mm_b _ _ _ _ _ [some (.ref 46), some (.ref 107), some (.int a2), some (.int a3)] [] ((fl, n1, n2, p, q, ad), I, J)
      show vp_in a3 8 ∧ _
      refine ⟨((h.2 c0).2 c1).1, ?_⟩
      show mm_b _ _ _ _ _ [some (.ref 46), some (.ref 107), some (.int a2), some (.int a3)] [.int (I 48 a3.toNatClampNeg)] ((fl, n1, n2, p, q, ad), I, J)
      show mm_wc d 1005 [.ref 107, .int a3] ((fl, 0, 0, p, q, ad), I, J) _
      refine mm_wcm (((h.2 c0).2 c1).2) ?_
      rintro v τ ⟨r1, I1, J1, rfl, rfl, h1⟩
      refine mm_r1' ⟨rfl, ?_⟩
      show mm_b _ _ _ _ _ [some (.ref 46), some (.ref 107), some (.int a2), some (.int a3)] [.int r1, .int (I 48 a3.toNatClampNeg)] ((fl, n1, n2, p, q, ad), I1, J1)
      show (¬ (I 48 a3.toNatClampNeg) = r1 → _) ∧ ((I 48 a3.toNatClampNeg) = r1 → _)
      refine ⟨fun c2 => ?_, fun c2 => ?_⟩
      · exact (h1.1 c2)
      · exact (h1.2 c2)
/- 178 ThreeBreathsModel isWord -/
theorem fx_178_at {d : Nat} {fl : Nat → Bool} {n1 n2 : Nat} {p q : Bool} {ad : Nat → Nat} {I : mmI} {J : mmJ} {Q : mmQ} (h : ((¬ (I 46 13) = (nI 0) → Q (some (.int (nI 0))) ((fl, n1, n2, p, q, ad), I, J)) ∧ ((I 46 13) = (nI 0) → ((¬ (I 46 6) = (nI 2) → Q (some (.int (nI 0))) ((fl, n1, n2, p, q, ad), I, J)) ∧ ((I 46 6) = (nI 2) → mm_wc d 1004 [.ref 108] ((fl, 0, 0, p, q, ad), I, J) (fun v τ => ∃ r1 I1 J1, v = some (.int r1) ∧ τ = ((fl, 0, 0, p, q, ad), I1, J1) ∧ (((I 46 8) = r1 → mm_w Q (mm_wc d) bk_178 32 [some (.ref 46), some (.ref 108), some (.int (nI 1)), some (.int (nI 0))] [] ((fl, n1, n2, p, q, ad), I1, J1)) ∧ (¬ (I 46 8) = r1 → Q (some (.int (nI 0))) ((fl, n1, n2, p, q, ad), I1, J1))))))))) : mm_wc (d + 1) 178 [.ref 46, .ref 108] ((fl, n1, n2, p, q, ad), I, J) Q := by
  refine mm_call (c := 178) rfl rfl ?_
  refine mm_go [32] 80 ?_
  show (¬ (I 46 13) = (nI 0) → _) ∧ ((I 46 13) = (nI 0) → _)
  refine ⟨fun c0 => ?_, fun c0 => ?_⟩
  · show mm_u _ _ _ _ _ _ [some (.ref 46), some (.ref 108), none, none] [] ((fl, n1, n2, p, q, ad), I, J)
    show (((nI 0) : Int32) = 0 ∨ ((nI 0) : Int32) = 1) ∧ _
    refine ⟨(by decide), ?_⟩
    exact (h.1 c0)
  · show mm_b _ _ _ _ _ [some (.ref 46), some (.ref 108), none, none] [] ((fl, n1, n2, p, q, ad), I, J)
    show (¬ (I 46 6) = (nI 2) → _) ∧ ((I 46 6) = (nI 2) → _)
    refine ⟨fun c1 => ?_, fun c1 => ?_⟩
    · show mm_u _ _ _ _ _ _ [some (.ref 46), some (.ref 108), none, none] [] ((fl, n1, n2, p, q, ad), I, J)
      show (((nI 0) : Int32) = 0 ∨ ((nI 0) : Int32) = 1) ∧ _
      refine ⟨(by decide), ?_⟩
      exact ((h.2 c0).1 c1)
    · show mm_b _ _ _ _ _ [some (.ref 46), some (.ref 108), none, none] [] ((fl, n1, n2, p, q, ad), I, J)
      show mm_wc d 1004 [.ref 108] ((fl, 0, 0, p, q, ad), I, J) _
      refine mm_wcm ((h.2 c0).2 c1) ?_
      rintro v τ ⟨r1, I1, J1, rfl, rfl, h1⟩
      refine mm_r1' ⟨rfl, ?_⟩
      show mm_b _ _ _ _ _ [some (.ref 46), some (.ref 108), none, none] [.int r1, .int (I 46 8)] ((fl, n1, n2, p, q, ad), I1, J1)
      show ((I 46 8) = r1 → _) ∧ (¬ (I 46 8) = r1 → _)
      refine ⟨fun c2 => ?_, fun c2 => ?_⟩
      · exact (h1.1 c2)
      · show mm_b _ _ _ _ _ [some (.ref 46), some (.ref 108), none, none] [] ((fl, n1, n2, p, q, ad), I1, J1)
        show (((nI 0) : Int32) = 0 ∨ ((nI 0) : Int32) = 1) ∧ _
        refine ⟨(by decide), ?_⟩
        exact (h1.2 c2)
theorem fx_178_at_32 {d : Nat} {a2 : Int32} {a3 : Int32} {fl : Nat → Bool} {n1 n2 : Nat} {p q : Bool} {ad : Nat → Nat} {I : mmI} {J : mmJ} {Q : mmQ} (h : (((I 46 8) ≤ a3 → ((a2 = 0 ∨ a2 = 1) ∧ Q (some (.int a2)) ((fl, n1, n2, p, q, ad), I, J))) ∧ (¬ (I 46 8) ≤ a3 → ((a2 = (nI 0) → mm_w Q (mm_wc d) bk_178 32 [some (.ref 46), some (.ref 108), some (.int (nI 0)), some (.int (a3 + (nI 1)))] [] ((fl, n1, n2, p, q, ad), I, J)) ∧ (¬ a2 = (nI 0) → (vp_in a3 8 ∧ mm_wc d 1005 [.ref 108, .int a3] ((fl, 0, 0, p, q, ad), I, J) (fun v τ => ∃ r1 I1 J1, v = some (.int r1) ∧ τ = ((fl, 0, 0, p, q, ad), I1, J1) ∧ ((¬ (I 48 a3.toNatClampNeg) = r1 → mm_w Q (mm_wc d) bk_178 32 [some (.ref 46), some (.ref 108), some (.int (nI 0)), some (.int (a3 + (nI 1)))] [] ((fl, n1, n2, p, q, ad), I1, J1)) ∧ ((I 48 a3.toNatClampNeg) = r1 → mm_w Q (mm_wc d) bk_178 32 [some (.ref 46), some (.ref 108), some (.int (nI 1)), some (.int (a3 + (nI 1)))] [] ((fl, n1, n2, p, q, ad), I1, J1)))))))))) : mm_w Q (mm_wc (d)) bk_178 32 [some (.ref 46), some (.ref 108), some (.int a2), some (.int a3)] [] ((fl, n1, n2, p, q, ad), I, J) := by
  refine mm_go [32] 80 ?_
  show ((I 46 8) ≤ a3 → _) ∧ (¬ (I 46 8) ≤ a3 → _)
  refine ⟨fun c0 => ?_, fun c0 => ?_⟩
  · show mm_u _ _ _ _ _ _ [some (.ref 46), some (.ref 108), some (.int a2), some (.int a3)] [] ((fl, n1, n2, p, q, ad), I, J)
    show (a2 = 0 ∨ a2 = 1) ∧ _
    refine ⟨(h.1 c0).1, ?_⟩
    exact (h.1 c0).2
  · show mm_b _ _ _ _ _ [some (.ref 46), some (.ref 108), some (.int a2), some (.int a3)] [] ((fl, n1, n2, p, q, ad), I, J)
    show (a2 = (nI 0) → _) ∧ (¬ a2 = (nI 0) → _)
    refine ⟨fun c1 => ?_, fun c1 => ?_⟩
    · exact ((h.2 c0).1 c1)
    · show mm_b _ _ _ _ _ [some (.ref 46), some (.ref 108), some (.int a2), some (.int a3)] [] ((fl, n1, n2, p, q, ad), I, J)
      show vp_in a3 8 ∧ _
      refine ⟨((h.2 c0).2 c1).1, ?_⟩
      show mm_b _ _ _ _ _ [some (.ref 46), some (.ref 108), some (.int a2), some (.int a3)] [.int (I 48 a3.toNatClampNeg)] ((fl, n1, n2, p, q, ad), I, J)
      show mm_wc d 1005 [.ref 108, .int a3] ((fl, 0, 0, p, q, ad), I, J) _
      refine mm_wcm (((h.2 c0).2 c1).2) ?_
      rintro v τ ⟨r1, I1, J1, rfl, rfl, h1⟩
      refine mm_r1' ⟨rfl, ?_⟩
      show mm_b _ _ _ _ _ [some (.ref 46), some (.ref 108), some (.int a2), some (.int a3)] [.int r1, .int (I 48 a3.toNatClampNeg)] ((fl, n1, n2, p, q, ad), I1, J1)
      show (¬ (I 48 a3.toNatClampNeg) = r1 → _) ∧ ((I 48 a3.toNatClampNeg) = r1 → _)
      refine ⟨fun c2 => ?_, fun c2 => ?_⟩
      · exact (h1.1 c2)
      · exact (h1.2 c2)
/- 178 ThreeBreathsModel isWord -/
theorem fx_178_plain {d : Nat} {fl : Nat → Bool} {n1 n2 : Nat} {p q : Bool} {ad : Nat → Nat} {I : mmI} {J : mmJ} {Q : mmQ} (h : ((¬ (I 46 13) = (nI 0) → Q (some (.int (nI 0))) ((fl, n1, n2, p, q, ad), I, J)) ∧ ((I 46 13) = (nI 0) → ((¬ (I 46 6) = (nI 2) → Q (some (.int (nI 0))) ((fl, n1, n2, p, q, ad), I, J)) ∧ ((I 46 6) = (nI 2) → mm_wc d 1004 [.ref 109] ((fl, 0, 0, p, q, ad), I, J) (fun v τ => ∃ r1 I1 J1, v = some (.int r1) ∧ τ = ((fl, 0, 0, p, q, ad), I1, J1) ∧ (((I 46 8) = r1 → mm_w Q (mm_wc d) bk_178 32 [some (.ref 46), some (.ref 109), some (.int (nI 1)), some (.int (nI 0))] [] ((fl, n1, n2, p, q, ad), I1, J1)) ∧ (¬ (I 46 8) = r1 → Q (some (.int (nI 0))) ((fl, n1, n2, p, q, ad), I1, J1))))))))) : mm_wc (d + 1) 178 [.ref 46, .ref 109] ((fl, n1, n2, p, q, ad), I, J) Q := by
  refine mm_call (c := 178) rfl rfl ?_
  refine mm_go [32] 80 ?_
  show (¬ (I 46 13) = (nI 0) → _) ∧ ((I 46 13) = (nI 0) → _)
  refine ⟨fun c0 => ?_, fun c0 => ?_⟩
  · show mm_u _ _ _ _ _ _ [some (.ref 46), some (.ref 109), none, none] [] ((fl, n1, n2, p, q, ad), I, J)
    show (((nI 0) : Int32) = 0 ∨ ((nI 0) : Int32) = 1) ∧ _
    refine ⟨(by decide), ?_⟩
    exact (h.1 c0)
  · show mm_b _ _ _ _ _ [some (.ref 46), some (.ref 109), none, none] [] ((fl, n1, n2, p, q, ad), I, J)
    show (¬ (I 46 6) = (nI 2) → _) ∧ ((I 46 6) = (nI 2) → _)
    refine ⟨fun c1 => ?_, fun c1 => ?_⟩
    · show mm_u _ _ _ _ _ _ [some (.ref 46), some (.ref 109), none, none] [] ((fl, n1, n2, p, q, ad), I, J)
      show (((nI 0) : Int32) = 0 ∨ ((nI 0) : Int32) = 1) ∧ _
      refine ⟨(by decide), ?_⟩
      exact ((h.2 c0).1 c1)
    · show mm_b _ _ _ _ _ [some (.ref 46), some (.ref 109), none, none] [] ((fl, n1, n2, p, q, ad), I, J)
      show mm_wc d 1004 [.ref 109] ((fl, 0, 0, p, q, ad), I, J) _
      refine mm_wcm ((h.2 c0).2 c1) ?_
      rintro v τ ⟨r1, I1, J1, rfl, rfl, h1⟩
      refine mm_r1' ⟨rfl, ?_⟩
      show mm_b _ _ _ _ _ [some (.ref 46), some (.ref 109), none, none] [.int r1, .int (I 46 8)] ((fl, n1, n2, p, q, ad), I1, J1)
      show ((I 46 8) = r1 → _) ∧ (¬ (I 46 8) = r1 → _)
      refine ⟨fun c2 => ?_, fun c2 => ?_⟩
      · exact (h1.1 c2)
      · show mm_b _ _ _ _ _ [some (.ref 46), some (.ref 109), none, none] [] ((fl, n1, n2, p, q, ad), I1, J1)
        show (((nI 0) : Int32) = 0 ∨ ((nI 0) : Int32) = 1) ∧ _
        refine ⟨(by decide), ?_⟩
        exact (h1.2 c2)
theorem fx_178_plain_32 {d : Nat} {a2 : Int32} {a3 : Int32} {fl : Nat → Bool} {n1 n2 : Nat} {p q : Bool} {ad : Nat → Nat} {I : mmI} {J : mmJ} {Q : mmQ} (h : (((I 46 8) ≤ a3 → ((a2 = 0 ∨ a2 = 1) ∧ Q (some (.int a2)) ((fl, n1, n2, p, q, ad), I, J))) ∧ (¬ (I 46 8) ≤ a3 → ((a2 = (nI 0) → mm_w Q (mm_wc d) bk_178 32 [some (.ref 46), some (.ref 109), some (.int (nI 0)), some (.int (a3 + (nI 1)))] [] ((fl, n1, n2, p, q, ad), I, J)) ∧ (¬ a2 = (nI 0) → (vp_in a3 8 ∧ mm_wc d 1005 [.ref 109, .int a3] ((fl, 0, 0, p, q, ad), I, J) (fun v τ => ∃ r1 I1 J1, v = some (.int r1) ∧ τ = ((fl, 0, 0, p, q, ad), I1, J1) ∧ ((¬ (I 48 a3.toNatClampNeg) = r1 → mm_w Q (mm_wc d) bk_178 32 [some (.ref 46), some (.ref 109), some (.int (nI 0)), some (.int (a3 + (nI 1)))] [] ((fl, n1, n2, p, q, ad), I1, J1)) ∧ ((I 48 a3.toNatClampNeg) = r1 → mm_w Q (mm_wc d) bk_178 32 [some (.ref 46), some (.ref 109), some (.int (nI 1)), some (.int (a3 + (nI 1)))] [] ((fl, n1, n2, p, q, ad), I1, J1)))))))))) : mm_w Q (mm_wc (d)) bk_178 32 [some (.ref 46), some (.ref 109), some (.int a2), some (.int a3)] [] ((fl, n1, n2, p, q, ad), I, J) := by
  refine mm_go [32] 80 ?_
  show ((I 46 8) ≤ a3 → _) ∧ (¬ (I 46 8) ≤ a3 → _)
  refine ⟨fun c0 => ?_, fun c0 => ?_⟩
  · show mm_u _ _ _ _ _ _ [some (.ref 46), some (.ref 109), some (.int a2), some (.int a3)] [] ((fl, n1, n2, p, q, ad), I, J)
    show (a2 = 0 ∨ a2 = 1) ∧ _
    refine ⟨(h.1 c0).1, ?_⟩
    exact (h.1 c0).2
  · show mm_b _ _ _ _ _ [some (.ref 46), some (.ref 109), some (.int a2), some (.int a3)] [] ((fl, n1, n2, p, q, ad), I, J)
    show (a2 = (nI 0) → _) ∧ (¬ a2 = (nI 0) → _)
    refine ⟨fun c1 => ?_, fun c1 => ?_⟩
    · exact ((h.2 c0).1 c1)
    · show mm_b _ _ _ _ _ [some (.ref 46), some (.ref 109), some (.int a2), some (.int a3)] [] ((fl, n1, n2, p, q, ad), I, J)
      show vp_in a3 8 ∧ _
      refine ⟨((h.2 c0).2 c1).1, ?_⟩
      show mm_b _ _ _ _ _ [some (.ref 46), some (.ref 109), some (.int a2), some (.int a3)] [.int (I 48 a3.toNatClampNeg)] ((fl, n1, n2, p, q, ad), I, J)
      show mm_wc d 1005 [.ref 109, .int a3] ((fl, 0, 0, p, q, ad), I, J) _
      refine mm_wcm (((h.2 c0).2 c1).2) ?_
      rintro v τ ⟨r1, I1, J1, rfl, rfl, h1⟩
      refine mm_r1' ⟨rfl, ?_⟩
      show mm_b _ _ _ _ _ [some (.ref 46), some (.ref 109), some (.int a2), some (.int a3)] [.int r1, .int (I 48 a3.toNatClampNeg)] ((fl, n1, n2, p, q, ad), I1, J1)
      show (¬ (I 48 a3.toNatClampNeg) = r1 → _) ∧ ((I 48 a3.toNatClampNeg) = r1 → _)
      refine ⟨fun c2 => ?_, fun c2 => ?_⟩
      · exact (h1.1 c2)
      · exact (h1.2 c2)
/- 178 ThreeBreathsModel isWord -/
theorem fx_178_tall {d : Nat} {fl : Nat → Bool} {n1 n2 : Nat} {p q : Bool} {ad : Nat → Nat} {I : mmI} {J : mmJ} {Q : mmQ} (h : ((¬ (I 46 13) = (nI 0) → Q (some (.int (nI 0))) ((fl, n1, n2, p, q, ad), I, J)) ∧ ((I 46 13) = (nI 0) → ((¬ (I 46 6) = (nI 2) → Q (some (.int (nI 0))) ((fl, n1, n2, p, q, ad), I, J)) ∧ ((I 46 6) = (nI 2) → mm_wc d 1004 [.ref 110] ((fl, 0, 0, p, q, ad), I, J) (fun v τ => ∃ r1 I1 J1, v = some (.int r1) ∧ τ = ((fl, 0, 0, p, q, ad), I1, J1) ∧ (((I 46 8) = r1 → mm_w Q (mm_wc d) bk_178 32 [some (.ref 46), some (.ref 110), some (.int (nI 1)), some (.int (nI 0))] [] ((fl, n1, n2, p, q, ad), I1, J1)) ∧ (¬ (I 46 8) = r1 → Q (some (.int (nI 0))) ((fl, n1, n2, p, q, ad), I1, J1))))))))) : mm_wc (d + 1) 178 [.ref 46, .ref 110] ((fl, n1, n2, p, q, ad), I, J) Q := by
  refine mm_call (c := 178) rfl rfl ?_
  refine mm_go [32] 80 ?_
  show (¬ (I 46 13) = (nI 0) → _) ∧ ((I 46 13) = (nI 0) → _)
  refine ⟨fun c0 => ?_, fun c0 => ?_⟩
  · show mm_u _ _ _ _ _ _ [some (.ref 46), some (.ref 110), none, none] [] ((fl, n1, n2, p, q, ad), I, J)
    show (((nI 0) : Int32) = 0 ∨ ((nI 0) : Int32) = 1) ∧ _
    refine ⟨(by decide), ?_⟩
    exact (h.1 c0)
  · show mm_b _ _ _ _ _ [some (.ref 46), some (.ref 110), none, none] [] ((fl, n1, n2, p, q, ad), I, J)
    show (¬ (I 46 6) = (nI 2) → _) ∧ ((I 46 6) = (nI 2) → _)
    refine ⟨fun c1 => ?_, fun c1 => ?_⟩
    · show mm_u _ _ _ _ _ _ [some (.ref 46), some (.ref 110), none, none] [] ((fl, n1, n2, p, q, ad), I, J)
      show (((nI 0) : Int32) = 0 ∨ ((nI 0) : Int32) = 1) ∧ _
      refine ⟨(by decide), ?_⟩
      exact ((h.2 c0).1 c1)
    · show mm_b _ _ _ _ _ [some (.ref 46), some (.ref 110), none, none] [] ((fl, n1, n2, p, q, ad), I, J)
      show mm_wc d 1004 [.ref 110] ((fl, 0, 0, p, q, ad), I, J) _
      refine mm_wcm ((h.2 c0).2 c1) ?_
      rintro v τ ⟨r1, I1, J1, rfl, rfl, h1⟩
      refine mm_r1' ⟨rfl, ?_⟩
      show mm_b _ _ _ _ _ [some (.ref 46), some (.ref 110), none, none] [.int r1, .int (I 46 8)] ((fl, n1, n2, p, q, ad), I1, J1)
      show ((I 46 8) = r1 → _) ∧ (¬ (I 46 8) = r1 → _)
      refine ⟨fun c2 => ?_, fun c2 => ?_⟩
      · exact (h1.1 c2)
      · show mm_b _ _ _ _ _ [some (.ref 46), some (.ref 110), none, none] [] ((fl, n1, n2, p, q, ad), I1, J1)
        show (((nI 0) : Int32) = 0 ∨ ((nI 0) : Int32) = 1) ∧ _
        refine ⟨(by decide), ?_⟩
        exact (h1.2 c2)
theorem fx_178_tall_32 {d : Nat} {a2 : Int32} {a3 : Int32} {fl : Nat → Bool} {n1 n2 : Nat} {p q : Bool} {ad : Nat → Nat} {I : mmI} {J : mmJ} {Q : mmQ} (h : (((I 46 8) ≤ a3 → ((a2 = 0 ∨ a2 = 1) ∧ Q (some (.int a2)) ((fl, n1, n2, p, q, ad), I, J))) ∧ (¬ (I 46 8) ≤ a3 → ((a2 = (nI 0) → mm_w Q (mm_wc d) bk_178 32 [some (.ref 46), some (.ref 110), some (.int (nI 0)), some (.int (a3 + (nI 1)))] [] ((fl, n1, n2, p, q, ad), I, J)) ∧ (¬ a2 = (nI 0) → (vp_in a3 8 ∧ mm_wc d 1005 [.ref 110, .int a3] ((fl, 0, 0, p, q, ad), I, J) (fun v τ => ∃ r1 I1 J1, v = some (.int r1) ∧ τ = ((fl, 0, 0, p, q, ad), I1, J1) ∧ ((¬ (I 48 a3.toNatClampNeg) = r1 → mm_w Q (mm_wc d) bk_178 32 [some (.ref 46), some (.ref 110), some (.int (nI 0)), some (.int (a3 + (nI 1)))] [] ((fl, n1, n2, p, q, ad), I1, J1)) ∧ ((I 48 a3.toNatClampNeg) = r1 → mm_w Q (mm_wc d) bk_178 32 [some (.ref 46), some (.ref 110), some (.int (nI 1)), some (.int (a3 + (nI 1)))] [] ((fl, n1, n2, p, q, ad), I1, J1)))))))))) : mm_w Q (mm_wc (d)) bk_178 32 [some (.ref 46), some (.ref 110), some (.int a2), some (.int a3)] [] ((fl, n1, n2, p, q, ad), I, J) := by
  refine mm_go [32] 80 ?_
  show ((I 46 8) ≤ a3 → _) ∧ (¬ (I 46 8) ≤ a3 → _)
  refine ⟨fun c0 => ?_, fun c0 => ?_⟩
  · show mm_u _ _ _ _ _ _ [some (.ref 46), some (.ref 110), some (.int a2), some (.int a3)] [] ((fl, n1, n2, p, q, ad), I, J)
    show (a2 = 0 ∨ a2 = 1) ∧ _
    refine ⟨(h.1 c0).1, ?_⟩
    exact (h.1 c0).2
  · show mm_b _ _ _ _ _ [some (.ref 46), some (.ref 110), some (.int a2), some (.int a3)] [] ((fl, n1, n2, p, q, ad), I, J)
    show (a2 = (nI 0) → _) ∧ (¬ a2 = (nI 0) → _)
    refine ⟨fun c1 => ?_, fun c1 => ?_⟩
    · exact ((h.2 c0).1 c1)
    · show mm_b _ _ _ _ _ [some (.ref 46), some (.ref 110), some (.int a2), some (.int a3)] [] ((fl, n1, n2, p, q, ad), I, J)
      show vp_in a3 8 ∧ _
      refine ⟨((h.2 c0).2 c1).1, ?_⟩
      show mm_b _ _ _ _ _ [some (.ref 46), some (.ref 110), some (.int a2), some (.int a3)] [.int (I 48 a3.toNatClampNeg)] ((fl, n1, n2, p, q, ad), I, J)
      show mm_wc d 1005 [.ref 110, .int a3] ((fl, 0, 0, p, q, ad), I, J) _
      refine mm_wcm (((h.2 c0).2 c1).2) ?_
      rintro v τ ⟨r1, I1, J1, rfl, rfl, h1⟩
      refine mm_r1' ⟨rfl, ?_⟩
      show mm_b _ _ _ _ _ [some (.ref 46), some (.ref 110), some (.int a2), some (.int a3)] [.int r1, .int (I 48 a3.toNatClampNeg)] ((fl, n1, n2, p, q, ad), I1, J1)
      show (¬ (I 48 a3.toNatClampNeg) = r1 → _) ∧ ((I 48 a3.toNatClampNeg) = r1 → _)
      refine ⟨fun c2 => ?_, fun c2 => ?_⟩
      · exact (h1.1 c2)
      · exact (h1.2 c2)
/- 178 ThreeBreathsModel isWord -/
theorem fx_178_again {d : Nat} {fl : Nat → Bool} {n1 n2 : Nat} {p q : Bool} {ad : Nat → Nat} {I : mmI} {J : mmJ} {Q : mmQ} (h : ((¬ (I 46 13) = (nI 0) → Q (some (.int (nI 0))) ((fl, n1, n2, p, q, ad), I, J)) ∧ ((I 46 13) = (nI 0) → ((¬ (I 46 6) = (nI 2) → Q (some (.int (nI 0))) ((fl, n1, n2, p, q, ad), I, J)) ∧ ((I 46 6) = (nI 2) → mm_wc d 1004 [.ref 111] ((fl, 0, 0, p, q, ad), I, J) (fun v τ => ∃ r1 I1 J1, v = some (.int r1) ∧ τ = ((fl, 0, 0, p, q, ad), I1, J1) ∧ (((I 46 8) = r1 → mm_w Q (mm_wc d) bk_178 32 [some (.ref 46), some (.ref 111), some (.int (nI 1)), some (.int (nI 0))] [] ((fl, n1, n2, p, q, ad), I1, J1)) ∧ (¬ (I 46 8) = r1 → Q (some (.int (nI 0))) ((fl, n1, n2, p, q, ad), I1, J1))))))))) : mm_wc (d + 1) 178 [.ref 46, .ref 111] ((fl, n1, n2, p, q, ad), I, J) Q := by
  refine mm_call (c := 178) rfl rfl ?_
  refine mm_go [32] 80 ?_
  show (¬ (I 46 13) = (nI 0) → _) ∧ ((I 46 13) = (nI 0) → _)
  refine ⟨fun c0 => ?_, fun c0 => ?_⟩
  · show mm_u _ _ _ _ _ _ [some (.ref 46), some (.ref 111), none, none] [] ((fl, n1, n2, p, q, ad), I, J)
    show (((nI 0) : Int32) = 0 ∨ ((nI 0) : Int32) = 1) ∧ _
    refine ⟨(by decide), ?_⟩
    exact (h.1 c0)
  · show mm_b _ _ _ _ _ [some (.ref 46), some (.ref 111), none, none] [] ((fl, n1, n2, p, q, ad), I, J)
    show (¬ (I 46 6) = (nI 2) → _) ∧ ((I 46 6) = (nI 2) → _)
    refine ⟨fun c1 => ?_, fun c1 => ?_⟩
    · show mm_u _ _ _ _ _ _ [some (.ref 46), some (.ref 111), none, none] [] ((fl, n1, n2, p, q, ad), I, J)
      show (((nI 0) : Int32) = 0 ∨ ((nI 0) : Int32) = 1) ∧ _
      refine ⟨(by decide), ?_⟩
      exact ((h.2 c0).1 c1)
    · show mm_b _ _ _ _ _ [some (.ref 46), some (.ref 111), none, none] [] ((fl, n1, n2, p, q, ad), I, J)
      show mm_wc d 1004 [.ref 111] ((fl, 0, 0, p, q, ad), I, J) _
      refine mm_wcm ((h.2 c0).2 c1) ?_
      rintro v τ ⟨r1, I1, J1, rfl, rfl, h1⟩
      refine mm_r1' ⟨rfl, ?_⟩
      show mm_b _ _ _ _ _ [some (.ref 46), some (.ref 111), none, none] [.int r1, .int (I 46 8)] ((fl, n1, n2, p, q, ad), I1, J1)
      show ((I 46 8) = r1 → _) ∧ (¬ (I 46 8) = r1 → _)
      refine ⟨fun c2 => ?_, fun c2 => ?_⟩
      · exact (h1.1 c2)
      · show mm_b _ _ _ _ _ [some (.ref 46), some (.ref 111), none, none] [] ((fl, n1, n2, p, q, ad), I1, J1)
        show (((nI 0) : Int32) = 0 ∨ ((nI 0) : Int32) = 1) ∧ _
        refine ⟨(by decide), ?_⟩
        exact (h1.2 c2)
theorem fx_178_again_32 {d : Nat} {a2 : Int32} {a3 : Int32} {fl : Nat → Bool} {n1 n2 : Nat} {p q : Bool} {ad : Nat → Nat} {I : mmI} {J : mmJ} {Q : mmQ} (h : (((I 46 8) ≤ a3 → ((a2 = 0 ∨ a2 = 1) ∧ Q (some (.int a2)) ((fl, n1, n2, p, q, ad), I, J))) ∧ (¬ (I 46 8) ≤ a3 → ((a2 = (nI 0) → mm_w Q (mm_wc d) bk_178 32 [some (.ref 46), some (.ref 111), some (.int (nI 0)), some (.int (a3 + (nI 1)))] [] ((fl, n1, n2, p, q, ad), I, J)) ∧ (¬ a2 = (nI 0) → (vp_in a3 8 ∧ mm_wc d 1005 [.ref 111, .int a3] ((fl, 0, 0, p, q, ad), I, J) (fun v τ => ∃ r1 I1 J1, v = some (.int r1) ∧ τ = ((fl, 0, 0, p, q, ad), I1, J1) ∧ ((¬ (I 48 a3.toNatClampNeg) = r1 → mm_w Q (mm_wc d) bk_178 32 [some (.ref 46), some (.ref 111), some (.int (nI 0)), some (.int (a3 + (nI 1)))] [] ((fl, n1, n2, p, q, ad), I1, J1)) ∧ ((I 48 a3.toNatClampNeg) = r1 → mm_w Q (mm_wc d) bk_178 32 [some (.ref 46), some (.ref 111), some (.int (nI 1)), some (.int (a3 + (nI 1)))] [] ((fl, n1, n2, p, q, ad), I1, J1)))))))))) : mm_w Q (mm_wc (d)) bk_178 32 [some (.ref 46), some (.ref 111), some (.int a2), some (.int a3)] [] ((fl, n1, n2, p, q, ad), I, J) := by
  refine mm_go [32] 80 ?_
  show ((I 46 8) ≤ a3 → _) ∧ (¬ (I 46 8) ≤ a3 → _)
  refine ⟨fun c0 => ?_, fun c0 => ?_⟩
  · show mm_u _ _ _ _ _ _ [some (.ref 46), some (.ref 111), some (.int a2), some (.int a3)] [] ((fl, n1, n2, p, q, ad), I, J)
    show (a2 = 0 ∨ a2 = 1) ∧ _
    refine ⟨(h.1 c0).1, ?_⟩
    exact (h.1 c0).2
  · show mm_b _ _ _ _ _ [some (.ref 46), some (.ref 111), some (.int a2), some (.int a3)] [] ((fl, n1, n2, p, q, ad), I, J)
    show (a2 = (nI 0) → _) ∧ (¬ a2 = (nI 0) → _)
    refine ⟨fun c1 => ?_, fun c1 => ?_⟩
    · exact ((h.2 c0).1 c1)
    · show mm_b _ _ _ _ _ [some (.ref 46), some (.ref 111), some (.int a2), some (.int a3)] [] ((fl, n1, n2, p, q, ad), I, J)
      show vp_in a3 8 ∧ _
      refine ⟨((h.2 c0).2 c1).1, ?_⟩
      show mm_b _ _ _ _ _ [some (.ref 46), some (.ref 111), some (.int a2), some (.int a3)] [.int (I 48 a3.toNatClampNeg)] ((fl, n1, n2, p, q, ad), I, J)
      show mm_wc d 1005 [.ref 111, .int a3] ((fl, 0, 0, p, q, ad), I, J) _
      refine mm_wcm (((h.2 c0).2 c1).2) ?_
      rintro v τ ⟨r1, I1, J1, rfl, rfl, h1⟩
      refine mm_r1' ⟨rfl, ?_⟩
      show mm_b _ _ _ _ _ [some (.ref 46), some (.ref 111), some (.int a2), some (.int a3)] [.int r1, .int (I 48 a3.toNatClampNeg)] ((fl, n1, n2, p, q, ad), I1, J1)
      show (¬ (I 48 a3.toNatClampNeg) = r1 → _) ∧ ((I 48 a3.toNatClampNeg) = r1 → _)
      refine ⟨fun c2 => ?_, fun c2 => ?_⟩
      · exact (h1.1 c2)
      · exact (h1.2 c2)
/- 178 ThreeBreathsModel isWord -/
theorem fx_178_trick {d : Nat} {fl : Nat → Bool} {n1 n2 : Nat} {p q : Bool} {ad : Nat → Nat} {I : mmI} {J : mmJ} {Q : mmQ} (h : ((¬ (I 46 13) = (nI 0) → Q (some (.int (nI 0))) ((fl, n1, n2, p, q, ad), I, J)) ∧ ((I 46 13) = (nI 0) → ((¬ (I 46 6) = (nI 2) → Q (some (.int (nI 0))) ((fl, n1, n2, p, q, ad), I, J)) ∧ ((I 46 6) = (nI 2) → mm_wc d 1004 [.ref 112] ((fl, 0, 0, p, q, ad), I, J) (fun v τ => ∃ r1 I1 J1, v = some (.int r1) ∧ τ = ((fl, 0, 0, p, q, ad), I1, J1) ∧ (((I 46 8) = r1 → mm_w Q (mm_wc d) bk_178 32 [some (.ref 46), some (.ref 112), some (.int (nI 1)), some (.int (nI 0))] [] ((fl, n1, n2, p, q, ad), I1, J1)) ∧ (¬ (I 46 8) = r1 → Q (some (.int (nI 0))) ((fl, n1, n2, p, q, ad), I1, J1))))))))) : mm_wc (d + 1) 178 [.ref 46, .ref 112] ((fl, n1, n2, p, q, ad), I, J) Q := by
  refine mm_call (c := 178) rfl rfl ?_
  refine mm_go [32] 80 ?_
  show (¬ (I 46 13) = (nI 0) → _) ∧ ((I 46 13) = (nI 0) → _)
  refine ⟨fun c0 => ?_, fun c0 => ?_⟩
  · show mm_u _ _ _ _ _ _ [some (.ref 46), some (.ref 112), none, none] [] ((fl, n1, n2, p, q, ad), I, J)
    show (((nI 0) : Int32) = 0 ∨ ((nI 0) : Int32) = 1) ∧ _
    refine ⟨(by decide), ?_⟩
    exact (h.1 c0)
  · show mm_b _ _ _ _ _ [some (.ref 46), some (.ref 112), none, none] [] ((fl, n1, n2, p, q, ad), I, J)
    show (¬ (I 46 6) = (nI 2) → _) ∧ ((I 46 6) = (nI 2) → _)
    refine ⟨fun c1 => ?_, fun c1 => ?_⟩
    · show mm_u _ _ _ _ _ _ [some (.ref 46), some (.ref 112), none, none] [] ((fl, n1, n2, p, q, ad), I, J)
      show (((nI 0) : Int32) = 0 ∨ ((nI 0) : Int32) = 1) ∧ _
      refine ⟨(by decide), ?_⟩
      exact ((h.2 c0).1 c1)
    · show mm_b _ _ _ _ _ [some (.ref 46), some (.ref 112), none, none] [] ((fl, n1, n2, p, q, ad), I, J)
      show mm_wc d 1004 [.ref 112] ((fl, 0, 0, p, q, ad), I, J) _
      refine mm_wcm ((h.2 c0).2 c1) ?_
      rintro v τ ⟨r1, I1, J1, rfl, rfl, h1⟩
      refine mm_r1' ⟨rfl, ?_⟩
      show mm_b _ _ _ _ _ [some (.ref 46), some (.ref 112), none, none] [.int r1, .int (I 46 8)] ((fl, n1, n2, p, q, ad), I1, J1)
      show ((I 46 8) = r1 → _) ∧ (¬ (I 46 8) = r1 → _)
      refine ⟨fun c2 => ?_, fun c2 => ?_⟩
      · exact (h1.1 c2)
      · show mm_b _ _ _ _ _ [some (.ref 46), some (.ref 112), none, none] [] ((fl, n1, n2, p, q, ad), I1, J1)
        show (((nI 0) : Int32) = 0 ∨ ((nI 0) : Int32) = 1) ∧ _
        refine ⟨(by decide), ?_⟩
        exact (h1.2 c2)
theorem fx_178_trick_32 {d : Nat} {a2 : Int32} {a3 : Int32} {fl : Nat → Bool} {n1 n2 : Nat} {p q : Bool} {ad : Nat → Nat} {I : mmI} {J : mmJ} {Q : mmQ} (h : (((I 46 8) ≤ a3 → ((a2 = 0 ∨ a2 = 1) ∧ Q (some (.int a2)) ((fl, n1, n2, p, q, ad), I, J))) ∧ (¬ (I 46 8) ≤ a3 → ((a2 = (nI 0) → mm_w Q (mm_wc d) bk_178 32 [some (.ref 46), some (.ref 112), some (.int (nI 0)), some (.int (a3 + (nI 1)))] [] ((fl, n1, n2, p, q, ad), I, J)) ∧ (¬ a2 = (nI 0) → (vp_in a3 8 ∧ mm_wc d 1005 [.ref 112, .int a3] ((fl, 0, 0, p, q, ad), I, J) (fun v τ => ∃ r1 I1 J1, v = some (.int r1) ∧ τ = ((fl, 0, 0, p, q, ad), I1, J1) ∧ ((¬ (I 48 a3.toNatClampNeg) = r1 → mm_w Q (mm_wc d) bk_178 32 [some (.ref 46), some (.ref 112), some (.int (nI 0)), some (.int (a3 + (nI 1)))] [] ((fl, n1, n2, p, q, ad), I1, J1)) ∧ ((I 48 a3.toNatClampNeg) = r1 → mm_w Q (mm_wc d) bk_178 32 [some (.ref 46), some (.ref 112), some (.int (nI 1)), some (.int (a3 + (nI 1)))] [] ((fl, n1, n2, p, q, ad), I1, J1)))))))))) : mm_w Q (mm_wc (d)) bk_178 32 [some (.ref 46), some (.ref 112), some (.int a2), some (.int a3)] [] ((fl, n1, n2, p, q, ad), I, J) := by
  refine mm_go [32] 80 ?_
  show ((I 46 8) ≤ a3 → _) ∧ (¬ (I 46 8) ≤ a3 → _)
  refine ⟨fun c0 => ?_, fun c0 => ?_⟩
  · show mm_u _ _ _ _ _ _ [some (.ref 46), some (.ref 112), some (.int a2), some (.int a3)] [] ((fl, n1, n2, p, q, ad), I, J)
    show (a2 = 0 ∨ a2 = 1) ∧ _
    refine ⟨(h.1 c0).1, ?_⟩
    exact (h.1 c0).2
  · show mm_b _ _ _ _ _ [some (.ref 46), some (.ref 112), some (.int a2), some (.int a3)] [] ((fl, n1, n2, p, q, ad), I, J)
    show (a2 = (nI 0) → _) ∧ (¬ a2 = (nI 0) → _)
    refine ⟨fun c1 => ?_, fun c1 => ?_⟩
    · exact ((h.2 c0).1 c1)
    · show mm_b _ _ _ _ _ [some (.ref 46), some (.ref 112), some (.int a2), some (.int a3)] [] ((fl, n1, n2, p, q, ad), I, J)
      show vp_in a3 8 ∧ _
      refine ⟨((h.2 c0).2 c1).1, ?_⟩
      show mm_b _ _ _ _ _ [some (.ref 46), some (.ref 112), some (.int a2), some (.int a3)] [.int (I 48 a3.toNatClampNeg)] ((fl, n1, n2, p, q, ad), I, J)
      show mm_wc d 1005 [.ref 112, .int a3] ((fl, 0, 0, p, q, ad), I, J) _
      refine mm_wcm (((h.2 c0).2 c1).2) ?_
      rintro v τ ⟨r1, I1, J1, rfl, rfl, h1⟩
      refine mm_r1' ⟨rfl, ?_⟩
      show mm_b _ _ _ _ _ [some (.ref 46), some (.ref 112), some (.int a2), some (.int a3)] [.int r1, .int (I 48 a3.toNatClampNeg)] ((fl, n1, n2, p, q, ad), I1, J1)
      show (¬ (I 48 a3.toNatClampNeg) = r1 → _) ∧ ((I 48 a3.toNatClampNeg) = r1 → _)
      refine ⟨fun c2 => ?_, fun c2 => ?_⟩
      · exact (h1.1 c2)
      · exact (h1.2 c2)
/- 178 ThreeBreathsModel isWord -/
theorem fx_178_reach {d : Nat} {fl : Nat → Bool} {n1 n2 : Nat} {p q : Bool} {ad : Nat → Nat} {I : mmI} {J : mmJ} {Q : mmQ} (h : ((¬ (I 46 13) = (nI 0) → Q (some (.int (nI 0))) ((fl, n1, n2, p, q, ad), I, J)) ∧ ((I 46 13) = (nI 0) → ((¬ (I 46 6) = (nI 2) → Q (some (.int (nI 0))) ((fl, n1, n2, p, q, ad), I, J)) ∧ ((I 46 6) = (nI 2) → mm_wc d 1004 [.ref 113] ((fl, 0, 0, p, q, ad), I, J) (fun v τ => ∃ r1 I1 J1, v = some (.int r1) ∧ τ = ((fl, 0, 0, p, q, ad), I1, J1) ∧ (((I 46 8) = r1 → mm_w Q (mm_wc d) bk_178 32 [some (.ref 46), some (.ref 113), some (.int (nI 1)), some (.int (nI 0))] [] ((fl, n1, n2, p, q, ad), I1, J1)) ∧ (¬ (I 46 8) = r1 → Q (some (.int (nI 0))) ((fl, n1, n2, p, q, ad), I1, J1))))))))) : mm_wc (d + 1) 178 [.ref 46, .ref 113] ((fl, n1, n2, p, q, ad), I, J) Q := by
  refine mm_call (c := 178) rfl rfl ?_
  refine mm_go [32] 80 ?_
  show (¬ (I 46 13) = (nI 0) → _) ∧ ((I 46 13) = (nI 0) → _)
  refine ⟨fun c0 => ?_, fun c0 => ?_⟩
  · show mm_u _ _ _ _ _ _ [some (.ref 46), some (.ref 113), none, none] [] ((fl, n1, n2, p, q, ad), I, J)
    show (((nI 0) : Int32) = 0 ∨ ((nI 0) : Int32) = 1) ∧ _
    refine ⟨(by decide), ?_⟩
    exact (h.1 c0)
  · show mm_b _ _ _ _ _ [some (.ref 46), some (.ref 113), none, none] [] ((fl, n1, n2, p, q, ad), I, J)
    show (¬ (I 46 6) = (nI 2) → _) ∧ ((I 46 6) = (nI 2) → _)
    refine ⟨fun c1 => ?_, fun c1 => ?_⟩
    · show mm_u _ _ _ _ _ _ [some (.ref 46), some (.ref 113), none, none] [] ((fl, n1, n2, p, q, ad), I, J)
      show (((nI 0) : Int32) = 0 ∨ ((nI 0) : Int32) = 1) ∧ _
      refine ⟨(by decide), ?_⟩
      exact ((h.2 c0).1 c1)
    · show mm_b _ _ _ _ _ [some (.ref 46), some (.ref 113), none, none] [] ((fl, n1, n2, p, q, ad), I, J)
      show mm_wc d 1004 [.ref 113] ((fl, 0, 0, p, q, ad), I, J) _
      refine mm_wcm ((h.2 c0).2 c1) ?_
      rintro v τ ⟨r1, I1, J1, rfl, rfl, h1⟩
      refine mm_r1' ⟨rfl, ?_⟩
      show mm_b _ _ _ _ _ [some (.ref 46), some (.ref 113), none, none] [.int r1, .int (I 46 8)] ((fl, n1, n2, p, q, ad), I1, J1)
      show ((I 46 8) = r1 → _) ∧ (¬ (I 46 8) = r1 → _)
      refine ⟨fun c2 => ?_, fun c2 => ?_⟩
      · exact (h1.1 c2)
      · show mm_b _ _ _ _ _ [some (.ref 46), some (.ref 113), none, none] [] ((fl, n1, n2, p, q, ad), I1, J1)
        show (((nI 0) : Int32) = 0 ∨ ((nI 0) : Int32) = 1) ∧ _
        refine ⟨(by decide), ?_⟩
        exact (h1.2 c2)
theorem fx_178_reach_32 {d : Nat} {a2 : Int32} {a3 : Int32} {fl : Nat → Bool} {n1 n2 : Nat} {p q : Bool} {ad : Nat → Nat} {I : mmI} {J : mmJ} {Q : mmQ} (h : (((I 46 8) ≤ a3 → ((a2 = 0 ∨ a2 = 1) ∧ Q (some (.int a2)) ((fl, n1, n2, p, q, ad), I, J))) ∧ (¬ (I 46 8) ≤ a3 → ((a2 = (nI 0) → mm_w Q (mm_wc d) bk_178 32 [some (.ref 46), some (.ref 113), some (.int (nI 0)), some (.int (a3 + (nI 1)))] [] ((fl, n1, n2, p, q, ad), I, J)) ∧ (¬ a2 = (nI 0) → (vp_in a3 8 ∧ mm_wc d 1005 [.ref 113, .int a3] ((fl, 0, 0, p, q, ad), I, J) (fun v τ => ∃ r1 I1 J1, v = some (.int r1) ∧ τ = ((fl, 0, 0, p, q, ad), I1, J1) ∧ ((¬ (I 48 a3.toNatClampNeg) = r1 → mm_w Q (mm_wc d) bk_178 32 [some (.ref 46), some (.ref 113), some (.int (nI 0)), some (.int (a3 + (nI 1)))] [] ((fl, n1, n2, p, q, ad), I1, J1)) ∧ ((I 48 a3.toNatClampNeg) = r1 → mm_w Q (mm_wc d) bk_178 32 [some (.ref 46), some (.ref 113), some (.int (nI 1)), some (.int (a3 + (nI 1)))] [] ((fl, n1, n2, p, q, ad), I1, J1)))))))))) : mm_w Q (mm_wc (d)) bk_178 32 [some (.ref 46), some (.ref 113), some (.int a2), some (.int a3)] [] ((fl, n1, n2, p, q, ad), I, J) := by
  refine mm_go [32] 80 ?_
  show ((I 46 8) ≤ a3 → _) ∧ (¬ (I 46 8) ≤ a3 → _)
  refine ⟨fun c0 => ?_, fun c0 => ?_⟩
  · show mm_u _ _ _ _ _ _ [some (.ref 46), some (.ref 113), some (.int a2), some (.int a3)] [] ((fl, n1, n2, p, q, ad), I, J)
    show (a2 = 0 ∨ a2 = 1) ∧ _
    refine ⟨(h.1 c0).1, ?_⟩
    exact (h.1 c0).2
  · show mm_b _ _ _ _ _ [some (.ref 46), some (.ref 113), some (.int a2), some (.int a3)] [] ((fl, n1, n2, p, q, ad), I, J)
    show (a2 = (nI 0) → _) ∧ (¬ a2 = (nI 0) → _)
    refine ⟨fun c1 => ?_, fun c1 => ?_⟩
    · exact ((h.2 c0).1 c1)
    · show mm_b _ _ _ _ _ [some (.ref 46), some (.ref 113), some (.int a2), some (.int a3)] [] ((fl, n1, n2, p, q, ad), I, J)
      show vp_in a3 8 ∧ _
      refine ⟨((h.2 c0).2 c1).1, ?_⟩
      show mm_b _ _ _ _ _ [some (.ref 46), some (.ref 113), some (.int a2), some (.int a3)] [.int (I 48 a3.toNatClampNeg)] ((fl, n1, n2, p, q, ad), I, J)
      show mm_wc d 1005 [.ref 113, .int a3] ((fl, 0, 0, p, q, ad), I, J) _
      refine mm_wcm (((h.2 c0).2 c1).2) ?_
      rintro v τ ⟨r1, I1, J1, rfl, rfl, h1⟩
      refine mm_r1' ⟨rfl, ?_⟩
      show mm_b _ _ _ _ _ [some (.ref 46), some (.ref 113), some (.int a2), some (.int a3)] [.int r1, .int (I 48 a3.toNatClampNeg)] ((fl, n1, n2, p, q, ad), I1, J1)
      show (¬ (I 48 a3.toNatClampNeg) = r1 → _) ∧ ((I 48 a3.toNatClampNeg) = r1 → _)
      refine ⟨fun c2 => ?_, fun c2 => ?_⟩
      · exact (h1.1 c2)
      · exact (h1.2 c2)
/- 178 ThreeBreathsModel isWord -/
theorem fx_178_spread {d : Nat} {fl : Nat → Bool} {n1 n2 : Nat} {p q : Bool} {ad : Nat → Nat} {I : mmI} {J : mmJ} {Q : mmQ} (h : ((¬ (I 46 13) = (nI 0) → Q (some (.int (nI 0))) ((fl, n1, n2, p, q, ad), I, J)) ∧ ((I 46 13) = (nI 0) → ((¬ (I 46 6) = (nI 2) → Q (some (.int (nI 0))) ((fl, n1, n2, p, q, ad), I, J)) ∧ ((I 46 6) = (nI 2) → mm_wc d 1004 [.ref 114] ((fl, 0, 0, p, q, ad), I, J) (fun v τ => ∃ r1 I1 J1, v = some (.int r1) ∧ τ = ((fl, 0, 0, p, q, ad), I1, J1) ∧ (((I 46 8) = r1 → mm_w Q (mm_wc d) bk_178 32 [some (.ref 46), some (.ref 114), some (.int (nI 1)), some (.int (nI 0))] [] ((fl, n1, n2, p, q, ad), I1, J1)) ∧ (¬ (I 46 8) = r1 → Q (some (.int (nI 0))) ((fl, n1, n2, p, q, ad), I1, J1))))))))) : mm_wc (d + 1) 178 [.ref 46, .ref 114] ((fl, n1, n2, p, q, ad), I, J) Q := by
  refine mm_call (c := 178) rfl rfl ?_
  refine mm_go [32] 80 ?_
  show (¬ (I 46 13) = (nI 0) → _) ∧ ((I 46 13) = (nI 0) → _)
  refine ⟨fun c0 => ?_, fun c0 => ?_⟩
  · show mm_u _ _ _ _ _ _ [some (.ref 46), some (.ref 114), none, none] [] ((fl, n1, n2, p, q, ad), I, J)
    show (((nI 0) : Int32) = 0 ∨ ((nI 0) : Int32) = 1) ∧ _
    refine ⟨(by decide), ?_⟩
    exact (h.1 c0)
  · show mm_b _ _ _ _ _ [some (.ref 46), some (.ref 114), none, none] [] ((fl, n1, n2, p, q, ad), I, J)
    show (¬ (I 46 6) = (nI 2) → _) ∧ ((I 46 6) = (nI 2) → _)
    refine ⟨fun c1 => ?_, fun c1 => ?_⟩
    · show mm_u _ _ _ _ _ _ [some (.ref 46), some (.ref 114), none, none] [] ((fl, n1, n2, p, q, ad), I, J)
      show (((nI 0) : Int32) = 0 ∨ ((nI 0) : Int32) = 1) ∧ _
      refine ⟨(by decide), ?_⟩
      exact ((h.2 c0).1 c1)
    · show mm_b _ _ _ _ _ [some (.ref 46), some (.ref 114), none, none] [] ((fl, n1, n2, p, q, ad), I, J)
      show mm_wc d 1004 [.ref 114] ((fl, 0, 0, p, q, ad), I, J) _
      refine mm_wcm ((h.2 c0).2 c1) ?_
      rintro v τ ⟨r1, I1, J1, rfl, rfl, h1⟩
      refine mm_r1' ⟨rfl, ?_⟩
      show mm_b _ _ _ _ _ [some (.ref 46), some (.ref 114), none, none] [.int r1, .int (I 46 8)] ((fl, n1, n2, p, q, ad), I1, J1)
      show ((I 46 8) = r1 → _) ∧ (¬ (I 46 8) = r1 → _)
      refine ⟨fun c2 => ?_, fun c2 => ?_⟩
      · exact (h1.1 c2)
      · show mm_b _ _ _ _ _ [some (.ref 46), some (.ref 114), none, none] [] ((fl, n1, n2, p, q, ad), I1, J1)
        show (((nI 0) : Int32) = 0 ∨ ((nI 0) : Int32) = 1) ∧ _
        refine ⟨(by decide), ?_⟩
        exact (h1.2 c2)
theorem fx_178_spread_32 {d : Nat} {a2 : Int32} {a3 : Int32} {fl : Nat → Bool} {n1 n2 : Nat} {p q : Bool} {ad : Nat → Nat} {I : mmI} {J : mmJ} {Q : mmQ} (h : (((I 46 8) ≤ a3 → ((a2 = 0 ∨ a2 = 1) ∧ Q (some (.int a2)) ((fl, n1, n2, p, q, ad), I, J))) ∧ (¬ (I 46 8) ≤ a3 → ((a2 = (nI 0) → mm_w Q (mm_wc d) bk_178 32 [some (.ref 46), some (.ref 114), some (.int (nI 0)), some (.int (a3 + (nI 1)))] [] ((fl, n1, n2, p, q, ad), I, J)) ∧ (¬ a2 = (nI 0) → (vp_in a3 8 ∧ mm_wc d 1005 [.ref 114, .int a3] ((fl, 0, 0, p, q, ad), I, J) (fun v τ => ∃ r1 I1 J1, v = some (.int r1) ∧ τ = ((fl, 0, 0, p, q, ad), I1, J1) ∧ ((¬ (I 48 a3.toNatClampNeg) = r1 → mm_w Q (mm_wc d) bk_178 32 [some (.ref 46), some (.ref 114), some (.int (nI 0)), some (.int (a3 + (nI 1)))] [] ((fl, n1, n2, p, q, ad), I1, J1)) ∧ ((I 48 a3.toNatClampNeg) = r1 → mm_w Q (mm_wc d) bk_178 32 [some (.ref 46), some (.ref 114), some (.int (nI 1)), some (.int (a3 + (nI 1)))] [] ((fl, n1, n2, p, q, ad), I1, J1)))))))))) : mm_w Q (mm_wc (d)) bk_178 32 [some (.ref 46), some (.ref 114), some (.int a2), some (.int a3)] [] ((fl, n1, n2, p, q, ad), I, J) := by
  refine mm_go [32] 80 ?_
  show ((I 46 8) ≤ a3 → _) ∧ (¬ (I 46 8) ≤ a3 → _)
  refine ⟨fun c0 => ?_, fun c0 => ?_⟩
  · show mm_u _ _ _ _ _ _ [some (.ref 46), some (.ref 114), some (.int a2), some (.int a3)] [] ((fl, n1, n2, p, q, ad), I, J)
    show (a2 = 0 ∨ a2 = 1) ∧ _
    refine ⟨(h.1 c0).1, ?_⟩
    exact (h.1 c0).2
  · show mm_b _ _ _ _ _ [some (.ref 46), some (.ref 114), some (.int a2), some (.int a3)] [] ((fl, n1, n2, p, q, ad), I, J)
    show (a2 = (nI 0) → _) ∧ (¬ a2 = (nI 0) → _)
    refine ⟨fun c1 => ?_, fun c1 => ?_⟩
    · exact ((h.2 c0).1 c1)
    · show mm_b _ _ _ _ _ [some (.ref 46), some (.ref 114), some (.int a2), some (.int a3)] [] ((fl, n1, n2, p, q, ad), I, J)
      show vp_in a3 8 ∧ _
      refine ⟨((h.2 c0).2 c1).1, ?_⟩
      show mm_b _ _ _ _ _ [some (.ref 46), some (.ref 114), some (.int a2), some (.int a3)] [.int (I 48 a3.toNatClampNeg)] ((fl, n1, n2, p, q, ad), I, J)
      show mm_wc d 1005 [.ref 114, .int a3] ((fl, 0, 0, p, q, ad), I, J) _
      refine mm_wcm (((h.2 c0).2 c1).2) ?_
      rintro v τ ⟨r1, I1, J1, rfl, rfl, h1⟩
      refine mm_r1' ⟨rfl, ?_⟩
      show mm_b _ _ _ _ _ [some (.ref 46), some (.ref 114), some (.int a2), some (.int a3)] [.int r1, .int (I 48 a3.toNatClampNeg)] ((fl, n1, n2, p, q, ad), I1, J1)
      show (¬ (I 48 a3.toNatClampNeg) = r1 → _) ∧ ((I 48 a3.toNatClampNeg) = r1 → _)
      refine ⟨fun c2 => ?_, fun c2 => ?_⟩
      · exact (h1.1 c2)
      · exact (h1.2 c2)
/- 179 ThreeBreathsModel takes -/
theorem fx_179_near {d : Nat} {fl : Nat → Bool} {n1 n2 : Nat} {p q : Bool} {ad : Nat → Nat} {I : mmI} {J : mmJ} {Q : mmQ} (h : mm_wc d 178 [.ref 46, .ref 99] ((fl, 0, 0, p, q, ad), I, J) (fun v τ => ∃ r1 I1 J1, v = some (.int r1) ∧ τ = ((fl, 0, 0, p, q, ad), I1, J1) ∧ ((¬ r1 = (nI 0) → mm_wc d 176 [.ref 46] ((fl, 0, 0, p, q, ad), I1, J1) (fun v τ => ∃ I2 J2, v = none ∧ τ = ((fl, 0, 0, p, q, ad), I2, J2) ∧ Q (some (.int (nI 1))) ((fl, n1, n2, p, q, ad), I2, J2))) ∧ (r1 = (nI 0) → Q (some (.int (nI 0))) ((fl, n1, n2, p, q, ad), I1, J1))))) : mm_wc (d + 1) 179 [.ref 46, .ref 99] ((fl, n1, n2, p, q, ad), I, J) Q := by
  refine mm_call (c := 179) rfl rfl ?_
  refine mm_go [] 80 ?_
  show mm_wc d 178 [.ref 46, .ref 99] ((fl, 0, 0, p, q, ad), I, J) _
  refine mm_wcm h ?_
  rintro v τ ⟨r1, I1, J1, rfl, rfl, h1⟩
  refine mm_r1' ⟨rfl, ?_⟩
  show mm_b _ _ _ _ _ [some (.ref 46), some (.ref 99)] [.int r1] ((fl, n1, n2, p, q, ad), I1, J1)
  show (¬ r1 = (nI 0) → _) ∧ (r1 = (nI 0) → _)
  refine ⟨fun c0 => ?_, fun c0 => ?_⟩
  · show mm_u _ _ _ _ _ _ [some (.ref 46), some (.ref 99)] [] ((fl, n1, n2, p, q, ad), I1, J1)
    show mm_wc d 176 [.ref 46] ((fl, 0, 0, p, q, ad), I1, J1) _
    refine mm_wcm (h1.1 c0) ?_
    rintro v τ ⟨I2, J2, rfl, rfl, h2⟩
    refine mm_r0' ⟨rfl, ?_⟩
    show mm_b _ _ _ _ _ [some (.ref 46), none] [] ((fl, n1, n2, p, q, ad), I2, J2)
    show (((nI 1) : Int32) = 0 ∨ ((nI 1) : Int32) = 1) ∧ _
    refine ⟨(by decide), ?_⟩
    exact h2
  · show mm_b _ _ _ _ _ [some (.ref 46), some (.ref 99)] [] ((fl, n1, n2, p, q, ad), I1, J1)
    show (((nI 0) : Int32) = 0 ∨ ((nI 0) : Int32) = 1) ∧ _
    refine ⟨(by decide), ?_⟩
    exact (h1.2 c0)
/- 179 ThreeBreathsModel takes -/
theorem fx_179_wax {d : Nat} {fl : Nat → Bool} {n1 n2 : Nat} {p q : Bool} {ad : Nat → Nat} {I : mmI} {J : mmJ} {Q : mmQ} (h : mm_wc d 178 [.ref 46, .ref 100] ((fl, 0, 0, p, q, ad), I, J) (fun v τ => ∃ r1 I1 J1, v = some (.int r1) ∧ τ = ((fl, 0, 0, p, q, ad), I1, J1) ∧ ((¬ r1 = (nI 0) → mm_wc d 176 [.ref 46] ((fl, 0, 0, p, q, ad), I1, J1) (fun v τ => ∃ I2 J2, v = none ∧ τ = ((fl, 0, 0, p, q, ad), I2, J2) ∧ Q (some (.int (nI 1))) ((fl, n1, n2, p, q, ad), I2, J2))) ∧ (r1 = (nI 0) → Q (some (.int (nI 0))) ((fl, n1, n2, p, q, ad), I1, J1))))) : mm_wc (d + 1) 179 [.ref 46, .ref 100] ((fl, n1, n2, p, q, ad), I, J) Q := by
  refine mm_call (c := 179) rfl rfl ?_
  refine mm_go [] 80 ?_
  show mm_wc d 178 [.ref 46, .ref 100] ((fl, 0, 0, p, q, ad), I, J) _
  refine mm_wcm h ?_
  rintro v τ ⟨r1, I1, J1, rfl, rfl, h1⟩
  refine mm_r1' ⟨rfl, ?_⟩
  show mm_b _ _ _ _ _ [some (.ref 46), some (.ref 100)] [.int r1] ((fl, n1, n2, p, q, ad), I1, J1)
  show (¬ r1 = (nI 0) → _) ∧ (r1 = (nI 0) → _)
  refine ⟨fun c0 => ?_, fun c0 => ?_⟩
  · show mm_u _ _ _ _ _ _ [some (.ref 46), some (.ref 100)] [] ((fl, n1, n2, p, q, ad), I1, J1)
    show mm_wc d 176 [.ref 46] ((fl, 0, 0, p, q, ad), I1, J1) _
    refine mm_wcm (h1.1 c0) ?_
    rintro v τ ⟨I2, J2, rfl, rfl, h2⟩
    refine mm_r0' ⟨rfl, ?_⟩
    show mm_b _ _ _ _ _ [some (.ref 46), none] [] ((fl, n1, n2, p, q, ad), I2, J2)
    show (((nI 1) : Int32) = 0 ∨ ((nI 1) : Int32) = 1) ∧ _
    refine ⟨(by decide), ?_⟩
    exact h2
  · show mm_b _ _ _ _ _ [some (.ref 46), some (.ref 100)] [] ((fl, n1, n2, p, q, ad), I1, J1)
    show (((nI 0) : Int32) = 0 ∨ ((nI 0) : Int32) = 1) ∧ _
    refine ⟨(by decide), ?_⟩
    exact (h1.2 c0)
/- 179 ThreeBreathsModel takes -/
theorem fx_179_at {d : Nat} {fl : Nat → Bool} {n1 n2 : Nat} {p q : Bool} {ad : Nat → Nat} {I : mmI} {J : mmJ} {Q : mmQ} (h : mm_wc d 178 [.ref 46, .ref 108] ((fl, 0, 0, p, q, ad), I, J) (fun v τ => ∃ r1 I1 J1, v = some (.int r1) ∧ τ = ((fl, 0, 0, p, q, ad), I1, J1) ∧ ((¬ r1 = (nI 0) → mm_wc d 176 [.ref 46] ((fl, 0, 0, p, q, ad), I1, J1) (fun v τ => ∃ I2 J2, v = none ∧ τ = ((fl, 0, 0, p, q, ad), I2, J2) ∧ Q (some (.int (nI 1))) ((fl, n1, n2, p, q, ad), I2, J2))) ∧ (r1 = (nI 0) → Q (some (.int (nI 0))) ((fl, n1, n2, p, q, ad), I1, J1))))) : mm_wc (d + 1) 179 [.ref 46, .ref 108] ((fl, n1, n2, p, q, ad), I, J) Q := by
  refine mm_call (c := 179) rfl rfl ?_
  refine mm_go [] 80 ?_
  show mm_wc d 178 [.ref 46, .ref 108] ((fl, 0, 0, p, q, ad), I, J) _
  refine mm_wcm h ?_
  rintro v τ ⟨r1, I1, J1, rfl, rfl, h1⟩
  refine mm_r1' ⟨rfl, ?_⟩
  show mm_b _ _ _ _ _ [some (.ref 46), some (.ref 108)] [.int r1] ((fl, n1, n2, p, q, ad), I1, J1)
  show (¬ r1 = (nI 0) → _) ∧ (r1 = (nI 0) → _)
  refine ⟨fun c0 => ?_, fun c0 => ?_⟩
  · show mm_u _ _ _ _ _ _ [some (.ref 46), some (.ref 108)] [] ((fl, n1, n2, p, q, ad), I1, J1)
    show mm_wc d 176 [.ref 46] ((fl, 0, 0, p, q, ad), I1, J1) _
    refine mm_wcm (h1.1 c0) ?_
    rintro v τ ⟨I2, J2, rfl, rfl, h2⟩
    refine mm_r0' ⟨rfl, ?_⟩
    show mm_b _ _ _ _ _ [some (.ref 46), none] [] ((fl, n1, n2, p, q, ad), I2, J2)
    show (((nI 1) : Int32) = 0 ∨ ((nI 1) : Int32) = 1) ∧ _
    refine ⟨(by decide), ?_⟩
    exact h2
  · show mm_b _ _ _ _ _ [some (.ref 46), some (.ref 108)] [] ((fl, n1, n2, p, q, ad), I1, J1)
    show (((nI 0) : Int32) = 0 ∨ ((nI 0) : Int32) = 1) ∧ _
    refine ⟨(by decide), ?_⟩
    exact (h1.2 c0)
/- 179 ThreeBreathsModel takes -/
theorem fx_179_reach {d : Nat} {fl : Nat → Bool} {n1 n2 : Nat} {p q : Bool} {ad : Nat → Nat} {I : mmI} {J : mmJ} {Q : mmQ} (h : mm_wc d 178 [.ref 46, .ref 113] ((fl, 0, 0, p, q, ad), I, J) (fun v τ => ∃ r1 I1 J1, v = some (.int r1) ∧ τ = ((fl, 0, 0, p, q, ad), I1, J1) ∧ ((¬ r1 = (nI 0) → mm_wc d 176 [.ref 46] ((fl, 0, 0, p, q, ad), I1, J1) (fun v τ => ∃ I2 J2, v = none ∧ τ = ((fl, 0, 0, p, q, ad), I2, J2) ∧ Q (some (.int (nI 1))) ((fl, n1, n2, p, q, ad), I2, J2))) ∧ (r1 = (nI 0) → Q (some (.int (nI 0))) ((fl, n1, n2, p, q, ad), I1, J1))))) : mm_wc (d + 1) 179 [.ref 46, .ref 113] ((fl, n1, n2, p, q, ad), I, J) Q := by
  refine mm_call (c := 179) rfl rfl ?_
  refine mm_go [] 80 ?_
  show mm_wc d 178 [.ref 46, .ref 113] ((fl, 0, 0, p, q, ad), I, J) _
  refine mm_wcm h ?_
  rintro v τ ⟨r1, I1, J1, rfl, rfl, h1⟩
  refine mm_r1' ⟨rfl, ?_⟩
  show mm_b _ _ _ _ _ [some (.ref 46), some (.ref 113)] [.int r1] ((fl, n1, n2, p, q, ad), I1, J1)
  show (¬ r1 = (nI 0) → _) ∧ (r1 = (nI 0) → _)
  refine ⟨fun c0 => ?_, fun c0 => ?_⟩
  · show mm_u _ _ _ _ _ _ [some (.ref 46), some (.ref 113)] [] ((fl, n1, n2, p, q, ad), I1, J1)
    show mm_wc d 176 [.ref 46] ((fl, 0, 0, p, q, ad), I1, J1) _
    refine mm_wcm (h1.1 c0) ?_
    rintro v τ ⟨I2, J2, rfl, rfl, h2⟩
    refine mm_r0' ⟨rfl, ?_⟩
    show mm_b _ _ _ _ _ [some (.ref 46), none] [] ((fl, n1, n2, p, q, ad), I2, J2)
    show (((nI 1) : Int32) = 0 ∨ ((nI 1) : Int32) = 1) ∧ _
    refine ⟨(by decide), ?_⟩
    exact h2
  · show mm_b _ _ _ _ _ [some (.ref 46), some (.ref 113)] [] ((fl, n1, n2, p, q, ad), I1, J1)
    show (((nI 0) : Int32) = 0 ∨ ((nI 0) : Int32) = 1) ∧ _
    refine ⟨(by decide), ?_⟩
    exact (h1.2 c0)
/- 179 ThreeBreathsModel takes -/
theorem fx_179_spread {d : Nat} {fl : Nat → Bool} {n1 n2 : Nat} {p q : Bool} {ad : Nat → Nat} {I : mmI} {J : mmJ} {Q : mmQ} (h : mm_wc d 178 [.ref 46, .ref 114] ((fl, 0, 0, p, q, ad), I, J) (fun v τ => ∃ r1 I1 J1, v = some (.int r1) ∧ τ = ((fl, 0, 0, p, q, ad), I1, J1) ∧ ((¬ r1 = (nI 0) → mm_wc d 176 [.ref 46] ((fl, 0, 0, p, q, ad), I1, J1) (fun v τ => ∃ I2 J2, v = none ∧ τ = ((fl, 0, 0, p, q, ad), I2, J2) ∧ Q (some (.int (nI 1))) ((fl, n1, n2, p, q, ad), I2, J2))) ∧ (r1 = (nI 0) → Q (some (.int (nI 0))) ((fl, n1, n2, p, q, ad), I1, J1))))) : mm_wc (d + 1) 179 [.ref 46, .ref 114] ((fl, n1, n2, p, q, ad), I, J) Q := by
  refine mm_call (c := 179) rfl rfl ?_
  refine mm_go [] 80 ?_
  show mm_wc d 178 [.ref 46, .ref 114] ((fl, 0, 0, p, q, ad), I, J) _
  refine mm_wcm h ?_
  rintro v τ ⟨r1, I1, J1, rfl, rfl, h1⟩
  refine mm_r1' ⟨rfl, ?_⟩
  show mm_b _ _ _ _ _ [some (.ref 46), some (.ref 114)] [.int r1] ((fl, n1, n2, p, q, ad), I1, J1)
  show (¬ r1 = (nI 0) → _) ∧ (r1 = (nI 0) → _)
  refine ⟨fun c0 => ?_, fun c0 => ?_⟩
  · show mm_u _ _ _ _ _ _ [some (.ref 46), some (.ref 114)] [] ((fl, n1, n2, p, q, ad), I1, J1)
    show mm_wc d 176 [.ref 46] ((fl, 0, 0, p, q, ad), I1, J1) _
    refine mm_wcm (h1.1 c0) ?_
    rintro v τ ⟨I2, J2, rfl, rfl, h2⟩
    refine mm_r0' ⟨rfl, ?_⟩
    show mm_b _ _ _ _ _ [some (.ref 46), none] [] ((fl, n1, n2, p, q, ad), I2, J2)
    show (((nI 1) : Int32) = 0 ∨ ((nI 1) : Int32) = 1) ∧ _
    refine ⟨(by decide), ?_⟩
    exact h2
  · show mm_b _ _ _ _ _ [some (.ref 46), some (.ref 114)] [] ((fl, n1, n2, p, q, ad), I1, J1)
    show (((nI 0) : Int32) = 0 ∨ ((nI 0) : Int32) = 1) ∧ _
    refine ⟨(by decide), ?_⟩
    exact (h1.2 c0)
/- 179 ThreeBreathsModel takes -/
theorem fx_179_none {d : Nat} {fl : Nat → Bool} {n1 n2 : Nat} {p q : Bool} {ad : Nat → Nat} {I : mmI} {J : mmJ} {Q : mmQ} (h : mm_wc d 178 [.ref 46, .ref 107] ((fl, 0, 0, p, q, ad), I, J) (fun v τ => ∃ r1 I1 J1, v = some (.int r1) ∧ τ = ((fl, 0, 0, p, q, ad), I1, J1) ∧ ((¬ r1 = (nI 0) → mm_wc d 176 [.ref 46] ((fl, 0, 0, p, q, ad), I1, J1) (fun v τ => ∃ I2 J2, v = none ∧ τ = ((fl, 0, 0, p, q, ad), I2, J2) ∧ Q (some (.int (nI 1))) ((fl, n1, n2, p, q, ad), I2, J2))) ∧ (r1 = (nI 0) → Q (some (.int (nI 0))) ((fl, n1, n2, p, q, ad), I1, J1))))) : mm_wc (d + 1) 179 [.ref 46, .ref 107] ((fl, n1, n2, p, q, ad), I, J) Q := by
  refine mm_call (c := 179) rfl rfl ?_
  refine mm_go [] 80 ?_
  show mm_wc d 178 [.ref 46, .ref 107] ((fl, 0, 0, p, q, ad), I, J) _
  refine mm_wcm h ?_
  rintro v τ ⟨r1, I1, J1, rfl, rfl, h1⟩
  refine mm_r1' ⟨rfl, ?_⟩
  show mm_b _ _ _ _ _ [some (.ref 46), some (.ref 107)] [.int r1] ((fl, n1, n2, p, q, ad), I1, J1)
  show (¬ r1 = (nI 0) → _) ∧ (r1 = (nI 0) → _)
  refine ⟨fun c0 => ?_, fun c0 => ?_⟩
  · show mm_u _ _ _ _ _ _ [some (.ref 46), some (.ref 107)] [] ((fl, n1, n2, p, q, ad), I1, J1)
    show mm_wc d 176 [.ref 46] ((fl, 0, 0, p, q, ad), I1, J1) _
    refine mm_wcm (h1.1 c0) ?_
    rintro v τ ⟨I2, J2, rfl, rfl, h2⟩
    refine mm_r0' ⟨rfl, ?_⟩
    show mm_b _ _ _ _ _ [some (.ref 46), none] [] ((fl, n1, n2, p, q, ad), I2, J2)
    show (((nI 1) : Int32) = 0 ∨ ((nI 1) : Int32) = 1) ∧ _
    refine ⟨(by decide), ?_⟩
    exact h2
  · show mm_b _ _ _ _ _ [some (.ref 46), some (.ref 107)] [] ((fl, n1, n2, p, q, ad), I1, J1)
    show (((nI 0) : Int32) = 0 ∨ ((nI 0) : Int32) = 1) ∧ _
    refine ⟨(by decide), ?_⟩
    exact (h1.2 c0)
/- 180 ThreeBreathsModel must -/
theorem fx_180_near {d : Nat} {fl : Nat → Bool} {n1 n2 : Nat} {p q : Bool} {ad : Nat → Nat} {I : mmI} {J : mmJ} {Q : mmQ} (h : ((¬ (I 46 13) = (nI 0) → Q none ((fl, n1, n2, p, q, ad), I, J)) ∧ ((I 46 13) = (nI 0) → mm_wc d 179 [.ref 46, .ref 99] ((fl, 0, 0, p, q, ad), I, J) (fun v τ => ∃ r1 I1 J1, v = some (.int r1) ∧ τ = ((fl, 0, 0, p, q, ad), I1, J1) ∧ ((¬ r1 = (nI 0) → Q none ((fl, n1, n2, p, q, ad), I1, J1)) ∧ (r1 = (nI 0) → mm_wc d 177 [.ref 46, .int (nI 1), .int (I1 46 4)] ((fl, 0, 0, p, q, ad), I1, J1) (fun v τ => ∃ I2 J2, v = none ∧ τ = ((fl, 0, 0, p, q, ad), I2, J2) ∧ Q none ((fl, n1, n2, p, q, ad), I2, J2)))))))) : mm_wc (d + 1) 180 [.ref 46, .ref 99] ((fl, n1, n2, p, q, ad), I, J) Q := by
  refine mm_call (c := 180) rfl rfl ?_
  refine mm_go [] 80 ?_
  show (¬ (I 46 13) = (nI 0) → _) ∧ ((I 46 13) = (nI 0) → _)
  refine ⟨fun c0 => ?_, fun c0 => ?_⟩
  · exact (h.1 c0)
  · show mm_b _ _ _ _ _ [some (.ref 46), some (.ref 99)] [] ((fl, n1, n2, p, q, ad), I, J)
    show mm_wc d 179 [.ref 46, .ref 99] ((fl, 0, 0, p, q, ad), I, J) _
    refine mm_wcm (h.2 c0) ?_
    rintro v τ ⟨r1, I1, J1, rfl, rfl, h1⟩
    refine mm_r1' ⟨rfl, ?_⟩
    show mm_b _ _ _ _ _ [some (.ref 46), some (.ref 99)] [.int r1] ((fl, n1, n2, p, q, ad), I1, J1)
    show (¬ r1 = (nI 0) → _) ∧ (r1 = (nI 0) → _)
    refine ⟨fun c1 => ?_, fun c1 => ?_⟩
    · exact (h1.1 c1)
    · show mm_b _ _ _ _ _ [some (.ref 46), some (.ref 99)] [] ((fl, n1, n2, p, q, ad), I1, J1)
      show mm_wc d 177 [.ref 46, .int (nI 1), .int (I1 46 4)] ((fl, 0, 0, p, q, ad), I1, J1) _
      refine mm_wcm (h1.2 c1) ?_
      rintro v τ ⟨I2, J2, rfl, rfl, h2⟩
      refine mm_r0' ⟨rfl, ?_⟩
      exact h2
/- 180 ThreeBreathsModel must -/
theorem fx_180_wax {d : Nat} {fl : Nat → Bool} {n1 n2 : Nat} {p q : Bool} {ad : Nat → Nat} {I : mmI} {J : mmJ} {Q : mmQ} (h : ((¬ (I 46 13) = (nI 0) → Q none ((fl, n1, n2, p, q, ad), I, J)) ∧ ((I 46 13) = (nI 0) → mm_wc d 179 [.ref 46, .ref 100] ((fl, 0, 0, p, q, ad), I, J) (fun v τ => ∃ r1 I1 J1, v = some (.int r1) ∧ τ = ((fl, 0, 0, p, q, ad), I1, J1) ∧ ((¬ r1 = (nI 0) → Q none ((fl, n1, n2, p, q, ad), I1, J1)) ∧ (r1 = (nI 0) → mm_wc d 177 [.ref 46, .int (nI 1), .int (I1 46 4)] ((fl, 0, 0, p, q, ad), I1, J1) (fun v τ => ∃ I2 J2, v = none ∧ τ = ((fl, 0, 0, p, q, ad), I2, J2) ∧ Q none ((fl, n1, n2, p, q, ad), I2, J2)))))))) : mm_wc (d + 1) 180 [.ref 46, .ref 100] ((fl, n1, n2, p, q, ad), I, J) Q := by
  refine mm_call (c := 180) rfl rfl ?_
  refine mm_go [] 80 ?_
  show (¬ (I 46 13) = (nI 0) → _) ∧ ((I 46 13) = (nI 0) → _)
  refine ⟨fun c0 => ?_, fun c0 => ?_⟩
  · exact (h.1 c0)
  · show mm_b _ _ _ _ _ [some (.ref 46), some (.ref 100)] [] ((fl, n1, n2, p, q, ad), I, J)
    show mm_wc d 179 [.ref 46, .ref 100] ((fl, 0, 0, p, q, ad), I, J) _
    refine mm_wcm (h.2 c0) ?_
    rintro v τ ⟨r1, I1, J1, rfl, rfl, h1⟩
    refine mm_r1' ⟨rfl, ?_⟩
    show mm_b _ _ _ _ _ [some (.ref 46), some (.ref 100)] [.int r1] ((fl, n1, n2, p, q, ad), I1, J1)
    show (¬ r1 = (nI 0) → _) ∧ (r1 = (nI 0) → _)
    refine ⟨fun c1 => ?_, fun c1 => ?_⟩
    · exact (h1.1 c1)
    · show mm_b _ _ _ _ _ [some (.ref 46), some (.ref 100)] [] ((fl, n1, n2, p, q, ad), I1, J1)
      show mm_wc d 177 [.ref 46, .int (nI 1), .int (I1 46 4)] ((fl, 0, 0, p, q, ad), I1, J1) _
      refine mm_wcm (h1.2 c1) ?_
      rintro v τ ⟨I2, J2, rfl, rfl, h2⟩
      refine mm_r0' ⟨rfl, ?_⟩
      exact h2
/- 180 ThreeBreathsModel must -/
theorem fx_180_at {d : Nat} {fl : Nat → Bool} {n1 n2 : Nat} {p q : Bool} {ad : Nat → Nat} {I : mmI} {J : mmJ} {Q : mmQ} (h : ((¬ (I 46 13) = (nI 0) → Q none ((fl, n1, n2, p, q, ad), I, J)) ∧ ((I 46 13) = (nI 0) → mm_wc d 179 [.ref 46, .ref 108] ((fl, 0, 0, p, q, ad), I, J) (fun v τ => ∃ r1 I1 J1, v = some (.int r1) ∧ τ = ((fl, 0, 0, p, q, ad), I1, J1) ∧ ((¬ r1 = (nI 0) → Q none ((fl, n1, n2, p, q, ad), I1, J1)) ∧ (r1 = (nI 0) → mm_wc d 177 [.ref 46, .int (nI 1), .int (I1 46 4)] ((fl, 0, 0, p, q, ad), I1, J1) (fun v τ => ∃ I2 J2, v = none ∧ τ = ((fl, 0, 0, p, q, ad), I2, J2) ∧ Q none ((fl, n1, n2, p, q, ad), I2, J2)))))))) : mm_wc (d + 1) 180 [.ref 46, .ref 108] ((fl, n1, n2, p, q, ad), I, J) Q := by
  refine mm_call (c := 180) rfl rfl ?_
  refine mm_go [] 80 ?_
  show (¬ (I 46 13) = (nI 0) → _) ∧ ((I 46 13) = (nI 0) → _)
  refine ⟨fun c0 => ?_, fun c0 => ?_⟩
  · exact (h.1 c0)
  · show mm_b _ _ _ _ _ [some (.ref 46), some (.ref 108)] [] ((fl, n1, n2, p, q, ad), I, J)
    show mm_wc d 179 [.ref 46, .ref 108] ((fl, 0, 0, p, q, ad), I, J) _
    refine mm_wcm (h.2 c0) ?_
    rintro v τ ⟨r1, I1, J1, rfl, rfl, h1⟩
    refine mm_r1' ⟨rfl, ?_⟩
    show mm_b _ _ _ _ _ [some (.ref 46), some (.ref 108)] [.int r1] ((fl, n1, n2, p, q, ad), I1, J1)
    show (¬ r1 = (nI 0) → _) ∧ (r1 = (nI 0) → _)
    refine ⟨fun c1 => ?_, fun c1 => ?_⟩
    · exact (h1.1 c1)
    · show mm_b _ _ _ _ _ [some (.ref 46), some (.ref 108)] [] ((fl, n1, n2, p, q, ad), I1, J1)
      show mm_wc d 177 [.ref 46, .int (nI 1), .int (I1 46 4)] ((fl, 0, 0, p, q, ad), I1, J1) _
      refine mm_wcm (h1.2 c1) ?_
      rintro v τ ⟨I2, J2, rfl, rfl, h2⟩
      refine mm_r0' ⟨rfl, ?_⟩
      exact h2
/- 180 ThreeBreathsModel must -/
theorem fx_180_reach {d : Nat} {fl : Nat → Bool} {n1 n2 : Nat} {p q : Bool} {ad : Nat → Nat} {I : mmI} {J : mmJ} {Q : mmQ} (h : ((¬ (I 46 13) = (nI 0) → Q none ((fl, n1, n2, p, q, ad), I, J)) ∧ ((I 46 13) = (nI 0) → mm_wc d 179 [.ref 46, .ref 113] ((fl, 0, 0, p, q, ad), I, J) (fun v τ => ∃ r1 I1 J1, v = some (.int r1) ∧ τ = ((fl, 0, 0, p, q, ad), I1, J1) ∧ ((¬ r1 = (nI 0) → Q none ((fl, n1, n2, p, q, ad), I1, J1)) ∧ (r1 = (nI 0) → mm_wc d 177 [.ref 46, .int (nI 1), .int (I1 46 4)] ((fl, 0, 0, p, q, ad), I1, J1) (fun v τ => ∃ I2 J2, v = none ∧ τ = ((fl, 0, 0, p, q, ad), I2, J2) ∧ Q none ((fl, n1, n2, p, q, ad), I2, J2)))))))) : mm_wc (d + 1) 180 [.ref 46, .ref 113] ((fl, n1, n2, p, q, ad), I, J) Q := by
  refine mm_call (c := 180) rfl rfl ?_
  refine mm_go [] 80 ?_
  show (¬ (I 46 13) = (nI 0) → _) ∧ ((I 46 13) = (nI 0) → _)
  refine ⟨fun c0 => ?_, fun c0 => ?_⟩
  · exact (h.1 c0)
  · show mm_b _ _ _ _ _ [some (.ref 46), some (.ref 113)] [] ((fl, n1, n2, p, q, ad), I, J)
    show mm_wc d 179 [.ref 46, .ref 113] ((fl, 0, 0, p, q, ad), I, J) _
    refine mm_wcm (h.2 c0) ?_
    rintro v τ ⟨r1, I1, J1, rfl, rfl, h1⟩
    refine mm_r1' ⟨rfl, ?_⟩
    show mm_b _ _ _ _ _ [some (.ref 46), some (.ref 113)] [.int r1] ((fl, n1, n2, p, q, ad), I1, J1)
    show (¬ r1 = (nI 0) → _) ∧ (r1 = (nI 0) → _)
    refine ⟨fun c1 => ?_, fun c1 => ?_⟩
    · exact (h1.1 c1)
    · show mm_b _ _ _ _ _ [some (.ref 46), some (.ref 113)] [] ((fl, n1, n2, p, q, ad), I1, J1)
      show mm_wc d 177 [.ref 46, .int (nI 1), .int (I1 46 4)] ((fl, 0, 0, p, q, ad), I1, J1) _
      refine mm_wcm (h1.2 c1) ?_
      rintro v τ ⟨I2, J2, rfl, rfl, h2⟩
      refine mm_r0' ⟨rfl, ?_⟩
      exact h2
/- 180 ThreeBreathsModel must -/
theorem fx_180_spread {d : Nat} {fl : Nat → Bool} {n1 n2 : Nat} {p q : Bool} {ad : Nat → Nat} {I : mmI} {J : mmJ} {Q : mmQ} (h : ((¬ (I 46 13) = (nI 0) → Q none ((fl, n1, n2, p, q, ad), I, J)) ∧ ((I 46 13) = (nI 0) → mm_wc d 179 [.ref 46, .ref 114] ((fl, 0, 0, p, q, ad), I, J) (fun v τ => ∃ r1 I1 J1, v = some (.int r1) ∧ τ = ((fl, 0, 0, p, q, ad), I1, J1) ∧ ((¬ r1 = (nI 0) → Q none ((fl, n1, n2, p, q, ad), I1, J1)) ∧ (r1 = (nI 0) → mm_wc d 177 [.ref 46, .int (nI 1), .int (I1 46 4)] ((fl, 0, 0, p, q, ad), I1, J1) (fun v τ => ∃ I2 J2, v = none ∧ τ = ((fl, 0, 0, p, q, ad), I2, J2) ∧ Q none ((fl, n1, n2, p, q, ad), I2, J2)))))))) : mm_wc (d + 1) 180 [.ref 46, .ref 114] ((fl, n1, n2, p, q, ad), I, J) Q := by
  refine mm_call (c := 180) rfl rfl ?_
  refine mm_go [] 80 ?_
  show (¬ (I 46 13) = (nI 0) → _) ∧ ((I 46 13) = (nI 0) → _)
  refine ⟨fun c0 => ?_, fun c0 => ?_⟩
  · exact (h.1 c0)
  · show mm_b _ _ _ _ _ [some (.ref 46), some (.ref 114)] [] ((fl, n1, n2, p, q, ad), I, J)
    show mm_wc d 179 [.ref 46, .ref 114] ((fl, 0, 0, p, q, ad), I, J) _
    refine mm_wcm (h.2 c0) ?_
    rintro v τ ⟨r1, I1, J1, rfl, rfl, h1⟩
    refine mm_r1' ⟨rfl, ?_⟩
    show mm_b _ _ _ _ _ [some (.ref 46), some (.ref 114)] [.int r1] ((fl, n1, n2, p, q, ad), I1, J1)
    show (¬ r1 = (nI 0) → _) ∧ (r1 = (nI 0) → _)
    refine ⟨fun c1 => ?_, fun c1 => ?_⟩
    · exact (h1.1 c1)
    · show mm_b _ _ _ _ _ [some (.ref 46), some (.ref 114)] [] ((fl, n1, n2, p, q, ad), I1, J1)
      show mm_wc d 177 [.ref 46, .int (nI 1), .int (I1 46 4)] ((fl, 0, 0, p, q, ad), I1, J1) _
      refine mm_wcm (h1.2 c1) ?_
      rintro v τ ⟨I2, J2, rfl, rfl, h2⟩
      refine mm_r0' ⟨rfl, ?_⟩
      exact h2
/- 181 ThreeBreathsModel mustName -/
theorem fx_181 {d : Nat} {fl : Nat → Bool} {n1 n2 : Nat} {p q : Bool} {ad : Nat → Nat} {I : mmI} {J : mmJ} {Q : mmQ} (h : mm_wc d 178 [.ref 46, .ref 98] ((fl, 0, 0, p, q, ad), I, J) (fun v τ => ∃ r1 I1 J1, v = some (.int r1) ∧ τ = ((fl, 0, 0, p, q, ad), I1, J1) ∧ ((¬ r1 = (nI 0) → ((¬ (I1 46 6) = (nI 2) → mm_wc d 177 [.ref 46, .int (nI 1), .int (I1 46 4)] ((fl, 0, 0, p, q, ad), I1, J1) (fun v τ => ∃ I2 J2, v = none ∧ τ = ((fl, 0, 0, p, q, ad), I2, J2) ∧ Q none ((fl, n1, n2, p, q, ad), I2, J2))) ∧ ((I1 46 6) = (nI 2) → mm_wc d 177 [.ref 46, .int (nI 1), .int (I1 46 4)] ((fl, 0, 0, p, q, ad), I1, J1) (fun v τ => ∃ I3 J3, v = none ∧ τ = ((fl, 0, 0, p, q, ad), I3, J3) ∧ Q none ((fl, n1, n2, p, q, ad), I3, J3))))) ∧ (r1 = (nI 0) → mm_wc d 178 [.ref 46, .ref 101] ((fl, 0, 0, p, q, ad), I1, J1) (fun v τ => ∃ r4 I4 J4, v = some (.int r4) ∧ τ = ((fl, 0, 0, p, q, ad), I4, J4) ∧ ((¬ r4 = (nI 0) → ((¬ (I4 46 6) = (nI 2) → mm_wc d 177 [.ref 46, .int (nI 1), .int (I4 46 4)] ((fl, 0, 0, p, q, ad), I4, J4) (fun v τ => ∃ I5 J5, v = none ∧ τ = ((fl, 0, 0, p, q, ad), I5, J5) ∧ Q none ((fl, n1, n2, p, q, ad), I5, J5))) ∧ ((I4 46 6) = (nI 2) → mm_wc d 177 [.ref 46, .int (nI 1), .int (I4 46 4)] ((fl, 0, 0, p, q, ad), I4, J4) (fun v τ => ∃ I6 J6, v = none ∧ τ = ((fl, 0, 0, p, q, ad), I6, J6) ∧ Q none ((fl, n1, n2, p, q, ad), I6, J6))))) ∧ (r4 = (nI 0) → mm_wc d 178 [.ref 46, .ref 102] ((fl, 0, 0, p, q, ad), I4, J4) (fun v τ => ∃ r7 I7 J7, v = some (.int r7) ∧ τ = ((fl, 0, 0, p, q, ad), I7, J7) ∧ ((¬ r7 = (nI 0) → ((¬ (I7 46 6) = (nI 2) → mm_wc d 177 [.ref 46, .int (nI 1), .int (I7 46 4)] ((fl, 0, 0, p, q, ad), I7, J7) (fun v τ => ∃ I8 J8, v = none ∧ τ = ((fl, 0, 0, p, q, ad), I8, J8) ∧ Q none ((fl, n1, n2, p, q, ad), I8, J8))) ∧ ((I7 46 6) = (nI 2) → mm_wc d 177 [.ref 46, .int (nI 1), .int (I7 46 4)] ((fl, 0, 0, p, q, ad), I7, J7) (fun v τ => ∃ I9 J9, v = none ∧ τ = ((fl, 0, 0, p, q, ad), I9, J9) ∧ Q none ((fl, n1, n2, p, q, ad), I9, J9))))) ∧ (r7 = (nI 0) → mm_wc d 178 [.ref 46, .ref 103] ((fl, 0, 0, p, q, ad), I7, J7) (fun v τ => ∃ r10 I10 J10, v = some (.int r10) ∧ τ = ((fl, 0, 0, p, q, ad), I10, J10) ∧ ((¬ r10 = (nI 0) → ((¬ (I10 46 6) = (nI 2) → mm_wc d 177 [.ref 46, .int (nI 1), .int (I10 46 4)] ((fl, 0, 0, p, q, ad), I10, J10) (fun v τ => ∃ I11 J11, v = none ∧ τ = ((fl, 0, 0, p, q, ad), I11, J11) ∧ Q none ((fl, n1, n2, p, q, ad), I11, J11))) ∧ ((I10 46 6) = (nI 2) → mm_wc d 177 [.ref 46, .int (nI 1), .int (I10 46 4)] ((fl, 0, 0, p, q, ad), I10, J10) (fun v τ => ∃ I12 J12, v = none ∧ τ = ((fl, 0, 0, p, q, ad), I12, J12) ∧ Q none ((fl, n1, n2, p, q, ad), I12, J12))))) ∧ (r10 = (nI 0) → mm_wc d 178 [.ref 46, .ref 104] ((fl, 0, 0, p, q, ad), I10, J10) (fun v τ => ∃ r13 I13 J13, v = some (.int r13) ∧ τ = ((fl, 0, 0, p, q, ad), I13, J13) ∧ ((¬ r13 = (nI 0) → ((¬ (I13 46 6) = (nI 2) → mm_wc d 177 [.ref 46, .int (nI 1), .int (I13 46 4)] ((fl, 0, 0, p, q, ad), I13, J13) (fun v τ => ∃ I14 J14, v = none ∧ τ = ((fl, 0, 0, p, q, ad), I14, J14) ∧ Q none ((fl, n1, n2, p, q, ad), I14, J14))) ∧ ((I13 46 6) = (nI 2) → mm_wc d 177 [.ref 46, .int (nI 1), .int (I13 46 4)] ((fl, 0, 0, p, q, ad), I13, J13) (fun v τ => ∃ I15 J15, v = none ∧ τ = ((fl, 0, 0, p, q, ad), I15, J15) ∧ Q none ((fl, n1, n2, p, q, ad), I15, J15))))) ∧ (r13 = (nI 0) → mm_wc d 178 [.ref 46, .ref 105] ((fl, 0, 0, p, q, ad), I13, J13) (fun v τ => ∃ r16 I16 J16, v = some (.int r16) ∧ τ = ((fl, 0, 0, p, q, ad), I16, J16) ∧ ((¬ r16 = (nI 0) → ((¬ (I16 46 6) = (nI 2) → mm_wc d 177 [.ref 46, .int (nI 1), .int (I16 46 4)] ((fl, 0, 0, p, q, ad), I16, J16) (fun v τ => ∃ I17 J17, v = none ∧ τ = ((fl, 0, 0, p, q, ad), I17, J17) ∧ Q none ((fl, n1, n2, p, q, ad), I17, J17))) ∧ ((I16 46 6) = (nI 2) → mm_wc d 177 [.ref 46, .int (nI 1), .int (I16 46 4)] ((fl, 0, 0, p, q, ad), I16, J16) (fun v τ => ∃ I18 J18, v = none ∧ τ = ((fl, 0, 0, p, q, ad), I18, J18) ∧ Q none ((fl, n1, n2, p, q, ad), I18, J18))))) ∧ (r16 = (nI 0) → mm_wc d 178 [.ref 46, .ref 106] ((fl, 0, 0, p, q, ad), I16, J16) (fun v τ => ∃ r19 I19 J19, v = some (.int r19) ∧ τ = ((fl, 0, 0, p, q, ad), I19, J19) ∧ ((¬ r19 = (nI 0) → ((¬ (I19 46 6) = (nI 2) → mm_wc d 177 [.ref 46, .int (nI 1), .int (I19 46 4)] ((fl, 0, 0, p, q, ad), I19, J19) (fun v τ => ∃ I20 J20, v = none ∧ τ = ((fl, 0, 0, p, q, ad), I20, J20) ∧ Q none ((fl, n1, n2, p, q, ad), I20, J20))) ∧ ((I19 46 6) = (nI 2) → mm_wc d 177 [.ref 46, .int (nI 1), .int (I19 46 4)] ((fl, 0, 0, p, q, ad), I19, J19) (fun v τ => ∃ I21 J21, v = none ∧ τ = ((fl, 0, 0, p, q, ad), I21, J21) ∧ Q none ((fl, n1, n2, p, q, ad), I21, J21))))) ∧ (r19 = (nI 0) → mm_wc d 178 [.ref 46, .ref 107] ((fl, 0, 0, p, q, ad), I19, J19) (fun v τ => ∃ r22 I22 J22, v = some (.int r22) ∧ τ = ((fl, 0, 0, p, q, ad), I22, J22) ∧ ((r22 = (nI 0) → ((¬ (I22 46 6) = (nI 2) → mm_wc d 177 [.ref 46, .int (nI 1), .int (I22 46 4)] ((fl, 0, 0, p, q, ad), I22, J22) (fun v τ => ∃ I23 J23, v = none ∧ τ = ((fl, 0, 0, p, q, ad), I23, J23) ∧ Q none ((fl, n1, n2, p, q, ad), I23, J23))) ∧ ((I22 46 6) = (nI 2) → Q none ((fl, n1, n2, p, q, ad), I22, J22)))) ∧ (¬ r22 = (nI 0) → ((¬ (I22 46 6) = (nI 2) → mm_wc d 177 [.ref 46, .int (nI 1), .int (I22 46 4)] ((fl, 0, 0, p, q, ad), I22, J22) (fun v τ => ∃ I24 J24, v = none ∧ τ = ((fl, 0, 0, p, q, ad), I24, J24) ∧ Q none ((fl, n1, n2, p, q, ad), I24, J24))) ∧ ((I22 46 6) = (nI 2) → mm_wc d 177 [.ref 46, .int (nI 1), .int (I22 46 4)] ((fl, 0, 0, p, q, ad), I22, J22) (fun v τ => ∃ I25 J25, v = none ∧ τ = ((fl, 0, 0, p, q, ad), I25, J25) ∧ Q none ((fl, n1, n2, p, q, ad), I25, J25))))))))))))))))))))))))))))) : mm_wc (d + 1) 181 [.ref 46] ((fl, n1, n2, p, q, ad), I, J) Q := by
  refine mm_call (c := 181) rfl rfl ?_
  refine mm_go [] 80 ?_
  show mm_wc d 178 [.ref 46, .ref 98] ((fl, 0, 0, p, q, ad), I, J) _
  refine mm_wcm h ?_
  rintro v τ ⟨r1, I1, J1, rfl, rfl, h1⟩
  refine mm_r1' ⟨rfl, ?_⟩
  show mm_b _ _ _ _ _ [some (.ref 46), none] [.int r1] ((fl, n1, n2, p, q, ad), I1, J1)
  show (¬ r1 = (nI 0) → _) ∧ (r1 = (nI 0) → _)
  refine ⟨fun c0 => ?_, fun c0 => ?_⟩
  · show mm_u _ _ _ _ _ _ [some (.ref 46), none] [] ((fl, n1, n2, p, q, ad), I1, J1)
    show (¬ (I1 46 6) = (nI 2) → _) ∧ ((I1 46 6) = (nI 2) → _)
    refine ⟨fun c1 => ?_, fun c1 => ?_⟩
    · show mm_u _ _ _ _ _ _ [some (.ref 46), some (.int (nI 1))] [] ((fl, n1, n2, p, q, ad), I1, J1)
      show mm_wc d 177 [.ref 46, .int (nI 1), .int (I1 46 4)] ((fl, 0, 0, p, q, ad), I1, J1) _
      refine mm_wcm ((h1.1 c0).1 c1) ?_
      rintro v τ ⟨I2, J2, rfl, rfl, h2⟩
      refine mm_r0' ⟨rfl, ?_⟩
      exact h2
    · show mm_b _ _ _ _ _ [some (.ref 46), some (.int (nI 1))] [] ((fl, n1, n2, p, q, ad), I1, J1)
      show (((nI 1) : Int32) = (nI 0) → _) ∧ (¬ ((nI 1) : Int32) = (nI 0) → _)
      refine ⟨fun q => absurd q (by decide), fun _ => ?_⟩
      show mm_b _ _ _ _ _ [some (.ref 46), some (.int (nI 1))] [] ((fl, n1, n2, p, q, ad), I1, J1)
      show mm_wc d 177 [.ref 46, .int (nI 1), .int (I1 46 4)] ((fl, 0, 0, p, q, ad), I1, J1) _
      refine mm_wcm ((h1.1 c0).2 c1) ?_
      rintro v τ ⟨I3, J3, rfl, rfl, h3⟩
      refine mm_r0' ⟨rfl, ?_⟩
      exact h3
  · show mm_b _ _ _ _ _ [some (.ref 46), none] [] ((fl, n1, n2, p, q, ad), I1, J1)
    show mm_wc d 178 [.ref 46, .ref 101] ((fl, 0, 0, p, q, ad), I1, J1) _
    refine mm_wcm (h1.2 c0) ?_
    rintro v τ ⟨r4, I4, J4, rfl, rfl, h4⟩
    refine mm_r1' ⟨rfl, ?_⟩
    show mm_b _ _ _ _ _ [some (.ref 46), none] [.int r4] ((fl, n1, n2, p, q, ad), I4, J4)
    show (¬ r4 = (nI 0) → _) ∧ (r4 = (nI 0) → _)
    refine ⟨fun c1 => ?_, fun c1 => ?_⟩
    · show mm_u _ _ _ _ _ _ [some (.ref 46), none] [] ((fl, n1, n2, p, q, ad), I4, J4)
      show (¬ (I4 46 6) = (nI 2) → _) ∧ ((I4 46 6) = (nI 2) → _)
      refine ⟨fun c2 => ?_, fun c2 => ?_⟩
      · show mm_u _ _ _ _ _ _ [some (.ref 46), some (.int (nI 1))] [] ((fl, n1, n2, p, q, ad), I4, J4)
        show mm_wc d 177 [.ref 46, .int (nI 1), .int (I4 46 4)] ((fl, 0, 0, p, q, ad), I4, J4) _
        refine mm_wcm ((h4.1 c1).1 c2) ?_
        rintro v τ ⟨I5, J5, rfl, rfl, h5⟩
        refine mm_r0' ⟨rfl, ?_⟩
        exact h5
      · show mm_b _ _ _ _ _ [some (.ref 46), some (.int (nI 1))] [] ((fl, n1, n2, p, q, ad), I4, J4)
        show (((nI 1) : Int32) = (nI 0) → _) ∧ (¬ ((nI 1) : Int32) = (nI 0) → _)
        refine ⟨fun q => absurd q (by decide), fun _ => ?_⟩
        show mm_b _ _ _ _ _ [some (.ref 46), some (.int (nI 1))] [] ((fl, n1, n2, p, q, ad), I4, J4)
        show mm_wc d 177 [.ref 46, .int (nI 1), .int (I4 46 4)] ((fl, 0, 0, p, q, ad), I4, J4) _
        refine mm_wcm ((h4.1 c1).2 c2) ?_
        rintro v τ ⟨I6, J6, rfl, rfl, h6⟩
        refine mm_r0' ⟨rfl, ?_⟩
        exact h6
    · show mm_b _ _ _ _ _ [some (.ref 46), none] [] ((fl, n1, n2, p, q, ad), I4, J4)
      show mm_wc d 178 [.ref 46, .ref 102] ((fl, 0, 0, p, q, ad), I4, J4) _
      refine mm_wcm (h4.2 c1) ?_
      rintro v τ ⟨r7, I7, J7, rfl, rfl, h7⟩
      refine mm_r1' ⟨rfl, ?_⟩
      show mm_b _ _ _ _ _ [some (.ref 46), none] [.int r7] ((fl, n1, n2, p, q, ad), I7, J7)
      show (¬ r7 = (nI 0) → _) ∧ (r7 = (nI 0) → _)
      refine ⟨fun c2 => ?_, fun c2 => ?_⟩
      · show mm_u _ _ _ _ _ _ [some (.ref 46), none] [] ((fl, n1, n2, p, q, ad), I7, J7)
        show (¬ (I7 46 6) = (nI 2) → _) ∧ ((I7 46 6) = (nI 2) → _)
        refine ⟨fun c3 => ?_, fun c3 => ?_⟩
        · show mm_u _ _ _ _ _ _ [some (.ref 46), some (.int (nI 1))] [] ((fl, n1, n2, p, q, ad), I7, J7)
          show mm_wc d 177 [.ref 46, .int (nI 1), .int (I7 46 4)] ((fl, 0, 0, p, q, ad), I7, J7) _
          refine mm_wcm ((h7.1 c2).1 c3) ?_
          rintro v τ ⟨I8, J8, rfl, rfl, h8⟩
          refine mm_r0' ⟨rfl, ?_⟩
          exact h8
        · show mm_b _ _ _ _ _ [some (.ref 46), some (.int (nI 1))] [] ((fl, n1, n2, p, q, ad), I7, J7)
          show (((nI 1) : Int32) = (nI 0) → _) ∧ (¬ ((nI 1) : Int32) = (nI 0) → _)
          refine ⟨fun q => absurd q (by decide), fun _ => ?_⟩
          show mm_b _ _ _ _ _ [some (.ref 46), some (.int (nI 1))] [] ((fl, n1, n2, p, q, ad), I7, J7)
          show mm_wc d 177 [.ref 46, .int (nI 1), .int (I7 46 4)] ((fl, 0, 0, p, q, ad), I7, J7) _
          refine mm_wcm ((h7.1 c2).2 c3) ?_
          rintro v τ ⟨I9, J9, rfl, rfl, h9⟩
          refine mm_r0' ⟨rfl, ?_⟩
          exact h9
      · show mm_b _ _ _ _ _ [some (.ref 46), none] [] ((fl, n1, n2, p, q, ad), I7, J7)
        show mm_wc d 178 [.ref 46, .ref 103] ((fl, 0, 0, p, q, ad), I7, J7) _
        refine mm_wcm (h7.2 c2) ?_
        rintro v τ ⟨r10, I10, J10, rfl, rfl, h10⟩
        refine mm_r1' ⟨rfl, ?_⟩
        show mm_b _ _ _ _ _ [some (.ref 46), none] [.int r10] ((fl, n1, n2, p, q, ad), I10, J10)
        show (¬ r10 = (nI 0) → _) ∧ (r10 = (nI 0) → _)
        refine ⟨fun c3 => ?_, fun c3 => ?_⟩
        · show mm_u _ _ _ _ _ _ [some (.ref 46), none] [] ((fl, n1, n2, p, q, ad), I10, J10)
          show (¬ (I10 46 6) = (nI 2) → _) ∧ ((I10 46 6) = (nI 2) → _)
          refine ⟨fun c4 => ?_, fun c4 => ?_⟩
          · show mm_u _ _ _ _ _ _ [some (.ref 46), some (.int (nI 1))] [] ((fl, n1, n2, p, q, ad), I10, J10)
            show mm_wc d 177 [.ref 46, .int (nI 1), .int (I10 46 4)] ((fl, 0, 0, p, q, ad), I10, J10) _
            refine mm_wcm ((h10.1 c3).1 c4) ?_
            rintro v τ ⟨I11, J11, rfl, rfl, h11⟩
            refine mm_r0' ⟨rfl, ?_⟩
            exact h11
          · show mm_b _ _ _ _ _ [some (.ref 46), some (.int (nI 1))] [] ((fl, n1, n2, p, q, ad), I10, J10)
            show (((nI 1) : Int32) = (nI 0) → _) ∧ (¬ ((nI 1) : Int32) = (nI 0) → _)
            refine ⟨fun q => absurd q (by decide), fun _ => ?_⟩
            show mm_b _ _ _ _ _ [some (.ref 46), some (.int (nI 1))] [] ((fl, n1, n2, p, q, ad), I10, J10)
            show mm_wc d 177 [.ref 46, .int (nI 1), .int (I10 46 4)] ((fl, 0, 0, p, q, ad), I10, J10) _
            refine mm_wcm ((h10.1 c3).2 c4) ?_
            rintro v τ ⟨I12, J12, rfl, rfl, h12⟩
            refine mm_r0' ⟨rfl, ?_⟩
            exact h12
        · show mm_b _ _ _ _ _ [some (.ref 46), none] [] ((fl, n1, n2, p, q, ad), I10, J10)
          show mm_wc d 178 [.ref 46, .ref 104] ((fl, 0, 0, p, q, ad), I10, J10) _
          refine mm_wcm (h10.2 c3) ?_
          rintro v τ ⟨r13, I13, J13, rfl, rfl, h13⟩
          refine mm_r1' ⟨rfl, ?_⟩
          show mm_b _ _ _ _ _ [some (.ref 46), none] [.int r13] ((fl, n1, n2, p, q, ad), I13, J13)
          show (¬ r13 = (nI 0) → _) ∧ (r13 = (nI 0) → _)
          refine ⟨fun c4 => ?_, fun c4 => ?_⟩
          · show mm_u _ _ _ _ _ _ [some (.ref 46), none] [] ((fl, n1, n2, p, q, ad), I13, J13)
            show (¬ (I13 46 6) = (nI 2) → _) ∧ ((I13 46 6) = (nI 2) → _)
            refine ⟨fun c5 => ?_, fun c5 => ?_⟩
            · show mm_u _ _ _ _ _ _ [some (.ref 46), some (.int (nI 1))] [] ((fl, n1, n2, p, q, ad), I13, J13)
              show mm_wc d 177 [.ref 46, .int (nI 1), .int (I13 46 4)] ((fl, 0, 0, p, q, ad), I13, J13) _
              refine mm_wcm ((h13.1 c4).1 c5) ?_
              rintro v τ ⟨I14, J14, rfl, rfl, h14⟩
              refine mm_r0' ⟨rfl, ?_⟩
              exact h14
            · show mm_b _ _ _ _ _ [some (.ref 46), some (.int (nI 1))] [] ((fl, n1, n2, p, q, ad), I13, J13)
              show (((nI 1) : Int32) = (nI 0) → _) ∧ (¬ ((nI 1) : Int32) = (nI 0) → _)
              refine ⟨fun q => absurd q (by decide), fun _ => ?_⟩
              show mm_b _ _ _ _ _ [some (.ref 46), some (.int (nI 1))] [] ((fl, n1, n2, p, q, ad), I13, J13)
              show mm_wc d 177 [.ref 46, .int (nI 1), .int (I13 46 4)] ((fl, 0, 0, p, q, ad), I13, J13) _
              refine mm_wcm ((h13.1 c4).2 c5) ?_
              rintro v τ ⟨I15, J15, rfl, rfl, h15⟩
              refine mm_r0' ⟨rfl, ?_⟩
              exact h15
          · show mm_b _ _ _ _ _ [some (.ref 46), none] [] ((fl, n1, n2, p, q, ad), I13, J13)
            show mm_wc d 178 [.ref 46, .ref 105] ((fl, 0, 0, p, q, ad), I13, J13) _
            refine mm_wcm (h13.2 c4) ?_
            rintro v τ ⟨r16, I16, J16, rfl, rfl, h16⟩
            refine mm_r1' ⟨rfl, ?_⟩
            show mm_b _ _ _ _ _ [some (.ref 46), none] [.int r16] ((fl, n1, n2, p, q, ad), I16, J16)
            show (¬ r16 = (nI 0) → _) ∧ (r16 = (nI 0) → _)
            refine ⟨fun c5 => ?_, fun c5 => ?_⟩
            · show mm_u _ _ _ _ _ _ [some (.ref 46), none] [] ((fl, n1, n2, p, q, ad), I16, J16)
              show (¬ (I16 46 6) = (nI 2) → _) ∧ ((I16 46 6) = (nI 2) → _)
              refine ⟨fun c6 => ?_, fun c6 => ?_⟩
              · show mm_u _ _ _ _ _ _ [some (.ref 46), some (.int (nI 1))] [] ((fl, n1, n2, p, q, ad), I16, J16)
                show mm_wc d 177 [.ref 46, .int (nI 1), .int (I16 46 4)] ((fl, 0, 0, p, q, ad), I16, J16) _
                refine mm_wcm ((h16.1 c5).1 c6) ?_
                rintro v τ ⟨I17, J17, rfl, rfl, h17⟩
                refine mm_r0' ⟨rfl, ?_⟩
                exact h17
              · show mm_b _ _ _ _ _ [some (.ref 46), some (.int (nI 1))] [] ((fl, n1, n2, p, q, ad), I16, J16)
                show (((nI 1) : Int32) = (nI 0) → _) ∧ (¬ ((nI 1) : Int32) = (nI 0) → _)
                refine ⟨fun q => absurd q (by decide), fun _ => ?_⟩
                show mm_b _ _ _ _ _ [some (.ref 46), some (.int (nI 1))] [] ((fl, n1, n2, p, q, ad), I16, J16)
                show mm_wc d 177 [.ref 46, .int (nI 1), .int (I16 46 4)] ((fl, 0, 0, p, q, ad), I16, J16) _
                refine mm_wcm ((h16.1 c5).2 c6) ?_
                rintro v τ ⟨I18, J18, rfl, rfl, h18⟩
                refine mm_r0' ⟨rfl, ?_⟩
                exact h18
            · show mm_b _ _ _ _ _ [some (.ref 46), none] [] ((fl, n1, n2, p, q, ad), I16, J16)
              show mm_wc d 178 [.ref 46, .ref 106] ((fl, 0, 0, p, q, ad), I16, J16) _
              refine mm_wcm (h16.2 c5) ?_
              rintro v τ ⟨r19, I19, J19, rfl, rfl, h19⟩
              refine mm_r1' ⟨rfl, ?_⟩
              show mm_b _ _ _ _ _ [some (.ref 46), none] [.int r19] ((fl, n1, n2, p, q, ad), I19, J19)
              show (¬ r19 = (nI 0) → _) ∧ (r19 = (nI 0) → _)
              refine ⟨fun c6 => ?_, fun c6 => ?_⟩
              · show mm_u _ _ _ _ _ _ [some (.ref 46), none] [] ((fl, n1, n2, p, q, ad), I19, J19)
                show (¬ (I19 46 6) = (nI 2) → _) ∧ ((I19 46 6) = (nI 2) → _)
                refine ⟨fun c7 => ?_, fun c7 => ?_⟩
                · show mm_u _ _ _ _ _ _ [some (.ref 46), some (.int (nI 1))] [] ((fl, n1, n2, p, q, ad), I19, J19)
                  show mm_wc d 177 [.ref 46, .int (nI 1), .int (I19 46 4)] ((fl, 0, 0, p, q, ad), I19, J19) _
                  refine mm_wcm ((h19.1 c6).1 c7) ?_
                  rintro v τ ⟨I20, J20, rfl, rfl, h20⟩
                  refine mm_r0' ⟨rfl, ?_⟩
                  exact h20
                · show mm_b _ _ _ _ _ [some (.ref 46), some (.int (nI 1))] [] ((fl, n1, n2, p, q, ad), I19, J19)
                  show (((nI 1) : Int32) = (nI 0) → _) ∧ (¬ ((nI 1) : Int32) = (nI 0) → _)
                  refine ⟨fun q => absurd q (by decide), fun _ => ?_⟩
                  show mm_b _ _ _ _ _ [some (.ref 46), some (.int (nI 1))] [] ((fl, n1, n2, p, q, ad), I19, J19)
                  show mm_wc d 177 [.ref 46, .int (nI 1), .int (I19 46 4)] ((fl, 0, 0, p, q, ad), I19, J19) _
                  refine mm_wcm ((h19.1 c6).2 c7) ?_
                  rintro v τ ⟨I21, J21, rfl, rfl, h21⟩
                  refine mm_r0' ⟨rfl, ?_⟩
                  exact h21
              · show mm_b _ _ _ _ _ [some (.ref 46), none] [] ((fl, n1, n2, p, q, ad), I19, J19)
                show mm_wc d 178 [.ref 46, .ref 107] ((fl, 0, 0, p, q, ad), I19, J19) _
                refine mm_wcm (h19.2 c6) ?_
                rintro v τ ⟨r22, I22, J22, rfl, rfl, h22⟩
                refine mm_r1' ⟨rfl, ?_⟩
                show mm_b _ _ _ _ _ [some (.ref 46), none] [.int r22] ((fl, n1, n2, p, q, ad), I22, J22)
                show (r22 = (nI 0) → _) ∧ (¬ r22 = (nI 0) → _)
                refine ⟨fun c7 => ?_, fun c7 => ?_⟩
                · show mm_u _ _ _ _ _ _ [some (.ref 46), none] [] ((fl, n1, n2, p, q, ad), I22, J22)
                  show (¬ (I22 46 6) = (nI 2) → _) ∧ ((I22 46 6) = (nI 2) → _)
                  refine ⟨fun c8 => ?_, fun c8 => ?_⟩
                  · show mm_u _ _ _ _ _ _ [some (.ref 46), some (.int (nI 0))] [] ((fl, n1, n2, p, q, ad), I22, J22)
                    show mm_wc d 177 [.ref 46, .int (nI 1), .int (I22 46 4)] ((fl, 0, 0, p, q, ad), I22, J22) _
                    refine mm_wcm ((h22.1 c7).1 c8) ?_
                    rintro v τ ⟨I23, J23, rfl, rfl, h23⟩
                    refine mm_r0' ⟨rfl, ?_⟩
                    exact h23
                  · show mm_b _ _ _ _ _ [some (.ref 46), some (.int (nI 0))] [] ((fl, n1, n2, p, q, ad), I22, J22)
                    show (((nI 0) : Int32) = (nI 0) → _) ∧ (¬ ((nI 0) : Int32) = (nI 0) → _)
                    refine ⟨fun _ => ?_, fun q => absurd q (by decide)⟩
                    exact ((h22.1 c7).2 c8)
                · show mm_b _ _ _ _ _ [some (.ref 46), none] [] ((fl, n1, n2, p, q, ad), I22, J22)
                  show (¬ (I22 46 6) = (nI 2) → _) ∧ ((I22 46 6) = (nI 2) → _)
                  refine ⟨fun c8 => ?_, fun c8 => ?_⟩
                  · show mm_u _ _ _ _ _ _ [some (.ref 46), some (.int (nI 1))] [] ((fl, n1, n2, p, q, ad), I22, J22)
                    show mm_wc d 177 [.ref 46, .int (nI 1), .int (I22 46 4)] ((fl, 0, 0, p, q, ad), I22, J22) _
                    refine mm_wcm ((h22.2 c7).1 c8) ?_
                    rintro v τ ⟨I24, J24, rfl, rfl, h24⟩
                    refine mm_r0' ⟨rfl, ?_⟩
                    exact h24
                  · show mm_b _ _ _ _ _ [some (.ref 46), some (.int (nI 1))] [] ((fl, n1, n2, p, q, ad), I22, J22)
                    show (((nI 1) : Int32) = (nI 0) → _) ∧ (¬ ((nI 1) : Int32) = (nI 0) → _)
                    refine ⟨fun q => absurd q (by decide), fun _ => ?_⟩
                    show mm_b _ _ _ _ _ [some (.ref 46), some (.int (nI 1))] [] ((fl, n1, n2, p, q, ad), I22, J22)
                    show mm_wc d 177 [.ref 46, .int (nI 1), .int (I22 46 4)] ((fl, 0, 0, p, q, ad), I22, J22) _
                    refine mm_wcm ((h22.2 c7).2 c8) ?_
                    rintro v τ ⟨I25, J25, rfl, rfl, h25⟩
                    refine mm_r0' ⟨rfl, ?_⟩
                    exact h25
/- 182 ThreeBreathsModel find -/
theorem fx_182 {d : Nat} {fl : Nat → Bool} {n1 n2 : Nat} {p q : Bool} {ad : Nat → Nat} {I : mmI} {J : mmJ} {Q : mmQ} (h : mm_w Q (mm_wc d) bk_182 2 [some (.ref 46), some (.int (nI 0)), none, none] [] ((fl, n1, n2, p, q, ad), I, J)) : mm_wc (d + 1) 182 [.ref 46] ((fl, n1, n2, p, q, ad), I, J) Q := by
  refine mm_call (c := 182) rfl rfl ?_
  refine mm_go [2, 44] 80 ?_
  exact h
theorem fx_182_2 {d : Nat} {a1 : Int32} {fl : Nat → Bool} {n1 n2 : Nat} {p q : Bool} {ad : Nat → Nat} {I : mmI} {J : mmJ} {Q : mmQ} (h : (((nI 23) ≤ a1 → Q (some (.int (-1))) ((fl, n1, n2, p, q, ad), I, J)) ∧ (¬ (nI 23) ≤ a1 → (vp_in ((nI 72) + a1) 279 ∧ (((I 50 (((nI 72) + a1)).toNatClampNeg) ≤ (nI 0) → mm_w Q (mm_wc d) bk_182 44 [some (.ref 46), some (.int a1), some (.int (nI 0)), some (.int (nI 0))] [] ((fl, n1, n2, p, q, ad), I, J)) ∧ (¬ (I 50 (((nI 72) + a1)).toNatClampNeg) ≤ (nI 0) → (vp_in ((nI 72) + a1) 279 ∧ ((¬ (I 50 (((nI 72) + a1)).toNatClampNeg) = (I 46 8) → mm_w Q (mm_wc d) bk_182 44 [some (.ref 46), some (.int a1), some (.int (nI 0)), some (.int (nI 0))] [] ((fl, n1, n2, p, q, ad), I, J)) ∧ ((I 50 (((nI 72) + a1)).toNatClampNeg) = (I 46 8) → mm_w Q (mm_wc d) bk_182 44 [some (.ref 46), some (.int a1), some (.int (nI 1)), some (.int (nI 0))] [] ((fl, n1, n2, p, q, ad), I, J)))))))))) : mm_w Q (mm_wc (d)) bk_182 2 [some (.ref 46), some (.int a1), none, none] [] ((fl, n1, n2, p, q, ad), I, J) := by
  refine mm_go [2, 44] 80 ?_
  show ((nI 23) ≤ a1 → _) ∧ (¬ (nI 23) ≤ a1 → _)
  refine ⟨fun c0 => ?_, fun c0 => ?_⟩
  · exact (h.1 c0)
  · show mm_b _ _ _ _ _ [some (.ref 46), some (.int a1), none, none] [] ((fl, n1, n2, p, q, ad), I, J)
    show vp_in ((nI 72) + a1) 279 ∧ _
    refine ⟨(h.2 c0).1, ?_⟩
    show mm_b _ _ _ _ _ [some (.ref 46), some (.int a1), none, none] [.int (I 50 (((nI 72) + a1)).toNatClampNeg)] ((fl, n1, n2, p, q, ad), I, J)
    show ((I 50 (((nI 72) + a1)).toNatClampNeg) ≤ (nI 0) → _) ∧ (¬ (I 50 (((nI 72) + a1)).toNatClampNeg) ≤ (nI 0) → _)
    refine ⟨fun c1 => ?_, fun c1 => ?_⟩
    · exact ((h.2 c0).2.1 c1)
    · show mm_b _ _ _ _ _ [some (.ref 46), some (.int a1), none, none] [] ((fl, n1, n2, p, q, ad), I, J)
      show vp_in ((nI 72) + a1) 279 ∧ _
      refine ⟨((h.2 c0).2.2 c1).1, ?_⟩
      show mm_b _ _ _ _ _ [some (.ref 46), some (.int a1), none, none] [.int (I 50 (((nI 72) + a1)).toNatClampNeg)] ((fl, n1, n2, p, q, ad), I, J)
      show (¬ (I 50 (((nI 72) + a1)).toNatClampNeg) = (I 46 8) → _) ∧ ((I 50 (((nI 72) + a1)).toNatClampNeg) = (I 46 8) → _)
      refine ⟨fun c2 => ?_, fun c2 => ?_⟩
      · exact (((h.2 c0).2.2 c1).2.1 c2)
      · exact (((h.2 c0).2.2 c1).2.2 c2)
theorem fx_182_44 {d : Nat} {a1 : Int32} {a2 : Int32} {a3 : Int32} {fl : Nat → Bool} {n1 n2 : Nat} {p q : Bool} {ad : Nat → Nat} {I : mmI} {J : mmJ} {Q : mmQ} (h : (((I 46 8) ≤ a3 → ((a2 = (nI 0) → mm_w Q (mm_wc d) bk_182 2 [some (.ref 46), some (.int (a1 + (nI 1))), none, none] [] ((fl, n1, n2, p, q, ad), I, J)) ∧ (¬ a2 = (nI 0) → Q (some (.int a1)) ((fl, n1, n2, p, q, ad), I, J)))) ∧ (¬ (I 46 8) ≤ a3 → ((a2 = (nI 0) → ((a2 = (nI 0) → mm_w Q (mm_wc d) bk_182 2 [some (.ref 46), some (.int (a1 + (nI 1))), none, none] [] ((fl, n1, n2, p, q, ad), I, J)) ∧ (¬ a2 = (nI 0) → Q (some (.int a1)) ((fl, n1, n2, p, q, ad), I, J)))) ∧ (¬ a2 = (nI 0) → (vp_in (((nI 95) + ((nI 8) * a1)) + a3) 279 ∧ (vp_in a3 8 ∧ ((¬ (I 50 ((((nI 95) + ((nI 8) * a1)) + a3)).toNatClampNeg) = (I 48 a3.toNatClampNeg) → mm_w Q (mm_wc d) bk_182 44 [some (.ref 46), some (.int a1), some (.int (nI 0)), some (.int (a3 + (nI 1)))] [] ((fl, n1, n2, p, q, ad), I, J)) ∧ ((I 50 ((((nI 95) + ((nI 8) * a1)) + a3)).toNatClampNeg) = (I 48 a3.toNatClampNeg) → mm_w Q (mm_wc d) bk_182 44 [some (.ref 46), some (.int a1), some (.int (nI 1)), some (.int (a3 + (nI 1)))] [] ((fl, n1, n2, p, q, ad), I, J)))))))))) : mm_w Q (mm_wc (d)) bk_182 44 [some (.ref 46), some (.int a1), some (.int a2), some (.int a3)] [] ((fl, n1, n2, p, q, ad), I, J) := by
  refine mm_go [2, 44] 80 ?_
  show ((I 46 8) ≤ a3 → _) ∧ (¬ (I 46 8) ≤ a3 → _)
  refine ⟨fun c0 => ?_, fun c0 => ?_⟩
  · show mm_u _ _ _ _ _ _ [some (.ref 46), some (.int a1), some (.int a2), some (.int a3)] [] ((fl, n1, n2, p, q, ad), I, J)
    show (a2 = (nI 0) → _) ∧ (¬ a2 = (nI 0) → _)
    refine ⟨fun c1 => ?_, fun c1 => ?_⟩
    · exact ((h.1 c0).1 c1)
    · exact ((h.1 c0).2 c1)
  · show mm_b _ _ _ _ _ [some (.ref 46), some (.int a1), some (.int a2), some (.int a3)] [] ((fl, n1, n2, p, q, ad), I, J)
    show (a2 = (nI 0) → _) ∧ (¬ a2 = (nI 0) → _)
    refine ⟨fun c1 => ?_, fun c1 => ?_⟩
    · show mm_u _ _ _ _ _ _ [some (.ref 46), some (.int a1), some (.int a2), some (.int a3)] [] ((fl, n1, n2, p, q, ad), I, J)
      show (a2 = (nI 0) → _) ∧ (¬ a2 = (nI 0) → _)
      refine ⟨fun c2 => ?_, fun c2 => ?_⟩
      · exact (((h.2 c0).1 c1).1 c2)
      · exact (((h.2 c0).1 c1).2 c2)
    · show mm_b _ _ _ _ _ [some (.ref 46), some (.int a1), some (.int a2), some (.int a3)] [] ((fl, n1, n2, p, q, ad), I, J)
      show vp_in (((nI 95) + ((nI 8) * a1)) + a3) 279 ∧ _
      refine ⟨((h.2 c0).2 c1).1, ?_⟩
      show mm_b _ _ _ _ _ [some (.ref 46), some (.int a1), some (.int a2), some (.int a3)] [.int (I 50 ((((nI 95) + ((nI 8) * a1)) + a3)).toNatClampNeg)] ((fl, n1, n2, p, q, ad), I, J)
      show vp_in a3 8 ∧ _
      refine ⟨((h.2 c0).2 c1).2.1, ?_⟩
      show mm_b _ _ _ _ _ [some (.ref 46), some (.int a1), some (.int a2), some (.int a3)] [.int (I 48 a3.toNatClampNeg), .int (I 50 ((((nI 95) + ((nI 8) * a1)) + a3)).toNatClampNeg)] ((fl, n1, n2, p, q, ad), I, J)
      show (¬ (I 50 ((((nI 95) + ((nI 8) * a1)) + a3)).toNatClampNeg) = (I 48 a3.toNatClampNeg) → _) ∧ ((I 50 ((((nI 95) + ((nI 8) * a1)) + a3)).toNatClampNeg) = (I 48 a3.toNatClampNeg) → _)
      refine ⟨fun c2 => ?_, fun c2 => ?_⟩
      · exact (((h.2 c0).2 c1).2.2.1 c2)
      · exact (((h.2 c0).2 c1).2.2.2 c2)
/- 183 ThreeBreathsModel newName -/
theorem fx_183 {d : Nat} {x0 : Int32} {fl : Nat → Bool} {n1 n2 : Nat} {p q : Bool} {ad : Nat → Nat} {I : mmI} {J : mmJ} {Q : mmQ} (h : (((I 46 13) = (nI 0) → mm_wc d 181 [.ref 46] ((fl, 0, 0, p, q, ad), I, J) (fun v τ => ∃ I1 J1, v = none ∧ τ = ((fl, 0, 0, p, q, ad), I1, J1) ∧ ((¬ (I1 46 13) = (nI 0) → (((I1 46 13) = (nI 0) → mm_w Q (mm_wc d) bk_183 45 [some (.ref 46), some (.int x0), some (.int (nI 0))] [] ((fl, n1, n2, p, q, ad), I1, J1)) ∧ (¬ (I1 46 13) = (nI 0) → Q none ((fl, n1, n2, p, q, ad), I1, J1)))) ∧ ((I1 46 13) = (nI 0) → mm_wc d 182 [.ref 46] ((fl, 0, 0, p, q, ad), I1, J1) (fun v τ => ∃ r2 I2 J2, v = some (.int r2) ∧ τ = ((fl, 0, 0, p, q, ad), I2, J2) ∧ ((r2 < (nI 0) → (((I2 46 13) = (nI 0) → mm_w Q (mm_wc d) bk_183 45 [some (.ref 46), some (.int x0), some (.int (nI 0))] [] ((fl, n1, n2, p, q, ad), I2, J2)) ∧ (¬ (I2 46 13) = (nI 0) → Q none ((fl, n1, n2, p, q, ad), I2, J2)))) ∧ (¬ r2 < (nI 0) → mm_wc d 177 [.ref 46, .int (nI 3), .int (I2 46 4)] ((fl, 0, 0, p, q, ad), I2, J2) (fun v τ => ∃ I3 J3, v = none ∧ τ = ((fl, 0, 0, p, q, ad), I3, J3) ∧ (((I3 46 13) = (nI 0) → mm_w Q (mm_wc d) bk_183 45 [some (.ref 46), some (.int x0), some (.int (nI 0))] [] ((fl, n1, n2, p, q, ad), I3, J3)) ∧ (¬ (I3 46 13) = (nI 0) → Q none ((fl, n1, n2, p, q, ad), I3, J3))))))))))) ∧ (¬ (I 46 13) = (nI 0) → Q none ((fl, n1, n2, p, q, ad), I, J)))) : mm_wc (d + 1) 183 [.ref 46, .int x0] ((fl, n1, n2, p, q, ad), I, J) Q := by
  refine mm_call (c := 183) rfl rfl ?_
  refine mm_go [45] 80 ?_
  show ((I 46 13) = (nI 0) → _) ∧ (¬ (I 46 13) = (nI 0) → _)
  refine ⟨fun c0 => ?_, fun c0 => ?_⟩
  · show mm_u _ _ _ _ _ _ [some (.ref 46), some (.int x0), none] [] ((fl, n1, n2, p, q, ad), I, J)
    show mm_wc d 181 [.ref 46] ((fl, 0, 0, p, q, ad), I, J) _
    refine mm_wcm (h.1 c0) ?_
    rintro v τ ⟨I1, J1, rfl, rfl, h1⟩
    refine mm_r0' ⟨rfl, ?_⟩
    show mm_b _ _ _ _ _ [some (.ref 46), some (.int x0), none] [] ((fl, n1, n2, p, q, ad), I1, J1)
    show (¬ (I1 46 13) = (nI 0) → _) ∧ ((I1 46 13) = (nI 0) → _)
    refine ⟨fun c1 => ?_, fun c1 => ?_⟩
    · show mm_u _ _ _ _ _ _ [some (.ref 46), some (.int x0), none] [] ((fl, n1, n2, p, q, ad), I1, J1)
      show ((I1 46 13) = (nI 0) → _) ∧ (¬ (I1 46 13) = (nI 0) → _)
      refine ⟨fun c2 => ?_, fun c2 => ?_⟩
      · exact ((h1.1 c1).1 c2)
      · exact ((h1.1 c1).2 c2)
    · show mm_b _ _ _ _ _ [some (.ref 46), some (.int x0), none] [] ((fl, n1, n2, p, q, ad), I1, J1)
      show mm_wc d 182 [.ref 46] ((fl, 0, 0, p, q, ad), I1, J1) _
      refine mm_wcm (h1.2 c1) ?_
      rintro v τ ⟨r2, I2, J2, rfl, rfl, h2⟩
      refine mm_r1' ⟨rfl, ?_⟩
      show mm_b _ _ _ _ _ [some (.ref 46), some (.int x0), none] [.int r2] ((fl, n1, n2, p, q, ad), I2, J2)
      show (r2 < (nI 0) → _) ∧ (¬ r2 < (nI 0) → _)
      refine ⟨fun c2 => ?_, fun c2 => ?_⟩
      · show mm_u _ _ _ _ _ _ [some (.ref 46), some (.int x0), none] [] ((fl, n1, n2, p, q, ad), I2, J2)
        show ((I2 46 13) = (nI 0) → _) ∧ (¬ (I2 46 13) = (nI 0) → _)
        refine ⟨fun c3 => ?_, fun c3 => ?_⟩
        · exact ((h2.1 c2).1 c3)
        · exact ((h2.1 c2).2 c3)
      · show mm_b _ _ _ _ _ [some (.ref 46), some (.int x0), none] [] ((fl, n1, n2, p, q, ad), I2, J2)
        show mm_wc d 177 [.ref 46, .int (nI 3), .int (I2 46 4)] ((fl, 0, 0, p, q, ad), I2, J2) _
        refine mm_wcm (h2.2 c2) ?_
        rintro v τ ⟨I3, J3, rfl, rfl, h3⟩
        refine mm_r0' ⟨rfl, ?_⟩
        show mm_b _ _ _ _ _ [some (.ref 46), some (.int x0), none] [] ((fl, n1, n2, p, q, ad), I3, J3)
        show ((I3 46 13) = (nI 0) → _) ∧ (¬ (I3 46 13) = (nI 0) → _)
        refine ⟨fun c3 => ?_, fun c3 => ?_⟩
        · exact (h3.1 c3)
        · exact (h3.2 c3)
  · exact (h.2 c0)
theorem fx_183_45 {d : Nat} {a1 : Int32} {a2 : Int32} {fl : Nat → Bool} {n1 n2 : Nat} {p q : Bool} {ad : Nat → Nat} {I : mmI} {J : mmJ} {Q : mmQ} (h : (((I 46 8) ≤ a2 → (vp_in ((nI 72) + a1) 279 ∧ mm_wc d 176 [.ref 46] ((fl, 0, 0, p, q, ad), (mm_up I 50 (((nI 72) + a1)).toNatClampNeg (I 46 8)), J) (fun v τ => ∃ I1 J1, v = none ∧ τ = ((fl, 0, 0, p, q, ad), I1, J1) ∧ Q none ((fl, n1, n2, p, q, ad), I1, J1)))) ∧ (¬ (I 46 8) ≤ a2 → (vp_in a2 8 ∧ (vp_in (((nI 95) + ((nI 8) * a1)) + a2) 279 ∧ mm_w Q (mm_wc d) bk_183 45 [some (.ref 46), some (.int a1), some (.int (a2 + (nI 1)))] [] ((fl, n1, n2, p, q, ad), (mm_up I 50 ((((nI 95) + ((nI 8) * a1)) + a2)).toNatClampNeg (I 48 a2.toNatClampNeg)), J)))))) : mm_w Q (mm_wc (d)) bk_183 45 [some (.ref 46), some (.int a1), some (.int a2)] [] ((fl, n1, n2, p, q, ad), I, J) := by
  refine mm_go [45] 80 ?_
  show ((I 46 8) ≤ a2 → _) ∧ (¬ (I 46 8) ≤ a2 → _)
  refine ⟨fun c0 => ?_, fun c0 => ?_⟩
  · show mm_u _ _ _ _ _ _ [some (.ref 46), some (.int a1), some (.int a2)] [] ((fl, n1, n2, p, q, ad), I, J)
    show vp_in ((nI 72) + a1) 279 ∧ _
    refine ⟨(h.1 c0).1, ?_⟩
    show mm_b _ _ _ _ _ [some (.ref 46), some (.int a1), none] [] ((fl, n1, n2, p, q, ad), (mm_up I 50 (((nI 72) + a1)).toNatClampNeg (I 46 8)), J)
    show mm_wc d 176 [.ref 46] ((fl, 0, 0, p, q, ad), (mm_up I 50 (((nI 72) + a1)).toNatClampNeg (I 46 8)), J) _
    refine mm_wcm ((h.1 c0).2) ?_
    rintro v τ ⟨I1, J1, rfl, rfl, h1⟩
    refine mm_r0' ⟨rfl, ?_⟩
    exact h1
  · show mm_b _ _ _ _ _ [some (.ref 46), some (.int a1), some (.int a2)] [] ((fl, n1, n2, p, q, ad), I, J)
    show vp_in a2 8 ∧ _
    refine ⟨(h.2 c0).1, ?_⟩
    show mm_b _ _ _ _ _ [some (.ref 46), some (.int a1), some (.int a2)] [.int (I 48 a2.toNatClampNeg), .int (((nI 95) + ((nI 8) * a1)) + a2), .ref 50] ((fl, n1, n2, p, q, ad), I, J)
    show vp_in (((nI 95) + ((nI 8) * a1)) + a2) 279 ∧ _
    refine ⟨(h.2 c0).2.1, ?_⟩
    exact (h.2 c0).2.2
/- 184 ThreeBreathsModel number -/
theorem fx_184 {d : Nat} {x0 : Int32} {x1 : Int32} {fl : Nat → Bool} {n1 n2 : Nat} {p q : Bool} {ad : Nat → Nat} {I : mmI} {J : mmJ} {Q : mmQ} (h : (((I 46 13) = (nI 0) → (((I 46 6) = (nI 3) → mm_wc d 169 [.int (I 46 7), .int x0, .int x1] ((fl, 0, 0, p, q, ad), I, J) (fun v τ => ∃ r1 I1 J1, v = some (.int r1) ∧ τ = ((fl, 0, 0, p, q, ad), I1, J1) ∧ ((¬ r1 = (nI 0) → mm_wc d 176 [.ref 46] ((fl, 0, 0, p, q, ad), I1, J1) (fun v τ => ∃ I2 J2, v = none ∧ τ = ((fl, 0, 0, p, q, ad), I2, J2) ∧ Q (some (.int (I 46 7))) ((fl, n1, n2, p, q, ad), I2, J2))) ∧ (r1 = (nI 0) → mm_wc d 177 [.ref 46, .int (nI 4), .int (I1 46 4)] ((fl, 0, 0, p, q, ad), I1, J1) (fun v τ => ∃ I3 J3, v = none ∧ τ = ((fl, 0, 0, p, q, ad), I3, J3) ∧ Q (some (.int x0)) ((fl, n1, n2, p, q, ad), I3, J3)))))) ∧ (¬ (I 46 6) = (nI 3) → mm_wc d 177 [.ref 46, .int (nI 1), .int (I 46 4)] ((fl, 0, 0, p, q, ad), I, J) (fun v τ => ∃ I4 J4, v = none ∧ τ = ((fl, 0, 0, p, q, ad), I4, J4) ∧ Q (some (.int x0)) ((fl, n1, n2, p, q, ad), I4, J4))))) ∧ (¬ (I 46 13) = (nI 0) → Q (some (.int x0)) ((fl, n1, n2, p, q, ad), I, J)))) : mm_wc (d + 1) 184 [.ref 46, .int x0, .int x1] ((fl, n1, n2, p, q, ad), I, J) Q := by
  refine mm_call (c := 184) rfl rfl ?_
  refine mm_go [] 80 ?_
  show ((I 46 13) = (nI 0) → _) ∧ (¬ (I 46 13) = (nI 0) → _)
  refine ⟨fun c0 => ?_, fun c0 => ?_⟩
  · show mm_u _ _ _ _ _ _ [some (.ref 46), some (.int x0), some (.int x1), none] [] ((fl, n1, n2, p, q, ad), I, J)
    show ((I 46 6) = (nI 3) → _) ∧ (¬ (I 46 6) = (nI 3) → _)
    refine ⟨fun c1 => ?_, fun c1 => ?_⟩
    · show mm_u _ _ _ _ _ _ [some (.ref 46), some (.int x0), some (.int x1), none] [] ((fl, n1, n2, p, q, ad), I, J)
      show mm_wc d 169 [.int (I 46 7), .int x0, .int x1] ((fl, 0, 0, p, q, ad), I, J) _
      refine mm_wcm ((h.1 c0).1 c1) ?_
      rintro v τ ⟨r1, I1, J1, rfl, rfl, h1⟩
      refine mm_r1' ⟨rfl, ?_⟩
      show mm_b _ _ _ _ _ [some (.ref 46), some (.int x0), some (.int x1), some (.int (I 46 7))] [.int r1] ((fl, n1, n2, p, q, ad), I1, J1)
      show (¬ r1 = (nI 0) → _) ∧ (r1 = (nI 0) → _)
      refine ⟨fun c2 => ?_, fun c2 => ?_⟩
      · show mm_u _ _ _ _ _ _ [some (.ref 46), some (.int x0), some (.int x1), some (.int (I 46 7))] [] ((fl, n1, n2, p, q, ad), I1, J1)
        show mm_wc d 176 [.ref 46] ((fl, 0, 0, p, q, ad), I1, J1) _
        refine mm_wcm (h1.1 c2) ?_
        rintro v τ ⟨I2, J2, rfl, rfl, h2⟩
        refine mm_r0' ⟨rfl, ?_⟩
        exact h2
      · show mm_b _ _ _ _ _ [some (.ref 46), some (.int x0), some (.int x1), some (.int (I 46 7))] [] ((fl, n1, n2, p, q, ad), I1, J1)
        show mm_wc d 177 [.ref 46, .int (nI 4), .int (I1 46 4)] ((fl, 0, 0, p, q, ad), I1, J1) _
        refine mm_wcm (h1.2 c2) ?_
        rintro v τ ⟨I3, J3, rfl, rfl, h3⟩
        refine mm_r0' ⟨rfl, ?_⟩
        exact h3
    · show mm_b _ _ _ _ _ [some (.ref 46), some (.int x0), some (.int x1), none] [] ((fl, n1, n2, p, q, ad), I, J)
      show mm_wc d 177 [.ref 46, .int (nI 1), .int (I 46 4)] ((fl, 0, 0, p, q, ad), I, J) _
      refine mm_wcm ((h.1 c0).2 c1) ?_
      rintro v τ ⟨I4, J4, rfl, rfl, h4⟩
      refine mm_r0' ⟨rfl, ?_⟩
      exact h4
  · exact (h.2 c0)
/- 185 ThreeBreathsModel told -/
theorem fx_185_near {d : Nat} {x1 : Int32} {x2 : Int32} {fl : Nat → Bool} {n1 n2 : Nat} {p q : Bool} {ad : Nat → Nat} {I : mmI} {J : mmJ} {Q : mmQ} (h : mm_wc d 180 [.ref 46, .ref 99] ((fl, 0, 0, p, q, ad), I, J) (fun v τ => ∃ I1 J1, v = none ∧ τ = ((fl, 0, 0, p, q, ad), I1, J1) ∧ mm_wc d 184 [.ref 46, .int x1, .int x2] ((fl, 0, 0, p, q, ad), I1, J1) (fun v τ => ∃ r2 I2 J2, v = some (.int r2) ∧ τ = ((fl, 0, 0, p, q, ad), I2, J2) ∧ Q (some (.int r2)) ((fl, n1, n2, p, q, ad), I2, J2)))) : mm_wc (d + 1) 185 [.ref 46, .ref 99, .int x1, .int x2] ((fl, n1, n2, p, q, ad), I, J) Q := by
  refine mm_call (c := 185) rfl rfl ?_
  refine mm_go [] 80 ?_
  show mm_wc d 180 [.ref 46, .ref 99] ((fl, 0, 0, p, q, ad), I, J) _
  refine mm_wcm h ?_
  rintro v τ ⟨I1, J1, rfl, rfl, h1⟩
  refine mm_r0' ⟨rfl, ?_⟩
  show mm_b _ _ _ _ _ [some (.ref 46), some (.ref 99), some (.int x1), some (.int x2)] [] ((fl, n1, n2, p, q, ad), I1, J1)
  show mm_wc d 184 [.ref 46, .int x1, .int x2] ((fl, 0, 0, p, q, ad), I1, J1) _
  refine mm_wcm h1 ?_
  rintro v τ ⟨r2, I2, J2, rfl, rfl, h2⟩
  refine mm_r1' ⟨rfl, ?_⟩
  exact h2
/- 185 ThreeBreathsModel told -/
theorem fx_185_wax {d : Nat} {x1 : Int32} {x2 : Int32} {fl : Nat → Bool} {n1 n2 : Nat} {p q : Bool} {ad : Nat → Nat} {I : mmI} {J : mmJ} {Q : mmQ} (h : mm_wc d 180 [.ref 46, .ref 100] ((fl, 0, 0, p, q, ad), I, J) (fun v τ => ∃ I1 J1, v = none ∧ τ = ((fl, 0, 0, p, q, ad), I1, J1) ∧ mm_wc d 184 [.ref 46, .int x1, .int x2] ((fl, 0, 0, p, q, ad), I1, J1) (fun v τ => ∃ r2 I2 J2, v = some (.int r2) ∧ τ = ((fl, 0, 0, p, q, ad), I2, J2) ∧ Q (some (.int r2)) ((fl, n1, n2, p, q, ad), I2, J2)))) : mm_wc (d + 1) 185 [.ref 46, .ref 100, .int x1, .int x2] ((fl, n1, n2, p, q, ad), I, J) Q := by
  refine mm_call (c := 185) rfl rfl ?_
  refine mm_go [] 80 ?_
  show mm_wc d 180 [.ref 46, .ref 100] ((fl, 0, 0, p, q, ad), I, J) _
  refine mm_wcm h ?_
  rintro v τ ⟨I1, J1, rfl, rfl, h1⟩
  refine mm_r0' ⟨rfl, ?_⟩
  show mm_b _ _ _ _ _ [some (.ref 46), some (.ref 100), some (.int x1), some (.int x2)] [] ((fl, n1, n2, p, q, ad), I1, J1)
  show mm_wc d 184 [.ref 46, .int x1, .int x2] ((fl, 0, 0, p, q, ad), I1, J1) _
  refine mm_wcm h1 ?_
  rintro v τ ⟨r2, I2, J2, rfl, rfl, h2⟩
  refine mm_r1' ⟨rfl, ?_⟩
  exact h2
/- 185 ThreeBreathsModel told -/
theorem fx_185_at {d : Nat} {x1 : Int32} {x2 : Int32} {fl : Nat → Bool} {n1 n2 : Nat} {p q : Bool} {ad : Nat → Nat} {I : mmI} {J : mmJ} {Q : mmQ} (h : mm_wc d 180 [.ref 46, .ref 108] ((fl, 0, 0, p, q, ad), I, J) (fun v τ => ∃ I1 J1, v = none ∧ τ = ((fl, 0, 0, p, q, ad), I1, J1) ∧ mm_wc d 184 [.ref 46, .int x1, .int x2] ((fl, 0, 0, p, q, ad), I1, J1) (fun v τ => ∃ r2 I2 J2, v = some (.int r2) ∧ τ = ((fl, 0, 0, p, q, ad), I2, J2) ∧ Q (some (.int r2)) ((fl, n1, n2, p, q, ad), I2, J2)))) : mm_wc (d + 1) 185 [.ref 46, .ref 108, .int x1, .int x2] ((fl, n1, n2, p, q, ad), I, J) Q := by
  refine mm_call (c := 185) rfl rfl ?_
  refine mm_go [] 80 ?_
  show mm_wc d 180 [.ref 46, .ref 108] ((fl, 0, 0, p, q, ad), I, J) _
  refine mm_wcm h ?_
  rintro v τ ⟨I1, J1, rfl, rfl, h1⟩
  refine mm_r0' ⟨rfl, ?_⟩
  show mm_b _ _ _ _ _ [some (.ref 46), some (.ref 108), some (.int x1), some (.int x2)] [] ((fl, n1, n2, p, q, ad), I1, J1)
  show mm_wc d 184 [.ref 46, .int x1, .int x2] ((fl, 0, 0, p, q, ad), I1, J1) _
  refine mm_wcm h1 ?_
  rintro v τ ⟨r2, I2, J2, rfl, rfl, h2⟩
  refine mm_r1' ⟨rfl, ?_⟩
  exact h2
/- 185 ThreeBreathsModel told -/
theorem fx_185_reach {d : Nat} {x1 : Int32} {x2 : Int32} {fl : Nat → Bool} {n1 n2 : Nat} {p q : Bool} {ad : Nat → Nat} {I : mmI} {J : mmJ} {Q : mmQ} (h : mm_wc d 180 [.ref 46, .ref 113] ((fl, 0, 0, p, q, ad), I, J) (fun v τ => ∃ I1 J1, v = none ∧ τ = ((fl, 0, 0, p, q, ad), I1, J1) ∧ mm_wc d 184 [.ref 46, .int x1, .int x2] ((fl, 0, 0, p, q, ad), I1, J1) (fun v τ => ∃ r2 I2 J2, v = some (.int r2) ∧ τ = ((fl, 0, 0, p, q, ad), I2, J2) ∧ Q (some (.int r2)) ((fl, n1, n2, p, q, ad), I2, J2)))) : mm_wc (d + 1) 185 [.ref 46, .ref 113, .int x1, .int x2] ((fl, n1, n2, p, q, ad), I, J) Q := by
  refine mm_call (c := 185) rfl rfl ?_
  refine mm_go [] 80 ?_
  show mm_wc d 180 [.ref 46, .ref 113] ((fl, 0, 0, p, q, ad), I, J) _
  refine mm_wcm h ?_
  rintro v τ ⟨I1, J1, rfl, rfl, h1⟩
  refine mm_r0' ⟨rfl, ?_⟩
  show mm_b _ _ _ _ _ [some (.ref 46), some (.ref 113), some (.int x1), some (.int x2)] [] ((fl, n1, n2, p, q, ad), I1, J1)
  show mm_wc d 184 [.ref 46, .int x1, .int x2] ((fl, 0, 0, p, q, ad), I1, J1) _
  refine mm_wcm h1 ?_
  rintro v τ ⟨r2, I2, J2, rfl, rfl, h2⟩
  refine mm_r1' ⟨rfl, ?_⟩
  exact h2
/- 185 ThreeBreathsModel told -/
theorem fx_185_spread {d : Nat} {x1 : Int32} {x2 : Int32} {fl : Nat → Bool} {n1 n2 : Nat} {p q : Bool} {ad : Nat → Nat} {I : mmI} {J : mmJ} {Q : mmQ} (h : mm_wc d 180 [.ref 46, .ref 114] ((fl, 0, 0, p, q, ad), I, J) (fun v τ => ∃ I1 J1, v = none ∧ τ = ((fl, 0, 0, p, q, ad), I1, J1) ∧ mm_wc d 184 [.ref 46, .int x1, .int x2] ((fl, 0, 0, p, q, ad), I1, J1) (fun v τ => ∃ r2 I2 J2, v = some (.int r2) ∧ τ = ((fl, 0, 0, p, q, ad), I2, J2) ∧ Q (some (.int r2)) ((fl, n1, n2, p, q, ad), I2, J2)))) : mm_wc (d + 1) 185 [.ref 46, .ref 114, .int x1, .int x2] ((fl, n1, n2, p, q, ad), I, J) Q := by
  refine mm_call (c := 185) rfl rfl ?_
  refine mm_go [] 80 ?_
  show mm_wc d 180 [.ref 46, .ref 114] ((fl, 0, 0, p, q, ad), I, J) _
  refine mm_wcm h ?_
  rintro v τ ⟨I1, J1, rfl, rfl, h1⟩
  refine mm_r0' ⟨rfl, ?_⟩
  show mm_b _ _ _ _ _ [some (.ref 46), some (.ref 114), some (.int x1), some (.int x2)] [] ((fl, n1, n2, p, q, ad), I1, J1)
  show mm_wc d 184 [.ref 46, .int x1, .int x2] ((fl, 0, 0, p, q, ad), I1, J1) _
  refine mm_wcm h1 ?_
  rintro v τ ⟨r2, I2, J2, rfl, rfl, h2⟩
  refine mm_r1' ⟨rfl, ?_⟩
  exact h2
/- 186 ThreeBreathsModel comma -/
theorem fx_186 {d : Nat} {fl : Nat → Bool} {n1 n2 : Nat} {p q : Bool} {ad : Nat → Nat} {I : mmI} {J : mmJ} {Q : mmQ} (h : ((¬ (I 46 13) = (nI 0) → Q (some (.int (nI 0))) ((fl, n1, n2, p, q, ad), I, J)) ∧ ((I 46 13) = (nI 0) → (((I 46 6) = (nI 44) → mm_wc d 176 [.ref 46] ((fl, 0, 0, p, q, ad), I, J) (fun v τ => ∃ I1 J1, v = none ∧ τ = ((fl, 0, 0, p, q, ad), I1, J1) ∧ Q (some (.int (nI 1))) ((fl, n1, n2, p, q, ad), I1, J1))) ∧ (¬ (I 46 6) = (nI 44) → Q (some (.int (nI 0))) ((fl, n1, n2, p, q, ad), I, J)))))) : mm_wc (d + 1) 186 [.ref 46] ((fl, n1, n2, p, q, ad), I, J) Q := by
  refine mm_call (c := 186) rfl rfl ?_
  refine mm_go [] 80 ?_
  show (¬ (I 46 13) = (nI 0) → _) ∧ ((I 46 13) = (nI 0) → _)
  refine ⟨fun c0 => ?_, fun c0 => ?_⟩
  · show mm_u _ _ _ _ _ _ [some (.ref 46)] [] ((fl, n1, n2, p, q, ad), I, J)
    show (((nI 0) : Int32) = 0 ∨ ((nI 0) : Int32) = 1) ∧ _
    refine ⟨(by decide), ?_⟩
    exact (h.1 c0)
  · show mm_b _ _ _ _ _ [some (.ref 46)] [] ((fl, n1, n2, p, q, ad), I, J)
    show ((I 46 6) = (nI 44) → _) ∧ (¬ (I 46 6) = (nI 44) → _)
    refine ⟨fun c1 => ?_, fun c1 => ?_⟩
    · show mm_u _ _ _ _ _ _ [some (.ref 46)] [] ((fl, n1, n2, p, q, ad), I, J)
      show mm_wc d 176 [.ref 46] ((fl, 0, 0, p, q, ad), I, J) _
      refine mm_wcm ((h.2 c0).1 c1) ?_
      rintro v τ ⟨I1, J1, rfl, rfl, h1⟩
      refine mm_r0' ⟨rfl, ?_⟩
      show mm_b _ _ _ _ _ [some (.ref 46)] [] ((fl, n1, n2, p, q, ad), I1, J1)
      show (((nI 1) : Int32) = 0 ∨ ((nI 1) : Int32) = 1) ∧ _
      refine ⟨(by decide), ?_⟩
      exact h1
    · show mm_b _ _ _ _ _ [some (.ref 46)] [] ((fl, n1, n2, p, q, ad), I, J)
      show (((nI 0) : Int32) = 0 ∨ ((nI 0) : Int32) = 1) ∧ _
      refine ⟨(by decide), ?_⟩
      exact ((h.2 c0).2 c1)
/- 187 ThreeBreathsModel mustComma -/
theorem fx_187 {d : Nat} {fl : Nat → Bool} {n1 n2 : Nat} {p q : Bool} {ad : Nat → Nat} {I : mmI} {J : mmJ} {Q : mmQ} (h : ((¬ (I 46 13) = (nI 0) → Q none ((fl, n1, n2, p, q, ad), I, J)) ∧ ((I 46 13) = (nI 0) → mm_wc d 186 [.ref 46] ((fl, 0, 0, p, q, ad), I, J) (fun v τ => ∃ r1 I1 J1, v = some (.int r1) ∧ τ = ((fl, 0, 0, p, q, ad), I1, J1) ∧ ((¬ r1 = (nI 0) → Q none ((fl, n1, n2, p, q, ad), I1, J1)) ∧ (r1 = (nI 0) → mm_wc d 177 [.ref 46, .int (nI 1), .int (I1 46 4)] ((fl, 0, 0, p, q, ad), I1, J1) (fun v τ => ∃ I2 J2, v = none ∧ τ = ((fl, 0, 0, p, q, ad), I2, J2) ∧ Q none ((fl, n1, n2, p, q, ad), I2, J2)))))))) : mm_wc (d + 1) 187 [.ref 46] ((fl, n1, n2, p, q, ad), I, J) Q := by
  refine mm_call (c := 187) rfl rfl ?_
  refine mm_go [] 80 ?_
  show (¬ (I 46 13) = (nI 0) → _) ∧ ((I 46 13) = (nI 0) → _)
  refine ⟨fun c0 => ?_, fun c0 => ?_⟩
  · exact (h.1 c0)
  · show mm_b _ _ _ _ _ [some (.ref 46)] [] ((fl, n1, n2, p, q, ad), I, J)
    show mm_wc d 186 [.ref 46] ((fl, 0, 0, p, q, ad), I, J) _
    refine mm_wcm (h.2 c0) ?_
    rintro v τ ⟨r1, I1, J1, rfl, rfl, h1⟩
    refine mm_r1' ⟨rfl, ?_⟩
    show mm_b _ _ _ _ _ [some (.ref 46)] [.int r1] ((fl, n1, n2, p, q, ad), I1, J1)
    show (¬ r1 = (nI 0) → _) ∧ (r1 = (nI 0) → _)
    refine ⟨fun c1 => ?_, fun c1 => ?_⟩
    · exact (h1.1 c1)
    · show mm_b _ _ _ _ _ [some (.ref 46)] [] ((fl, n1, n2, p, q, ad), I1, J1)
      show mm_wc d 177 [.ref 46, .int (nI 1), .int (I1 46 4)] ((fl, 0, 0, p, q, ad), I1, J1) _
      refine mm_wcm (h1.2 c1) ?_
      rintro v τ ⟨I2, J2, rfl, rfl, h2⟩
      refine mm_r0' ⟨rfl, ?_⟩
      exact h2
/- 188 ThreeBreathsModel cake -/
theorem fx_188 {d : Nat} {x0 : Int32} {fl : Nat → Bool} {n1 n2 : Nat} {p q : Bool} {ad : Nat → Nat} {I : mmI} {J : mmJ} {Q : mmQ} (h : mm_wc d 166 [.ref 46] ((fl, 0, 0, p, q, ad), I, J) (fun v τ => ∃ I1 J1, v = none ∧ τ = ((fl, 0, 0, p, q, ad), I1, J1) ∧ mm_wc d 169 [.int x0, .int (nI 0), .int (I1 46 2)] ((fl, 0, 0, p, q, ad), I1, J1) (fun v τ => ∃ r2 I2 J2, v = some (.int r2) ∧ τ = ((fl, 0, 0, p, q, ad), I2, J2) ∧ ((¬ r2 = (nI 0) → mm_w Q (mm_wc d) bk_188 39 [some (.ref 46), some (.int x0), some (.int (nI 0))] [] ((fl, n1, n2, p, q, ad), (mm_up (mm_up (mm_up I2 46 2 (nI 0)) 46 9 (nI 0)) 46 13 (nI 0)), J2)) ∧ (r2 = (nI 0) → mm_wc d 167 [.ref 46, .int (nI 2)] ((fl, 0, 0, p, q, ad), I2, J2) (fun v τ => ∃ r3 I3 J3, v = some (.int r3) ∧ τ = ((fl, 0, 0, p, q, ad), I3, J3) ∧ Q (some (.int r3)) ((fl, n1, n2, p, q, ad), I3, J3))))))) : mm_wc (d + 1) 188 [.ref 46, .int x0] ((fl, n1, n2, p, q, ad), I, J) Q := by
  refine mm_call (c := 188) rfl rfl ?_
  refine mm_go [39, 77, 196] 80 ?_
  show mm_wc d 166 [.ref 46] ((fl, 0, 0, p, q, ad), I, J) _
  refine mm_wcm h ?_
  rintro v τ ⟨I1, J1, rfl, rfl, h1⟩
  refine mm_r0' ⟨rfl, ?_⟩
  show mm_b _ _ _ _ _ [some (.ref 46), some (.int x0), none] [] ((fl, n1, n2, p, q, ad), I1, J1)
  show mm_wc d 169 [.int x0, .int (nI 0), .int (I1 46 2)] ((fl, 0, 0, p, q, ad), I1, J1) _
  refine mm_wcm h1 ?_
  rintro v τ ⟨r2, I2, J2, rfl, rfl, h2⟩
  refine mm_r1' ⟨rfl, ?_⟩
  show mm_b _ _ _ _ _ [some (.ref 46), some (.int x0), none] [.int r2] ((fl, n1, n2, p, q, ad), I2, J2)
  show (¬ r2 = (nI 0) → _) ∧ (r2 = (nI 0) → _)
  refine ⟨fun c0 => ?_, fun c0 => ?_⟩
  · show mm_u _ _ _ _ _ _ [some (.ref 46), some (.int x0), none] [] ((fl, n1, n2, p, q, ad), I2, J2)
    show (((nI 0) : Int32) = 0 ∨ ((nI 0) : Int32) = 1) ∧ _
    refine ⟨(by decide), ?_⟩
    exact (h2.1 c0)
  · show mm_b _ _ _ _ _ [some (.ref 46), some (.int x0), none] [] ((fl, n1, n2, p, q, ad), I2, J2)
    show mm_wc d 167 [.ref 46, .int (nI 2)] ((fl, 0, 0, p, q, ad), I2, J2) _
    refine mm_wcm (h2.2 c0) ?_
    rintro v τ ⟨r3, I3, J3, rfl, rfl, h3⟩
    refine mm_r1' ⟨rfl, ?_⟩
    exact h3
theorem fx_188_39 {d : Nat} {a1 : Int32} {a2 : Int32} {fl : Nat → Bool} {n1 n2 : Nat} {p q : Bool} {ad : Nat → Nat} {I : mmI} {J : mmJ} {Q : mmQ} (h : (((nI 279) ≤ a2 → mm_wc d 176 [.ref 46] ((fl, 0, 0, p, q, ad), (mm_up (mm_up I 46 3 a1) 46 5 (nI 0)), J) (fun v τ => ∃ I1 J1, v = none ∧ τ = ((fl, 0, 0, p, q, ad), I1, J1) ∧ mm_wc d 190 [.ref 46] ((fl, 0, 0, p, q, ad), I1, J1) (fun v τ => ∃ I2 J2, v = none ∧ τ = ((fl, 0, 0, p, q, ad), I2, J2) ∧ mm_w Q (mm_wc d) bk_188 77 [some (.ref 46), none, none] [] ((fl, n1, n2, p, q, ad), I2, J2)))) ∧ (¬ (nI 279) ≤ a2 → (vp_in a2 279 ∧ mm_w Q (mm_wc d) bk_188 39 [some (.ref 46), some (.int a1), some (.int (a2 + (nI 1)))] [] ((fl, n1, n2, p, q, ad), (mm_up I 50 a2.toNatClampNeg (nI 0)), J))))) : mm_w Q (mm_wc (d)) bk_188 39 [some (.ref 46), some (.int a1), some (.int a2)] [] ((fl, n1, n2, p, q, ad), I, J) := by
  refine mm_go [39, 77, 196] 80 ?_
  show ((nI 279) ≤ a2 → _) ∧ (¬ (nI 279) ≤ a2 → _)
  refine ⟨fun c0 => ?_, fun c0 => ?_⟩
  · show mm_u _ _ _ _ _ _ [some (.ref 46), some (.int a1), some (.int a2)] [] ((fl, n1, n2, p, q, ad), I, J)
    show mm_wc d 176 [.ref 46] ((fl, 0, 0, p, q, ad), (mm_up (mm_up I 46 3 a1) 46 5 (nI 0)), J) _
    refine mm_wcm (h.1 c0) ?_
    rintro v τ ⟨I1, J1, rfl, rfl, h1⟩
    refine mm_r0' ⟨rfl, ?_⟩
    show mm_b _ _ _ _ _ [some (.ref 46), some (.int a1), none] [] ((fl, n1, n2, p, q, ad), I1, J1)
    show mm_wc d 190 [.ref 46] ((fl, 0, 0, p, q, ad), I1, J1) _
    refine mm_wcm h1 ?_
    rintro v τ ⟨I2, J2, rfl, rfl, h2⟩
    refine mm_r0' ⟨rfl, ?_⟩
    exact h2
  · show mm_b _ _ _ _ _ [some (.ref 46), some (.int a1), some (.int a2)] [] ((fl, n1, n2, p, q, ad), I, J)
    show vp_in a2 279 ∧ _
    refine ⟨(h.2 c0).1, ?_⟩
    exact (h.2 c0).2
theorem fx_188_77 {d : Nat} {fl : Nat → Bool} {n1 n2 : Nat} {p q : Bool} {ad : Nat → Nat} {I : mmI} {J : mmJ} {Q : mmQ} (h : ((¬ (I 46 13) = (nI 0) → ((¬ (I 46 13) = (nI 0) → ((¬ (I 46 13) = (nI 0) → (((I 46 13) = (nI 0) → mm_w Q (mm_wc d) bk_188 196 [some (.ref 46), none, some (.int (nI 0))] [] ((fl, n1, n2, p, q, ad), I, J)) ∧ (¬ (I 46 13) = (nI 0) → mm_wc d 167 [.ref 46, .int (nI 4)] ((fl, 0, 0, p, q, ad), I, J) (fun v τ => ∃ r1 I1 J1, v = some (.int r1) ∧ τ = ((fl, 0, 0, p, q, ad), I1, J1) ∧ Q (some (.int r1)) ((fl, n1, n2, p, q, ad), I1, J1))))) ∧ ((I 46 13) = (nI 0) → (((I 50 0) = (nI 0) → mm_wc d 177 [.ref 46, .int (nI 6), .int (I 46 4)] ((fl, 0, 0, p, q, ad), I, J) (fun v τ => ∃ I2 J2, v = none ∧ τ = ((fl, 0, 0, p, q, ad), I2, J2) ∧ (((I2 46 13) = (nI 0) → mm_w Q (mm_wc d) bk_188 196 [some (.ref 46), none, some (.int (nI 0))] [] ((fl, n1, n2, p, q, ad), I2, J2)) ∧ (¬ (I2 46 13) = (nI 0) → mm_wc d 167 [.ref 46, .int (nI 4)] ((fl, 0, 0, p, q, ad), I2, J2) (fun v τ => ∃ r3 I3 J3, v = some (.int r3) ∧ τ = ((fl, 0, 0, p, q, ad), I3, J3) ∧ Q (some (.int r3)) ((fl, n1, n2, p, q, ad), I3, J3)))))) ∧ (¬ (I 50 0) = (nI 0) → (((I 50 3) = (nI 0) → mm_wc d 177 [.ref 46, .int (nI 6), .int (I 46 4)] ((fl, 0, 0, p, q, ad), I, J) (fun v τ => ∃ I4 J4, v = none ∧ τ = ((fl, 0, 0, p, q, ad), I4, J4) ∧ (((I4 46 13) = (nI 0) → mm_w Q (mm_wc d) bk_188 196 [some (.ref 46), none, some (.int (nI 0))] [] ((fl, n1, n2, p, q, ad), I4, J4)) ∧ (¬ (I4 46 13) = (nI 0) → mm_wc d 167 [.ref 46, .int (nI 4)] ((fl, 0, 0, p, q, ad), I4, J4) (fun v τ => ∃ r5 I5 J5, v = some (.int r5) ∧ τ = ((fl, 0, 0, p, q, ad), I5, J5) ∧ Q (some (.int r5)) ((fl, n1, n2, p, q, ad), I5, J5)))))) ∧ (¬ (I 50 3) = (nI 0) → (((I 50 4) = (nI 0) → mm_wc d 177 [.ref 46, .int (nI 6), .int (I 46 4)] ((fl, 0, 0, p, q, ad), I, J) (fun v τ => ∃ I6 J6, v = none ∧ τ = ((fl, 0, 0, p, q, ad), I6, J6) ∧ (((I6 46 13) = (nI 0) → mm_w Q (mm_wc d) bk_188 196 [some (.ref 46), none, some (.int (nI 0))] [] ((fl, n1, n2, p, q, ad), I6, J6)) ∧ (¬ (I6 46 13) = (nI 0) → mm_wc d 167 [.ref 46, .int (nI 4)] ((fl, 0, 0, p, q, ad), I6, J6) (fun v τ => ∃ r7 I7 J7, v = some (.int r7) ∧ τ = ((fl, 0, 0, p, q, ad), I7, J7) ∧ Q (some (.int r7)) ((fl, n1, n2, p, q, ad), I7, J7)))))) ∧ (¬ (I 50 4) = (nI 0) → ((¬ (I 50 6) = (nI 0) → (((I 46 13) = (nI 0) → mm_w Q (mm_wc d) bk_188 196 [some (.ref 46), none, some (.int (nI 0))] [] ((fl, n1, n2, p, q, ad), I, J)) ∧ (¬ (I 46 13) = (nI 0) → mm_wc d 167 [.ref 46, .int (nI 4)] ((fl, 0, 0, p, q, ad), I, J) (fun v τ => ∃ r8 I8 J8, v = some (.int r8) ∧ τ = ((fl, 0, 0, p, q, ad), I8, J8) ∧ Q (some (.int r8)) ((fl, n1, n2, p, q, ad), I8, J8))))) ∧ ((I 50 6) = (nI 0) → mm_wc d 177 [.ref 46, .int (nI 6), .int (I 46 4)] ((fl, 0, 0, p, q, ad), I, J) (fun v τ => ∃ I9 J9, v = none ∧ τ = ((fl, 0, 0, p, q, ad), I9, J9) ∧ (((I9 46 13) = (nI 0) → mm_w Q (mm_wc d) bk_188 196 [some (.ref 46), none, some (.int (nI 0))] [] ((fl, n1, n2, p, q, ad), I9, J9)) ∧ (¬ (I9 46 13) = (nI 0) → mm_wc d 167 [.ref 46, .int (nI 4)] ((fl, 0, 0, p, q, ad), I9, J9) (fun v τ => ∃ r10 I10 J10, v = some (.int r10) ∧ τ = ((fl, 0, 0, p, q, ad), I10, J10) ∧ Q (some (.int r10)) ((fl, n1, n2, p, q, ad), I10, J10)))))))))))))))) ∧ ((I 46 13) = (nI 0) → (((I 46 6) = (nI 0) → ((¬ (I 46 13) = (nI 0) → (((I 46 13) = (nI 0) → mm_w Q (mm_wc d) bk_188 196 [some (.ref 46), none, some (.int (nI 0))] [] ((fl, n1, n2, p, q, ad), I, J)) ∧ (¬ (I 46 13) = (nI 0) → mm_wc d 167 [.ref 46, .int (nI 4)] ((fl, 0, 0, p, q, ad), I, J) (fun v τ => ∃ r11 I11 J11, v = some (.int r11) ∧ τ = ((fl, 0, 0, p, q, ad), I11, J11) ∧ Q (some (.int r11)) ((fl, n1, n2, p, q, ad), I11, J11))))) ∧ ((I 46 13) = (nI 0) → (((I 50 0) = (nI 0) → mm_wc d 177 [.ref 46, .int (nI 6), .int (I 46 4)] ((fl, 0, 0, p, q, ad), I, J) (fun v τ => ∃ I12 J12, v = none ∧ τ = ((fl, 0, 0, p, q, ad), I12, J12) ∧ (((I12 46 13) = (nI 0) → mm_w Q (mm_wc d) bk_188 196 [some (.ref 46), none, some (.int (nI 0))] [] ((fl, n1, n2, p, q, ad), I12, J12)) ∧ (¬ (I12 46 13) = (nI 0) → mm_wc d 167 [.ref 46, .int (nI 4)] ((fl, 0, 0, p, q, ad), I12, J12) (fun v τ => ∃ r13 I13 J13, v = some (.int r13) ∧ τ = ((fl, 0, 0, p, q, ad), I13, J13) ∧ Q (some (.int r13)) ((fl, n1, n2, p, q, ad), I13, J13)))))) ∧ (¬ (I 50 0) = (nI 0) → (((I 50 3) = (nI 0) → mm_wc d 177 [.ref 46, .int (nI 6), .int (I 46 4)] ((fl, 0, 0, p, q, ad), I, J) (fun v τ => ∃ I14 J14, v = none ∧ τ = ((fl, 0, 0, p, q, ad), I14, J14) ∧ (((I14 46 13) = (nI 0) → mm_w Q (mm_wc d) bk_188 196 [some (.ref 46), none, some (.int (nI 0))] [] ((fl, n1, n2, p, q, ad), I14, J14)) ∧ (¬ (I14 46 13) = (nI 0) → mm_wc d 167 [.ref 46, .int (nI 4)] ((fl, 0, 0, p, q, ad), I14, J14) (fun v τ => ∃ r15 I15 J15, v = some (.int r15) ∧ τ = ((fl, 0, 0, p, q, ad), I15, J15) ∧ Q (some (.int r15)) ((fl, n1, n2, p, q, ad), I15, J15)))))) ∧ (¬ (I 50 3) = (nI 0) → (((I 50 4) = (nI 0) → mm_wc d 177 [.ref 46, .int (nI 6), .int (I 46 4)] ((fl, 0, 0, p, q, ad), I, J) (fun v τ => ∃ I16 J16, v = none ∧ τ = ((fl, 0, 0, p, q, ad), I16, J16) ∧ (((I16 46 13) = (nI 0) → mm_w Q (mm_wc d) bk_188 196 [some (.ref 46), none, some (.int (nI 0))] [] ((fl, n1, n2, p, q, ad), I16, J16)) ∧ (¬ (I16 46 13) = (nI 0) → mm_wc d 167 [.ref 46, .int (nI 4)] ((fl, 0, 0, p, q, ad), I16, J16) (fun v τ => ∃ r17 I17 J17, v = some (.int r17) ∧ τ = ((fl, 0, 0, p, q, ad), I17, J17) ∧ Q (some (.int r17)) ((fl, n1, n2, p, q, ad), I17, J17)))))) ∧ (¬ (I 50 4) = (nI 0) → ((¬ (I 50 6) = (nI 0) → (((I 46 13) = (nI 0) → mm_w Q (mm_wc d) bk_188 196 [some (.ref 46), none, some (.int (nI 0))] [] ((fl, n1, n2, p, q, ad), I, J)) ∧ (¬ (I 46 13) = (nI 0) → mm_wc d 167 [.ref 46, .int (nI 4)] ((fl, 0, 0, p, q, ad), I, J) (fun v τ => ∃ r18 I18 J18, v = some (.int r18) ∧ τ = ((fl, 0, 0, p, q, ad), I18, J18) ∧ Q (some (.int r18)) ((fl, n1, n2, p, q, ad), I18, J18))))) ∧ ((I 50 6) = (nI 0) → mm_wc d 177 [.ref 46, .int (nI 6), .int (I 46 4)] ((fl, 0, 0, p, q, ad), I, J) (fun v τ => ∃ I19 J19, v = none ∧ τ = ((fl, 0, 0, p, q, ad), I19, J19) ∧ (((I19 46 13) = (nI 0) → mm_w Q (mm_wc d) bk_188 196 [some (.ref 46), none, some (.int (nI 0))] [] ((fl, n1, n2, p, q, ad), I19, J19)) ∧ (¬ (I19 46 13) = (nI 0) → mm_wc d 167 [.ref 46, .int (nI 4)] ((fl, 0, 0, p, q, ad), I19, J19) (fun v τ => ∃ r20 I20 J20, v = some (.int r20) ∧ τ = ((fl, 0, 0, p, q, ad), I20, J20) ∧ Q (some (.int r20)) ((fl, n1, n2, p, q, ad), I20, J20)))))))))))))))) ∧ (¬ (I 46 6) = (nI 0) → mm_wc d 177 [.ref 46, .int (nI 1), .int (I 46 4)] ((fl, 0, 0, p, q, ad), I, J) (fun v τ => ∃ I21 J21, v = none ∧ τ = ((fl, 0, 0, p, q, ad), I21, J21) ∧ ((¬ (I21 46 13) = (nI 0) → (((I21 46 13) = (nI 0) → mm_w Q (mm_wc d) bk_188 196 [some (.ref 46), none, some (.int (nI 0))] [] ((fl, n1, n2, p, q, ad), I21, J21)) ∧ (¬ (I21 46 13) = (nI 0) → mm_wc d 167 [.ref 46, .int (nI 4)] ((fl, 0, 0, p, q, ad), I21, J21) (fun v τ => ∃ r22 I22 J22, v = some (.int r22) ∧ τ = ((fl, 0, 0, p, q, ad), I22, J22) ∧ Q (some (.int r22)) ((fl, n1, n2, p, q, ad), I22, J22))))) ∧ ((I21 46 13) = (nI 0) → (((I21 50 0) = (nI 0) → mm_wc d 177 [.ref 46, .int (nI 6), .int (I21 46 4)] ((fl, 0, 0, p, q, ad), I21, J21) (fun v τ => ∃ I23 J23, v = none ∧ τ = ((fl, 0, 0, p, q, ad), I23, J23) ∧ (((I23 46 13) = (nI 0) → mm_w Q (mm_wc d) bk_188 196 [some (.ref 46), none, some (.int (nI 0))] [] ((fl, n1, n2, p, q, ad), I23, J23)) ∧ (¬ (I23 46 13) = (nI 0) → mm_wc d 167 [.ref 46, .int (nI 4)] ((fl, 0, 0, p, q, ad), I23, J23) (fun v τ => ∃ r24 I24 J24, v = some (.int r24) ∧ τ = ((fl, 0, 0, p, q, ad), I24, J24) ∧ Q (some (.int r24)) ((fl, n1, n2, p, q, ad), I24, J24)))))) ∧ (¬ (I21 50 0) = (nI 0) → (((I21 50 3) = (nI 0) → mm_wc d 177 [.ref 46, .int (nI 6), .int (I21 46 4)] ((fl, 0, 0, p, q, ad), I21, J21) (fun v τ => ∃ I25 J25, v = none ∧ τ = ((fl, 0, 0, p, q, ad), I25, J25) ∧ (((I25 46 13) = (nI 0) → mm_w Q (mm_wc d) bk_188 196 [some (.ref 46), none, some (.int (nI 0))] [] ((fl, n1, n2, p, q, ad), I25, J25)) ∧ (¬ (I25 46 13) = (nI 0) → mm_wc d 167 [.ref 46, .int (nI 4)] ((fl, 0, 0, p, q, ad), I25, J25) (fun v τ => ∃ r26 I26 J26, v = some (.int r26) ∧ τ = ((fl, 0, 0, p, q, ad), I26, J26) ∧ Q (some (.int r26)) ((fl, n1, n2, p, q, ad), I26, J26)))))) ∧ (¬ (I21 50 3) = (nI 0) → (((I21 50 4) = (nI 0) → mm_wc d 177 [.ref 46, .int (nI 6), .int (I21 46 4)] ((fl, 0, 0, p, q, ad), I21, J21) (fun v τ => ∃ I27 J27, v = none ∧ τ = ((fl, 0, 0, p, q, ad), I27, J27) ∧ (((I27 46 13) = (nI 0) → mm_w Q (mm_wc d) bk_188 196 [some (.ref 46), none, some (.int (nI 0))] [] ((fl, n1, n2, p, q, ad), I27, J27)) ∧ (¬ (I27 46 13) = (nI 0) → mm_wc d 167 [.ref 46, .int (nI 4)] ((fl, 0, 0, p, q, ad), I27, J27) (fun v τ => ∃ r28 I28 J28, v = some (.int r28) ∧ τ = ((fl, 0, 0, p, q, ad), I28, J28) ∧ Q (some (.int r28)) ((fl, n1, n2, p, q, ad), I28, J28)))))) ∧ (¬ (I21 50 4) = (nI 0) → ((¬ (I21 50 6) = (nI 0) → (((I21 46 13) = (nI 0) → mm_w Q (mm_wc d) bk_188 196 [some (.ref 46), none, some (.int (nI 0))] [] ((fl, n1, n2, p, q, ad), I21, J21)) ∧ (¬ (I21 46 13) = (nI 0) → mm_wc d 167 [.ref 46, .int (nI 4)] ((fl, 0, 0, p, q, ad), I21, J21) (fun v τ => ∃ r29 I29 J29, v = some (.int r29) ∧ τ = ((fl, 0, 0, p, q, ad), I29, J29) ∧ Q (some (.int r29)) ((fl, n1, n2, p, q, ad), I29, J29))))) ∧ ((I21 50 6) = (nI 0) → mm_wc d 177 [.ref 46, .int (nI 6), .int (I21 46 4)] ((fl, 0, 0, p, q, ad), I21, J21) (fun v τ => ∃ I30 J30, v = none ∧ τ = ((fl, 0, 0, p, q, ad), I30, J30) ∧ (((I30 46 13) = (nI 0) → mm_w Q (mm_wc d) bk_188 196 [some (.ref 46), none, some (.int (nI 0))] [] ((fl, n1, n2, p, q, ad), I30, J30)) ∧ (¬ (I30 46 13) = (nI 0) → mm_wc d 167 [.ref 46, .int (nI 4)] ((fl, 0, 0, p, q, ad), I30, J30) (fun v τ => ∃ r31 I31 J31, v = some (.int r31) ∧ τ = ((fl, 0, 0, p, q, ad), I31, J31) ∧ Q (some (.int r31)) ((fl, n1, n2, p, q, ad), I31, J31))))))))))))))))))))) ∧ ((I 46 13) = (nI 0) → ((¬ (I 46 6) = (nI 59) → ((¬ (I 46 13) = (nI 0) → ((¬ (I 46 13) = (nI 0) → (((I 46 13) = (nI 0) → mm_w Q (mm_wc d) bk_188 196 [some (.ref 46), none, some (.int (nI 0))] [] ((fl, n1, n2, p, q, ad), I, J)) ∧ (¬ (I 46 13) = (nI 0) → mm_wc d 167 [.ref 46, .int (nI 4)] ((fl, 0, 0, p, q, ad), I, J) (fun v τ => ∃ r32 I32 J32, v = some (.int r32) ∧ τ = ((fl, 0, 0, p, q, ad), I32, J32) ∧ Q (some (.int r32)) ((fl, n1, n2, p, q, ad), I32, J32))))) ∧ ((I 46 13) = (nI 0) → (((I 50 0) = (nI 0) → mm_wc d 177 [.ref 46, .int (nI 6), .int (I 46 4)] ((fl, 0, 0, p, q, ad), I, J) (fun v τ => ∃ I33 J33, v = none ∧ τ = ((fl, 0, 0, p, q, ad), I33, J33) ∧ (((I33 46 13) = (nI 0) → mm_w Q (mm_wc d) bk_188 196 [some (.ref 46), none, some (.int (nI 0))] [] ((fl, n1, n2, p, q, ad), I33, J33)) ∧ (¬ (I33 46 13) = (nI 0) → mm_wc d 167 [.ref 46, .int (nI 4)] ((fl, 0, 0, p, q, ad), I33, J33) (fun v τ => ∃ r34 I34 J34, v = some (.int r34) ∧ τ = ((fl, 0, 0, p, q, ad), I34, J34) ∧ Q (some (.int r34)) ((fl, n1, n2, p, q, ad), I34, J34)))))) ∧ (¬ (I 50 0) = (nI 0) → (((I 50 3) = (nI 0) → mm_wc d 177 [.ref 46, .int (nI 6), .int (I 46 4)] ((fl, 0, 0, p, q, ad), I, J) (fun v τ => ∃ I35 J35, v = none ∧ τ = ((fl, 0, 0, p, q, ad), I35, J35) ∧ (((I35 46 13) = (nI 0) → mm_w Q (mm_wc d) bk_188 196 [some (.ref 46), none, some (.int (nI 0))] [] ((fl, n1, n2, p, q, ad), I35, J35)) ∧ (¬ (I35 46 13) = (nI 0) → mm_wc d 167 [.ref 46, .int (nI 4)] ((fl, 0, 0, p, q, ad), I35, J35) (fun v τ => ∃ r36 I36 J36, v = some (.int r36) ∧ τ = ((fl, 0, 0, p, q, ad), I36, J36) ∧ Q (some (.int r36)) ((fl, n1, n2, p, q, ad), I36, J36)))))) ∧ (¬ (I 50 3) = (nI 0) → (((I 50 4) = (nI 0) → mm_wc d 177 [.ref 46, .int (nI 6), .int (I 46 4)] ((fl, 0, 0, p, q, ad), I, J) (fun v τ => ∃ I37 J37, v = none ∧ τ = ((fl, 0, 0, p, q, ad), I37, J37) ∧ (((I37 46 13) = (nI 0) → mm_w Q (mm_wc d) bk_188 196 [some (.ref 46), none, some (.int (nI 0))] [] ((fl, n1, n2, p, q, ad), I37, J37)) ∧ (¬ (I37 46 13) = (nI 0) → mm_wc d 167 [.ref 46, .int (nI 4)] ((fl, 0, 0, p, q, ad), I37, J37) (fun v τ => ∃ r38 I38 J38, v = some (.int r38) ∧ τ = ((fl, 0, 0, p, q, ad), I38, J38) ∧ Q (some (.int r38)) ((fl, n1, n2, p, q, ad), I38, J38)))))) ∧ (¬ (I 50 4) = (nI 0) → ((¬ (I 50 6) = (nI 0) → (((I 46 13) = (nI 0) → mm_w Q (mm_wc d) bk_188 196 [some (.ref 46), none, some (.int (nI 0))] [] ((fl, n1, n2, p, q, ad), I, J)) ∧ (¬ (I 46 13) = (nI 0) → mm_wc d 167 [.ref 46, .int (nI 4)] ((fl, 0, 0, p, q, ad), I, J) (fun v τ => ∃ r39 I39 J39, v = some (.int r39) ∧ τ = ((fl, 0, 0, p, q, ad), I39, J39) ∧ Q (some (.int r39)) ((fl, n1, n2, p, q, ad), I39, J39))))) ∧ ((I 50 6) = (nI 0) → mm_wc d 177 [.ref 46, .int (nI 6), .int (I 46 4)] ((fl, 0, 0, p, q, ad), I, J) (fun v τ => ∃ I40 J40, v = none ∧ τ = ((fl, 0, 0, p, q, ad), I40, J40) ∧ (((I40 46 13) = (nI 0) → mm_w Q (mm_wc d) bk_188 196 [some (.ref 46), none, some (.int (nI 0))] [] ((fl, n1, n2, p, q, ad), I40, J40)) ∧ (¬ (I40 46 13) = (nI 0) → mm_wc d 167 [.ref 46, .int (nI 4)] ((fl, 0, 0, p, q, ad), I40, J40) (fun v τ => ∃ r41 I41 J41, v = some (.int r41) ∧ τ = ((fl, 0, 0, p, q, ad), I41, J41) ∧ Q (some (.int r41)) ((fl, n1, n2, p, q, ad), I41, J41)))))))))))))))) ∧ ((I 46 13) = (nI 0) → (((I 46 6) = (nI 0) → ((¬ (I 46 13) = (nI 0) → (((I 46 13) = (nI 0) → mm_w Q (mm_wc d) bk_188 196 [some (.ref 46), none, some (.int (nI 0))] [] ((fl, n1, n2, p, q, ad), I, J)) ∧ (¬ (I 46 13) = (nI 0) → mm_wc d 167 [.ref 46, .int (nI 4)] ((fl, 0, 0, p, q, ad), I, J) (fun v τ => ∃ r42 I42 J42, v = some (.int r42) ∧ τ = ((fl, 0, 0, p, q, ad), I42, J42) ∧ Q (some (.int r42)) ((fl, n1, n2, p, q, ad), I42, J42))))) ∧ ((I 46 13) = (nI 0) → (((I 50 0) = (nI 0) → mm_wc d 177 [.ref 46, .int (nI 6), .int (I 46 4)] ((fl, 0, 0, p, q, ad), I, J) (fun v τ => ∃ I43 J43, v = none ∧ τ = ((fl, 0, 0, p, q, ad), I43, J43) ∧ (((I43 46 13) = (nI 0) → mm_w Q (mm_wc d) bk_188 196 [some (.ref 46), none, some (.int (nI 0))] [] ((fl, n1, n2, p, q, ad), I43, J43)) ∧ (¬ (I43 46 13) = (nI 0) → mm_wc d 167 [.ref 46, .int (nI 4)] ((fl, 0, 0, p, q, ad), I43, J43) (fun v τ => ∃ r44 I44 J44, v = some (.int r44) ∧ τ = ((fl, 0, 0, p, q, ad), I44, J44) ∧ Q (some (.int r44)) ((fl, n1, n2, p, q, ad), I44, J44)))))) ∧ (¬ (I 50 0) = (nI 0) → (((I 50 3) = (nI 0) → mm_wc d 177 [.ref 46, .int (nI 6), .int (I 46 4)] ((fl, 0, 0, p, q, ad), I, J) (fun v τ => ∃ I45 J45, v = none ∧ τ = ((fl, 0, 0, p, q, ad), I45, J45) ∧ (((I45 46 13) = (nI 0) → mm_w Q (mm_wc d) bk_188 196 [some (.ref 46), none, some (.int (nI 0))] [] ((fl, n1, n2, p, q, ad), I45, J45)) ∧ (¬ (I45 46 13) = (nI 0) → mm_wc d 167 [.ref 46, .int (nI 4)] ((fl, 0, 0, p, q, ad), I45, J45) (fun v τ => ∃ r46 I46 J46, v = some (.int r46) ∧ τ = ((fl, 0, 0, p, q, ad), I46, J46) ∧ Q (some (.int r46)) ((fl, n1, n2, p, q, ad), I46, J46)))))) ∧ (¬ (I 50 3) = (nI 0) → (((I 50 4) = (nI 0) → mm_wc d 177 [.ref 46, .int (nI 6), .int (I 46 4)] ((fl, 0, 0, p, q, ad), I, J) (fun v τ => ∃ I47 J47, v = none ∧ τ = ((fl, 0, 0, p, q, ad), I47, J47) ∧ (((I47 46 13) = (nI 0) → mm_w Q (mm_wc d) bk_188 196 [some (.ref 46), none, some (.int (nI 0))] [] ((fl, n1, n2, p, q, ad), I47, J47)) ∧ (¬ (I47 46 13) = (nI 0) → mm_wc d 167 [.ref 46, .int (nI 4)] ((fl, 0, 0, p, q, ad), I47, J47) (fun v τ => ∃ r48 I48 J48, v = some (.int r48) ∧ τ = ((fl, 0, 0, p, q, ad), I48, J48) ∧ Q (some (.int r48)) ((fl, n1, n2, p, q, ad), I48, J48)))))) ∧ (¬ (I 50 4) = (nI 0) → ((¬ (I 50 6) = (nI 0) → (((I 46 13) = (nI 0) → mm_w Q (mm_wc d) bk_188 196 [some (.ref 46), none, some (.int (nI 0))] [] ((fl, n1, n2, p, q, ad), I, J)) ∧ (¬ (I 46 13) = (nI 0) → mm_wc d 167 [.ref 46, .int (nI 4)] ((fl, 0, 0, p, q, ad), I, J) (fun v τ => ∃ r49 I49 J49, v = some (.int r49) ∧ τ = ((fl, 0, 0, p, q, ad), I49, J49) ∧ Q (some (.int r49)) ((fl, n1, n2, p, q, ad), I49, J49))))) ∧ ((I 50 6) = (nI 0) → mm_wc d 177 [.ref 46, .int (nI 6), .int (I 46 4)] ((fl, 0, 0, p, q, ad), I, J) (fun v τ => ∃ I50 J50, v = none ∧ τ = ((fl, 0, 0, p, q, ad), I50, J50) ∧ (((I50 46 13) = (nI 0) → mm_w Q (mm_wc d) bk_188 196 [some (.ref 46), none, some (.int (nI 0))] [] ((fl, n1, n2, p, q, ad), I50, J50)) ∧ (¬ (I50 46 13) = (nI 0) → mm_wc d 167 [.ref 46, .int (nI 4)] ((fl, 0, 0, p, q, ad), I50, J50) (fun v τ => ∃ r51 I51 J51, v = some (.int r51) ∧ τ = ((fl, 0, 0, p, q, ad), I51, J51) ∧ Q (some (.int r51)) ((fl, n1, n2, p, q, ad), I51, J51)))))))))))))))) ∧ (¬ (I 46 6) = (nI 0) → mm_wc d 177 [.ref 46, .int (nI 1), .int (I 46 4)] ((fl, 0, 0, p, q, ad), I, J) (fun v τ => ∃ I52 J52, v = none ∧ τ = ((fl, 0, 0, p, q, ad), I52, J52) ∧ ((¬ (I52 46 13) = (nI 0) → (((I52 46 13) = (nI 0) → mm_w Q (mm_wc d) bk_188 196 [some (.ref 46), none, some (.int (nI 0))] [] ((fl, n1, n2, p, q, ad), I52, J52)) ∧ (¬ (I52 46 13) = (nI 0) → mm_wc d 167 [.ref 46, .int (nI 4)] ((fl, 0, 0, p, q, ad), I52, J52) (fun v τ => ∃ r53 I53 J53, v = some (.int r53) ∧ τ = ((fl, 0, 0, p, q, ad), I53, J53) ∧ Q (some (.int r53)) ((fl, n1, n2, p, q, ad), I53, J53))))) ∧ ((I52 46 13) = (nI 0) → (((I52 50 0) = (nI 0) → mm_wc d 177 [.ref 46, .int (nI 6), .int (I52 46 4)] ((fl, 0, 0, p, q, ad), I52, J52) (fun v τ => ∃ I54 J54, v = none ∧ τ = ((fl, 0, 0, p, q, ad), I54, J54) ∧ (((I54 46 13) = (nI 0) → mm_w Q (mm_wc d) bk_188 196 [some (.ref 46), none, some (.int (nI 0))] [] ((fl, n1, n2, p, q, ad), I54, J54)) ∧ (¬ (I54 46 13) = (nI 0) → mm_wc d 167 [.ref 46, .int (nI 4)] ((fl, 0, 0, p, q, ad), I54, J54) (fun v τ => ∃ r55 I55 J55, v = some (.int r55) ∧ τ = ((fl, 0, 0, p, q, ad), I55, J55) ∧ Q (some (.int r55)) ((fl, n1, n2, p, q, ad), I55, J55)))))) ∧ (¬ (I52 50 0) = (nI 0) → (((I52 50 3) = (nI 0) → mm_wc d 177 [.ref 46, .int (nI 6), .int (I52 46 4)] ((fl, 0, 0, p, q, ad), I52, J52) (fun v τ => ∃ I56 J56, v = none ∧ τ = ((fl, 0, 0, p, q, ad), I56, J56) ∧ (((I56 46 13) = (nI 0) → mm_w Q (mm_wc d) bk_188 196 [some (.ref 46), none, some (.int (nI 0))] [] ((fl, n1, n2, p, q, ad), I56, J56)) ∧ (¬ (I56 46 13) = (nI 0) → mm_wc d 167 [.ref 46, .int (nI 4)] ((fl, 0, 0, p, q, ad), I56, J56) (fun v τ => ∃ r57 I57 J57, v = some (.int r57) ∧ τ = ((fl, 0, 0, p, q, ad), I57, J57) ∧ Q (some (.int r57)) ((fl, n1, n2, p, q, ad), I57, J57)))))) ∧ (¬ (I52 50 3) = (nI 0) → (((I52 50 4) = (nI 0) → mm_wc d 177 [.ref 46, .int (nI 6), .int (I52 46 4)] ((fl, 0, 0, p, q, ad), I52, J52) (fun v τ => ∃ I58 J58, v = none ∧ τ = ((fl, 0, 0, p, q, ad), I58, J58) ∧ (((I58 46 13) = (nI 0) → mm_w Q (mm_wc d) bk_188 196 [some (.ref 46), none, some (.int (nI 0))] [] ((fl, n1, n2, p, q, ad), I58, J58)) ∧ (¬ (I58 46 13) = (nI 0) → mm_wc d 167 [.ref 46, .int (nI 4)] ((fl, 0, 0, p, q, ad), I58, J58) (fun v τ => ∃ r59 I59 J59, v = some (.int r59) ∧ τ = ((fl, 0, 0, p, q, ad), I59, J59) ∧ Q (some (.int r59)) ((fl, n1, n2, p, q, ad), I59, J59)))))) ∧ (¬ (I52 50 4) = (nI 0) → ((¬ (I52 50 6) = (nI 0) → (((I52 46 13) = (nI 0) → mm_w Q (mm_wc d) bk_188 196 [some (.ref 46), none, some (.int (nI 0))] [] ((fl, n1, n2, p, q, ad), I52, J52)) ∧ (¬ (I52 46 13) = (nI 0) → mm_wc d 167 [.ref 46, .int (nI 4)] ((fl, 0, 0, p, q, ad), I52, J52) (fun v τ => ∃ r60 I60 J60, v = some (.int r60) ∧ τ = ((fl, 0, 0, p, q, ad), I60, J60) ∧ Q (some (.int r60)) ((fl, n1, n2, p, q, ad), I60, J60))))) ∧ ((I52 50 6) = (nI 0) → mm_wc d 177 [.ref 46, .int (nI 6), .int (I52 46 4)] ((fl, 0, 0, p, q, ad), I52, J52) (fun v τ => ∃ I61 J61, v = none ∧ τ = ((fl, 0, 0, p, q, ad), I61, J61) ∧ (((I61 46 13) = (nI 0) → mm_w Q (mm_wc d) bk_188 196 [some (.ref 46), none, some (.int (nI 0))] [] ((fl, n1, n2, p, q, ad), I61, J61)) ∧ (¬ (I61 46 13) = (nI 0) → mm_wc d 167 [.ref 46, .int (nI 4)] ((fl, 0, 0, p, q, ad), I61, J61) (fun v τ => ∃ r62 I62 J62, v = some (.int r62) ∧ τ = ((fl, 0, 0, p, q, ad), I62, J62) ∧ Q (some (.int r62)) ((fl, n1, n2, p, q, ad), I62, J62))))))))))))))))))))) ∧ ((I 46 6) = (nI 59) → mm_wc d 176 [.ref 46] ((fl, 0, 0, p, q, ad), I, J) (fun v τ => ∃ I63 J63, v = none ∧ τ = ((fl, 0, 0, p, q, ad), I63, J63) ∧ mm_wc d 190 [.ref 46] ((fl, 0, 0, p, q, ad), I63, J63) (fun v τ => ∃ I64 J64, v = none ∧ τ = ((fl, 0, 0, p, q, ad), I64, J64) ∧ mm_w Q (mm_wc d) bk_188 77 [some (.ref 46), none, none] [] ((fl, n1, n2, p, q, ad), I64, J64)))))))) : mm_w Q (mm_wc (d)) bk_188 77 [some (.ref 46), none, none] [] ((fl, n1, n2, p, q, ad), I, J) := by
  refine mm_go [39, 77, 196] 80 ?_
  show (¬ (I 46 13) = (nI 0) → _) ∧ ((I 46 13) = (nI 0) → _)
  refine ⟨fun c0 => ?_, fun c0 => ?_⟩
  · show mm_u _ _ _ _ _ _ [some (.ref 46), none, none] [] ((fl, n1, n2, p, q, ad), I, J)
    show (¬ (I 46 13) = (nI 0) → _) ∧ ((I 46 13) = (nI 0) → _)
    refine ⟨fun c1 => ?_, fun c1 => ?_⟩
    · show mm_u _ _ _ _ _ _ [some (.ref 46), none, none] [] ((fl, n1, n2, p, q, ad), I, J)
      show (¬ (I 46 13) = (nI 0) → _) ∧ ((I 46 13) = (nI 0) → _)
      refine ⟨fun c2 => ?_, fun c2 => ?_⟩
      · show mm_u _ _ _ _ _ _ [some (.ref 46), none, none] [] ((fl, n1, n2, p, q, ad), I, J)
        show ((I 46 13) = (nI 0) → _) ∧ (¬ (I 46 13) = (nI 0) → _)
        refine ⟨fun c3 => ?_, fun c3 => ?_⟩
        · exact ((((h.1 c0).1 c1).1 c2).1 c3)
        · show mm_b _ _ _ _ _ [some (.ref 46), none, none] [] ((fl, n1, n2, p, q, ad), I, J)
          show mm_wc d 167 [.ref 46, .int (nI 4)] ((fl, 0, 0, p, q, ad), I, J) _
          refine mm_wcm ((((h.1 c0).1 c1).1 c2).2 c3) ?_
          rintro v τ ⟨r1, I1, J1, rfl, rfl, h1⟩
          refine mm_r1' ⟨rfl, ?_⟩
          exact h1
      · show mm_b _ _ _ _ _ [some (.ref 46), none, none] [] ((fl, n1, n2, p, q, ad), I, J)
        show (vp_in (nI 0) 279) ∧ _
        refine ⟨(mm_inl (by decide)), ?_⟩
        show mm_b _ _ _ _ _ [some (.ref 46), none, none] [.int (I 50 0)] ((fl, n1, n2, p, q, ad), I, J)
        show ((I 50 0) = (nI 0) → _) ∧ (¬ (I 50 0) = (nI 0) → _)
        refine ⟨fun c3 => ?_, fun c3 => ?_⟩
        · show mm_u _ _ _ _ _ _ [some (.ref 46), none, none] [] ((fl, n1, n2, p, q, ad), I, J)
          show mm_wc d 177 [.ref 46, .int (nI 6), .int (I 46 4)] ((fl, 0, 0, p, q, ad), I, J) _
          refine mm_wcm ((((h.1 c0).1 c1).2 c2).1 c3) ?_
          rintro v τ ⟨I2, J2, rfl, rfl, h2⟩
          refine mm_r0' ⟨rfl, ?_⟩
          show mm_b _ _ _ _ _ [some (.ref 46), none, none] [] ((fl, n1, n2, p, q, ad), I2, J2)
          show ((I2 46 13) = (nI 0) → _) ∧ (¬ (I2 46 13) = (nI 0) → _)
          refine ⟨fun c4 => ?_, fun c4 => ?_⟩
          · exact (h2.1 c4)
          · show mm_b _ _ _ _ _ [some (.ref 46), none, none] [] ((fl, n1, n2, p, q, ad), I2, J2)
            show mm_wc d 167 [.ref 46, .int (nI 4)] ((fl, 0, 0, p, q, ad), I2, J2) _
            refine mm_wcm (h2.2 c4) ?_
            rintro v τ ⟨r3, I3, J3, rfl, rfl, h3⟩
            refine mm_r1' ⟨rfl, ?_⟩
            exact h3
        · show mm_b _ _ _ _ _ [some (.ref 46), none, none] [] ((fl, n1, n2, p, q, ad), I, J)
          show (vp_in (nI 3) 279) ∧ _
          refine ⟨(mm_inl (by decide)), ?_⟩
          show mm_b _ _ _ _ _ [some (.ref 46), none, none] [.int (I 50 3)] ((fl, n1, n2, p, q, ad), I, J)
          show ((I 50 3) = (nI 0) → _) ∧ (¬ (I 50 3) = (nI 0) → _)
          refine ⟨fun c4 => ?_, fun c4 => ?_⟩
          · show mm_u _ _ _ _ _ _ [some (.ref 46), none, none] [] ((fl, n1, n2, p, q, ad), I, J)
            show mm_wc d 177 [.ref 46, .int (nI 6), .int (I 46 4)] ((fl, 0, 0, p, q, ad), I, J) _
            refine mm_wcm (((((h.1 c0).1 c1).2 c2).2 c3).1 c4) ?_
            rintro v τ ⟨I4, J4, rfl, rfl, h4⟩
            refine mm_r0' ⟨rfl, ?_⟩
            show mm_b _ _ _ _ _ [some (.ref 46), none, none] [] ((fl, n1, n2, p, q, ad), I4, J4)
            show ((I4 46 13) = (nI 0) → _) ∧ (¬ (I4 46 13) = (nI 0) → _)
            refine ⟨fun c5 => ?_, fun c5 => ?_⟩
            · exact (h4.1 c5)
            · show mm_b _ _ _ _ _ [some (.ref 46), none, none] [] ((fl, n1, n2, p, q, ad), I4, J4)
              show mm_wc d 167 [.ref 46, .int (nI 4)] ((fl, 0, 0, p, q, ad), I4, J4) _
              refine mm_wcm (h4.2 c5) ?_
              rintro v τ ⟨r5, I5, J5, rfl, rfl, h5⟩
              refine mm_r1' ⟨rfl, ?_⟩
              exact h5
          · show mm_b _ _ _ _ _ [some (.ref 46), none, none] [] ((fl, n1, n2, p, q, ad), I, J)
            show (vp_in (nI 4) 279) ∧ _
            refine ⟨(mm_inl (by decide)), ?_⟩
            show mm_b _ _ _ _ _ [some (.ref 46), none, none] [.int (I 50 4)] ((fl, n1, n2, p, q, ad), I, J)
            show ((I 50 4) = (nI 0) → _) ∧ (¬ (I 50 4) = (nI 0) → _)
            refine ⟨fun c5 => ?_, fun c5 => ?_⟩
            · show mm_u _ _ _ _ _ _ [some (.ref 46), none, none] [] ((fl, n1, n2, p, q, ad), I, J)
              show mm_wc d 177 [.ref 46, .int (nI 6), .int (I 46 4)] ((fl, 0, 0, p, q, ad), I, J) _
              refine mm_wcm ((((((h.1 c0).1 c1).2 c2).2 c3).2 c4).1 c5) ?_
              rintro v τ ⟨I6, J6, rfl, rfl, h6⟩
              refine mm_r0' ⟨rfl, ?_⟩
              show mm_b _ _ _ _ _ [some (.ref 46), none, none] [] ((fl, n1, n2, p, q, ad), I6, J6)
              show ((I6 46 13) = (nI 0) → _) ∧ (¬ (I6 46 13) = (nI 0) → _)
              refine ⟨fun c6 => ?_, fun c6 => ?_⟩
              · exact (h6.1 c6)
              · show mm_b _ _ _ _ _ [some (.ref 46), none, none] [] ((fl, n1, n2, p, q, ad), I6, J6)
                show mm_wc d 167 [.ref 46, .int (nI 4)] ((fl, 0, 0, p, q, ad), I6, J6) _
                refine mm_wcm (h6.2 c6) ?_
                rintro v τ ⟨r7, I7, J7, rfl, rfl, h7⟩
                refine mm_r1' ⟨rfl, ?_⟩
                exact h7
            · show mm_b _ _ _ _ _ [some (.ref 46), none, none] [] ((fl, n1, n2, p, q, ad), I, J)
              show (vp_in (nI 6) 279) ∧ _
              refine ⟨(mm_inl (by decide)), ?_⟩
              show mm_b _ _ _ _ _ [some (.ref 46), none, none] [.int (I 50 6)] ((fl, n1, n2, p, q, ad), I, J)
              show (¬ (I 50 6) = (nI 0) → _) ∧ ((I 50 6) = (nI 0) → _)
              refine ⟨fun c6 => ?_, fun c6 => ?_⟩
              · show mm_u _ _ _ _ _ _ [some (.ref 46), none, none] [] ((fl, n1, n2, p, q, ad), I, J)
                show ((I 46 13) = (nI 0) → _) ∧ (¬ (I 46 13) = (nI 0) → _)
                refine ⟨fun c7 => ?_, fun c7 => ?_⟩
                · exact ((((((((h.1 c0).1 c1).2 c2).2 c3).2 c4).2 c5).1 c6).1 c7)
                · show mm_b _ _ _ _ _ [some (.ref 46), none, none] [] ((fl, n1, n2, p, q, ad), I, J)
                  show mm_wc d 167 [.ref 46, .int (nI 4)] ((fl, 0, 0, p, q, ad), I, J) _
                  refine mm_wcm ((((((((h.1 c0).1 c1).2 c2).2 c3).2 c4).2 c5).1 c6).2 c7) ?_
                  rintro v τ ⟨r8, I8, J8, rfl, rfl, h8⟩
                  refine mm_r1' ⟨rfl, ?_⟩
                  exact h8
              · show mm_b _ _ _ _ _ [some (.ref 46), none, none] [] ((fl, n1, n2, p, q, ad), I, J)
                show mm_wc d 177 [.ref 46, .int (nI 6), .int (I 46 4)] ((fl, 0, 0, p, q, ad), I, J) _
                refine mm_wcm (((((((h.1 c0).1 c1).2 c2).2 c3).2 c4).2 c5).2 c6) ?_
                rintro v τ ⟨I9, J9, rfl, rfl, h9⟩
                refine mm_r0' ⟨rfl, ?_⟩
                show mm_b _ _ _ _ _ [some (.ref 46), none, none] [] ((fl, n1, n2, p, q, ad), I9, J9)
                show ((I9 46 13) = (nI 0) → _) ∧ (¬ (I9 46 13) = (nI 0) → _)
                refine ⟨fun c7 => ?_, fun c7 => ?_⟩
                · exact (h9.1 c7)
                · show mm_b _ _ _ _ _ [some (.ref 46), none, none] [] ((fl, n1, n2, p, q, ad), I9, J9)
                  show mm_wc d 167 [.ref 46, .int (nI 4)] ((fl, 0, 0, p, q, ad), I9, J9) _
                  refine mm_wcm (h9.2 c7) ?_
                  rintro v τ ⟨r10, I10, J10, rfl, rfl, h10⟩
                  refine mm_r1' ⟨rfl, ?_⟩
                  exact h10
    · show mm_b _ _ _ _ _ [some (.ref 46), none, none] [] ((fl, n1, n2, p, q, ad), I, J)
      show ((I 46 6) = (nI 0) → _) ∧ (¬ (I 46 6) = (nI 0) → _)
      refine ⟨fun c2 => ?_, fun c2 => ?_⟩
      · show mm_u _ _ _ _ _ _ [some (.ref 46), none, none] [] ((fl, n1, n2, p, q, ad), I, J)
        show (¬ (I 46 13) = (nI 0) → _) ∧ ((I 46 13) = (nI 0) → _)
        refine ⟨fun c3 => ?_, fun c3 => ?_⟩
        · show mm_u _ _ _ _ _ _ [some (.ref 46), none, none] [] ((fl, n1, n2, p, q, ad), I, J)
          show ((I 46 13) = (nI 0) → _) ∧ (¬ (I 46 13) = (nI 0) → _)
          refine ⟨fun c4 => ?_, fun c4 => ?_⟩
          · exact (((((h.1 c0).2 c1).1 c2).1 c3).1 c4)
          · show mm_b _ _ _ _ _ [some (.ref 46), none, none] [] ((fl, n1, n2, p, q, ad), I, J)
            show mm_wc d 167 [.ref 46, .int (nI 4)] ((fl, 0, 0, p, q, ad), I, J) _
            refine mm_wcm (((((h.1 c0).2 c1).1 c2).1 c3).2 c4) ?_
            rintro v τ ⟨r11, I11, J11, rfl, rfl, h11⟩
            refine mm_r1' ⟨rfl, ?_⟩
            exact h11
        · show mm_b _ _ _ _ _ [some (.ref 46), none, none] [] ((fl, n1, n2, p, q, ad), I, J)
          show (vp_in (nI 0) 279) ∧ _
          refine ⟨(mm_inl (by decide)), ?_⟩
          show mm_b _ _ _ _ _ [some (.ref 46), none, none] [.int (I 50 0)] ((fl, n1, n2, p, q, ad), I, J)
          show ((I 50 0) = (nI 0) → _) ∧ (¬ (I 50 0) = (nI 0) → _)
          refine ⟨fun c4 => ?_, fun c4 => ?_⟩
          · show mm_u _ _ _ _ _ _ [some (.ref 46), none, none] [] ((fl, n1, n2, p, q, ad), I, J)
            show mm_wc d 177 [.ref 46, .int (nI 6), .int (I 46 4)] ((fl, 0, 0, p, q, ad), I, J) _
            refine mm_wcm (((((h.1 c0).2 c1).1 c2).2 c3).1 c4) ?_
            rintro v τ ⟨I12, J12, rfl, rfl, h12⟩
            refine mm_r0' ⟨rfl, ?_⟩
            show mm_b _ _ _ _ _ [some (.ref 46), none, none] [] ((fl, n1, n2, p, q, ad), I12, J12)
            show ((I12 46 13) = (nI 0) → _) ∧ (¬ (I12 46 13) = (nI 0) → _)
            refine ⟨fun c5 => ?_, fun c5 => ?_⟩
            · exact (h12.1 c5)
            · show mm_b _ _ _ _ _ [some (.ref 46), none, none] [] ((fl, n1, n2, p, q, ad), I12, J12)
              show mm_wc d 167 [.ref 46, .int (nI 4)] ((fl, 0, 0, p, q, ad), I12, J12) _
              refine mm_wcm (h12.2 c5) ?_
              rintro v τ ⟨r13, I13, J13, rfl, rfl, h13⟩
              refine mm_r1' ⟨rfl, ?_⟩
              exact h13
          · show mm_b _ _ _ _ _ [some (.ref 46), none, none] [] ((fl, n1, n2, p, q, ad), I, J)
            show (vp_in (nI 3) 279) ∧ _
            refine ⟨(mm_inl (by decide)), ?_⟩
            show mm_b _ _ _ _ _ [some (.ref 46), none, none] [.int (I 50 3)] ((fl, n1, n2, p, q, ad), I, J)
            show ((I 50 3) = (nI 0) → _) ∧ (¬ (I 50 3) = (nI 0) → _)
            refine ⟨fun c5 => ?_, fun c5 => ?_⟩
            · show mm_u _ _ _ _ _ _ [some (.ref 46), none, none] [] ((fl, n1, n2, p, q, ad), I, J)
              show mm_wc d 177 [.ref 46, .int (nI 6), .int (I 46 4)] ((fl, 0, 0, p, q, ad), I, J) _
              refine mm_wcm ((((((h.1 c0).2 c1).1 c2).2 c3).2 c4).1 c5) ?_
              rintro v τ ⟨I14, J14, rfl, rfl, h14⟩
              refine mm_r0' ⟨rfl, ?_⟩
              show mm_b _ _ _ _ _ [some (.ref 46), none, none] [] ((fl, n1, n2, p, q, ad), I14, J14)
              show ((I14 46 13) = (nI 0) → _) ∧ (¬ (I14 46 13) = (nI 0) → _)
              refine ⟨fun c6 => ?_, fun c6 => ?_⟩
              · exact (h14.1 c6)
              · show mm_b _ _ _ _ _ [some (.ref 46), none, none] [] ((fl, n1, n2, p, q, ad), I14, J14)
                show mm_wc d 167 [.ref 46, .int (nI 4)] ((fl, 0, 0, p, q, ad), I14, J14) _
                refine mm_wcm (h14.2 c6) ?_
                rintro v τ ⟨r15, I15, J15, rfl, rfl, h15⟩
                refine mm_r1' ⟨rfl, ?_⟩
                exact h15
            · show mm_b _ _ _ _ _ [some (.ref 46), none, none] [] ((fl, n1, n2, p, q, ad), I, J)
              show (vp_in (nI 4) 279) ∧ _
              refine ⟨(mm_inl (by decide)), ?_⟩
              show mm_b _ _ _ _ _ [some (.ref 46), none, none] [.int (I 50 4)] ((fl, n1, n2, p, q, ad), I, J)
              show ((I 50 4) = (nI 0) → _) ∧ (¬ (I 50 4) = (nI 0) → _)
              refine ⟨fun c6 => ?_, fun c6 => ?_⟩
              · show mm_u _ _ _ _ _ _ [some (.ref 46), none, none] [] ((fl, n1, n2, p, q, ad), I, J)
                show mm_wc d 177 [.ref 46, .int (nI 6), .int (I 46 4)] ((fl, 0, 0, p, q, ad), I, J) _
                refine mm_wcm (((((((h.1 c0).2 c1).1 c2).2 c3).2 c4).2 c5).1 c6) ?_
                rintro v τ ⟨I16, J16, rfl, rfl, h16⟩
                refine mm_r0' ⟨rfl, ?_⟩
                show mm_b _ _ _ _ _ [some (.ref 46), none, none] [] ((fl, n1, n2, p, q, ad), I16, J16)
                show ((I16 46 13) = (nI 0) → _) ∧ (¬ (I16 46 13) = (nI 0) → _)
                refine ⟨fun c7 => ?_, fun c7 => ?_⟩
                · exact (h16.1 c7)
                · show mm_b _ _ _ _ _ [some (.ref 46), none, none] [] ((fl, n1, n2, p, q, ad), I16, J16)
                  show mm_wc d 167 [.ref 46, .int (nI 4)] ((fl, 0, 0, p, q, ad), I16, J16) _
                  refine mm_wcm (h16.2 c7) ?_
                  rintro v τ ⟨r17, I17, J17, rfl, rfl, h17⟩
                  refine mm_r1' ⟨rfl, ?_⟩
                  exact h17
              · show mm_b _ _ _ _ _ [some (.ref 46), none, none] [] ((fl, n1, n2, p, q, ad), I, J)
                show (vp_in (nI 6) 279) ∧ _
                refine ⟨(mm_inl (by decide)), ?_⟩
                show mm_b _ _ _ _ _ [some (.ref 46), none, none] [.int (I 50 6)] ((fl, n1, n2, p, q, ad), I, J)
                show (¬ (I 50 6) = (nI 0) → _) ∧ ((I 50 6) = (nI 0) → _)
                refine ⟨fun c7 => ?_, fun c7 => ?_⟩
                · show mm_u _ _ _ _ _ _ [some (.ref 46), none, none] [] ((fl, n1, n2, p, q, ad), I, J)
                  show ((I 46 13) = (nI 0) → _) ∧ (¬ (I 46 13) = (nI 0) → _)
                  refine ⟨fun c8 => ?_, fun c8 => ?_⟩
                  · exact (((((((((h.1 c0).2 c1).1 c2).2 c3).2 c4).2 c5).2 c6).1 c7).1 c8)
                  · show mm_b _ _ _ _ _ [some (.ref 46), none, none] [] ((fl, n1, n2, p, q, ad), I, J)
                    show mm_wc d 167 [.ref 46, .int (nI 4)] ((fl, 0, 0, p, q, ad), I, J) _
                    refine mm_wcm (((((((((h.1 c0).2 c1).1 c2).2 c3).2 c4).2 c5).2 c6).1 c7).2 c8) ?_
                    rintro v τ ⟨r18, I18, J18, rfl, rfl, h18⟩
                    refine mm_r1' ⟨rfl, ?_⟩
                    exact h18
                · show mm_b _ _ _ _ _ [some (.ref 46), none, none] [] ((fl, n1, n2, p, q, ad), I, J)
                  show mm_wc d 177 [.ref 46, .int (nI 6), .int (I 46 4)] ((fl, 0, 0, p, q, ad), I, J) _
                  refine mm_wcm ((((((((h.1 c0).2 c1).1 c2).2 c3).2 c4).2 c5).2 c6).2 c7) ?_
                  rintro v τ ⟨I19, J19, rfl, rfl, h19⟩
                  refine mm_r0' ⟨rfl, ?_⟩
                  show mm_b _ _ _ _ _ [some (.ref 46), none, none] [] ((fl, n1, n2, p, q, ad), I19, J19)
                  show ((I19 46 13) = (nI 0) → _) ∧ (¬ (I19 46 13) = (nI 0) → _)
                  refine ⟨fun c8 => ?_, fun c8 => ?_⟩
                  · exact (h19.1 c8)
                  · show mm_b _ _ _ _ _ [some (.ref 46), none, none] [] ((fl, n1, n2, p, q, ad), I19, J19)
                    show mm_wc d 167 [.ref 46, .int (nI 4)] ((fl, 0, 0, p, q, ad), I19, J19) _
                    refine mm_wcm (h19.2 c8) ?_
                    rintro v τ ⟨r20, I20, J20, rfl, rfl, h20⟩
                    refine mm_r1' ⟨rfl, ?_⟩
                    exact h20
      · show mm_b _ _ _ _ _ [some (.ref 46), none, none] [] ((fl, n1, n2, p, q, ad), I, J)
        show mm_wc d 177 [.ref 46, .int (nI 1), .int (I 46 4)] ((fl, 0, 0, p, q, ad), I, J) _
        refine mm_wcm (((h.1 c0).2 c1).2 c2) ?_
        rintro v τ ⟨I21, J21, rfl, rfl, h21⟩
        refine mm_r0' ⟨rfl, ?_⟩
        show mm_b _ _ _ _ _ [some (.ref 46), none, none] [] ((fl, n1, n2, p, q, ad), I21, J21)
        show (¬ (I21 46 13) = (nI 0) → _) ∧ ((I21 46 13) = (nI 0) → _)
        refine ⟨fun c3 => ?_, fun c3 => ?_⟩
        · show mm_u _ _ _ _ _ _ [some (.ref 46), none, none] [] ((fl, n1, n2, p, q, ad), I21, J21)
          show ((I21 46 13) = (nI 0) → _) ∧ (¬ (I21 46 13) = (nI 0) → _)
          refine ⟨fun c4 => ?_, fun c4 => ?_⟩
          · exact ((h21.1 c3).1 c4)
          · show mm_b _ _ _ _ _ [some (.ref 46), none, none] [] ((fl, n1, n2, p, q, ad), I21, J21)
            show mm_wc d 167 [.ref 46, .int (nI 4)] ((fl, 0, 0, p, q, ad), I21, J21) _
            refine mm_wcm ((h21.1 c3).2 c4) ?_
            rintro v τ ⟨r22, I22, J22, rfl, rfl, h22⟩
            refine mm_r1' ⟨rfl, ?_⟩
            exact h22
        · show mm_b _ _ _ _ _ [some (.ref 46), none, none] [] ((fl, n1, n2, p, q, ad), I21, J21)
          show (vp_in (nI 0) 279) ∧ _
          refine ⟨(mm_inl (by decide)), ?_⟩
          show mm_b _ _ _ _ _ [some (.ref 46), none, none] [.int (I21 50 0)] ((fl, n1, n2, p, q, ad), I21, J21)
          show ((I21 50 0) = (nI 0) → _) ∧ (¬ (I21 50 0) = (nI 0) → _)
          refine ⟨fun c4 => ?_, fun c4 => ?_⟩
          · show mm_u _ _ _ _ _ _ [some (.ref 46), none, none] [] ((fl, n1, n2, p, q, ad), I21, J21)
            show mm_wc d 177 [.ref 46, .int (nI 6), .int (I21 46 4)] ((fl, 0, 0, p, q, ad), I21, J21) _
            refine mm_wcm ((h21.2 c3).1 c4) ?_
            rintro v τ ⟨I23, J23, rfl, rfl, h23⟩
            refine mm_r0' ⟨rfl, ?_⟩
            show mm_b _ _ _ _ _ [some (.ref 46), none, none] [] ((fl, n1, n2, p, q, ad), I23, J23)
            show ((I23 46 13) = (nI 0) → _) ∧ (¬ (I23 46 13) = (nI 0) → _)
            refine ⟨fun c5 => ?_, fun c5 => ?_⟩
            · exact (h23.1 c5)
            · show mm_b _ _ _ _ _ [some (.ref 46), none, none] [] ((fl, n1, n2, p, q, ad), I23, J23)
              show mm_wc d 167 [.ref 46, .int (nI 4)] ((fl, 0, 0, p, q, ad), I23, J23) _
              refine mm_wcm (h23.2 c5) ?_
              rintro v τ ⟨r24, I24, J24, rfl, rfl, h24⟩
              refine mm_r1' ⟨rfl, ?_⟩
              exact h24
          · show mm_b _ _ _ _ _ [some (.ref 46), none, none] [] ((fl, n1, n2, p, q, ad), I21, J21)
            show (vp_in (nI 3) 279) ∧ _
            refine ⟨(mm_inl (by decide)), ?_⟩
            show mm_b _ _ _ _ _ [some (.ref 46), none, none] [.int (I21 50 3)] ((fl, n1, n2, p, q, ad), I21, J21)
            show ((I21 50 3) = (nI 0) → _) ∧ (¬ (I21 50 3) = (nI 0) → _)
            refine ⟨fun c5 => ?_, fun c5 => ?_⟩
            · show mm_u _ _ _ _ _ _ [some (.ref 46), none, none] [] ((fl, n1, n2, p, q, ad), I21, J21)
              show mm_wc d 177 [.ref 46, .int (nI 6), .int (I21 46 4)] ((fl, 0, 0, p, q, ad), I21, J21) _
              refine mm_wcm (((h21.2 c3).2 c4).1 c5) ?_
              rintro v τ ⟨I25, J25, rfl, rfl, h25⟩
              refine mm_r0' ⟨rfl, ?_⟩
              show mm_b _ _ _ _ _ [some (.ref 46), none, none] [] ((fl, n1, n2, p, q, ad), I25, J25)
              show ((I25 46 13) = (nI 0) → _) ∧ (¬ (I25 46 13) = (nI 0) → _)
              refine ⟨fun c6 => ?_, fun c6 => ?_⟩
              · exact (h25.1 c6)
              · show mm_b _ _ _ _ _ [some (.ref 46), none, none] [] ((fl, n1, n2, p, q, ad), I25, J25)
                show mm_wc d 167 [.ref 46, .int (nI 4)] ((fl, 0, 0, p, q, ad), I25, J25) _
                refine mm_wcm (h25.2 c6) ?_
                rintro v τ ⟨r26, I26, J26, rfl, rfl, h26⟩
                refine mm_r1' ⟨rfl, ?_⟩
                exact h26
            · show mm_b _ _ _ _ _ [some (.ref 46), none, none] [] ((fl, n1, n2, p, q, ad), I21, J21)
              show (vp_in (nI 4) 279) ∧ _
              refine ⟨(mm_inl (by decide)), ?_⟩
              show mm_b _ _ _ _ _ [some (.ref 46), none, none] [.int (I21 50 4)] ((fl, n1, n2, p, q, ad), I21, J21)
              show ((I21 50 4) = (nI 0) → _) ∧ (¬ (I21 50 4) = (nI 0) → _)
              refine ⟨fun c6 => ?_, fun c6 => ?_⟩
              · show mm_u _ _ _ _ _ _ [some (.ref 46), none, none] [] ((fl, n1, n2, p, q, ad), I21, J21)
                show mm_wc d 177 [.ref 46, .int (nI 6), .int (I21 46 4)] ((fl, 0, 0, p, q, ad), I21, J21) _
                refine mm_wcm ((((h21.2 c3).2 c4).2 c5).1 c6) ?_
                rintro v τ ⟨I27, J27, rfl, rfl, h27⟩
                refine mm_r0' ⟨rfl, ?_⟩
                show mm_b _ _ _ _ _ [some (.ref 46), none, none] [] ((fl, n1, n2, p, q, ad), I27, J27)
                show ((I27 46 13) = (nI 0) → _) ∧ (¬ (I27 46 13) = (nI 0) → _)
                refine ⟨fun c7 => ?_, fun c7 => ?_⟩
                · exact (h27.1 c7)
                · show mm_b _ _ _ _ _ [some (.ref 46), none, none] [] ((fl, n1, n2, p, q, ad), I27, J27)
                  show mm_wc d 167 [.ref 46, .int (nI 4)] ((fl, 0, 0, p, q, ad), I27, J27) _
                  refine mm_wcm (h27.2 c7) ?_
                  rintro v τ ⟨r28, I28, J28, rfl, rfl, h28⟩
                  refine mm_r1' ⟨rfl, ?_⟩
                  exact h28
              · show mm_b _ _ _ _ _ [some (.ref 46), none, none] [] ((fl, n1, n2, p, q, ad), I21, J21)
                show (vp_in (nI 6) 279) ∧ _
                refine ⟨(mm_inl (by decide)), ?_⟩
                show mm_b _ _ _ _ _ [some (.ref 46), none, none] [.int (I21 50 6)] ((fl, n1, n2, p, q, ad), I21, J21)
                show (¬ (I21 50 6) = (nI 0) → _) ∧ ((I21 50 6) = (nI 0) → _)
                refine ⟨fun c7 => ?_, fun c7 => ?_⟩
                · show mm_u _ _ _ _ _ _ [some (.ref 46), none, none] [] ((fl, n1, n2, p, q, ad), I21, J21)
                  show ((I21 46 13) = (nI 0) → _) ∧ (¬ (I21 46 13) = (nI 0) → _)
                  refine ⟨fun c8 => ?_, fun c8 => ?_⟩
                  · exact ((((((h21.2 c3).2 c4).2 c5).2 c6).1 c7).1 c8)
                  · show mm_b _ _ _ _ _ [some (.ref 46), none, none] [] ((fl, n1, n2, p, q, ad), I21, J21)
                    show mm_wc d 167 [.ref 46, .int (nI 4)] ((fl, 0, 0, p, q, ad), I21, J21) _
                    refine mm_wcm ((((((h21.2 c3).2 c4).2 c5).2 c6).1 c7).2 c8) ?_
                    rintro v τ ⟨r29, I29, J29, rfl, rfl, h29⟩
                    refine mm_r1' ⟨rfl, ?_⟩
                    exact h29
                · show mm_b _ _ _ _ _ [some (.ref 46), none, none] [] ((fl, n1, n2, p, q, ad), I21, J21)
                  show mm_wc d 177 [.ref 46, .int (nI 6), .int (I21 46 4)] ((fl, 0, 0, p, q, ad), I21, J21) _
                  refine mm_wcm (((((h21.2 c3).2 c4).2 c5).2 c6).2 c7) ?_
                  rintro v τ ⟨I30, J30, rfl, rfl, h30⟩
                  refine mm_r0' ⟨rfl, ?_⟩
                  show mm_b _ _ _ _ _ [some (.ref 46), none, none] [] ((fl, n1, n2, p, q, ad), I30, J30)
                  show ((I30 46 13) = (nI 0) → _) ∧ (¬ (I30 46 13) = (nI 0) → _)
                  refine ⟨fun c8 => ?_, fun c8 => ?_⟩
                  · exact (h30.1 c8)
                  · show mm_b _ _ _ _ _ [some (.ref 46), none, none] [] ((fl, n1, n2, p, q, ad), I30, J30)
                    show mm_wc d 167 [.ref 46, .int (nI 4)] ((fl, 0, 0, p, q, ad), I30, J30) _
                    refine mm_wcm (h30.2 c8) ?_
                    rintro v τ ⟨r31, I31, J31, rfl, rfl, h31⟩
                    refine mm_r1' ⟨rfl, ?_⟩
                    exact h31
  · show mm_b _ _ _ _ _ [some (.ref 46), none, none] [] ((fl, n1, n2, p, q, ad), I, J)
    show (¬ (I 46 6) = (nI 59) → _) ∧ ((I 46 6) = (nI 59) → _)
    refine ⟨fun c1 => ?_, fun c1 => ?_⟩
    · show mm_u _ _ _ _ _ _ [some (.ref 46), none, none] [] ((fl, n1, n2, p, q, ad), I, J)
      show (¬ (I 46 13) = (nI 0) → _) ∧ ((I 46 13) = (nI 0) → _)
      refine ⟨fun c2 => ?_, fun c2 => ?_⟩
      · show mm_u _ _ _ _ _ _ [some (.ref 46), none, none] [] ((fl, n1, n2, p, q, ad), I, J)
        show (¬ (I 46 13) = (nI 0) → _) ∧ ((I 46 13) = (nI 0) → _)
        refine ⟨fun c3 => ?_, fun c3 => ?_⟩
        · show mm_u _ _ _ _ _ _ [some (.ref 46), none, none] [] ((fl, n1, n2, p, q, ad), I, J)
          show ((I 46 13) = (nI 0) → _) ∧ (¬ (I 46 13) = (nI 0) → _)
          refine ⟨fun c4 => ?_, fun c4 => ?_⟩
          · exact (((((h.2 c0).1 c1).1 c2).1 c3).1 c4)
          · show mm_b _ _ _ _ _ [some (.ref 46), none, none] [] ((fl, n1, n2, p, q, ad), I, J)
            show mm_wc d 167 [.ref 46, .int (nI 4)] ((fl, 0, 0, p, q, ad), I, J) _
            refine mm_wcm (((((h.2 c0).1 c1).1 c2).1 c3).2 c4) ?_
            rintro v τ ⟨r32, I32, J32, rfl, rfl, h32⟩
            refine mm_r1' ⟨rfl, ?_⟩
            exact h32
        · show mm_b _ _ _ _ _ [some (.ref 46), none, none] [] ((fl, n1, n2, p, q, ad), I, J)
          show (vp_in (nI 0) 279) ∧ _
          refine ⟨(mm_inl (by decide)), ?_⟩
          show mm_b _ _ _ _ _ [some (.ref 46), none, none] [.int (I 50 0)] ((fl, n1, n2, p, q, ad), I, J)
          show ((I 50 0) = (nI 0) → _) ∧ (¬ (I 50 0) = (nI 0) → _)
          refine ⟨fun c4 => ?_, fun c4 => ?_⟩
          · show mm_u _ _ _ _ _ _ [some (.ref 46), none, none] [] ((fl, n1, n2, p, q, ad), I, J)
            show mm_wc d 177 [.ref 46, .int (nI 6), .int (I 46 4)] ((fl, 0, 0, p, q, ad), I, J) _
            refine mm_wcm (((((h.2 c0).1 c1).1 c2).2 c3).1 c4) ?_
            rintro v τ ⟨I33, J33, rfl, rfl, h33⟩
            refine mm_r0' ⟨rfl, ?_⟩
            show mm_b _ _ _ _ _ [some (.ref 46), none, none] [] ((fl, n1, n2, p, q, ad), I33, J33)
            show ((I33 46 13) = (nI 0) → _) ∧ (¬ (I33 46 13) = (nI 0) → _)
            refine ⟨fun c5 => ?_, fun c5 => ?_⟩
            · exact (h33.1 c5)
            · show mm_b _ _ _ _ _ [some (.ref 46), none, none] [] ((fl, n1, n2, p, q, ad), I33, J33)
              show mm_wc d 167 [.ref 46, .int (nI 4)] ((fl, 0, 0, p, q, ad), I33, J33) _
              refine mm_wcm (h33.2 c5) ?_
              rintro v τ ⟨r34, I34, J34, rfl, rfl, h34⟩
              refine mm_r1' ⟨rfl, ?_⟩
              exact h34
          · show mm_b _ _ _ _ _ [some (.ref 46), none, none] [] ((fl, n1, n2, p, q, ad), I, J)
            show (vp_in (nI 3) 279) ∧ _
            refine ⟨(mm_inl (by decide)), ?_⟩
            show mm_b _ _ _ _ _ [some (.ref 46), none, none] [.int (I 50 3)] ((fl, n1, n2, p, q, ad), I, J)
            show ((I 50 3) = (nI 0) → _) ∧ (¬ (I 50 3) = (nI 0) → _)
            refine ⟨fun c5 => ?_, fun c5 => ?_⟩
            · show mm_u _ _ _ _ _ _ [some (.ref 46), none, none] [] ((fl, n1, n2, p, q, ad), I, J)
              show mm_wc d 177 [.ref 46, .int (nI 6), .int (I 46 4)] ((fl, 0, 0, p, q, ad), I, J) _
              refine mm_wcm ((((((h.2 c0).1 c1).1 c2).2 c3).2 c4).1 c5) ?_
              rintro v τ ⟨I35, J35, rfl, rfl, h35⟩
              refine mm_r0' ⟨rfl, ?_⟩
              show mm_b _ _ _ _ _ [some (.ref 46), none, none] [] ((fl, n1, n2, p, q, ad), I35, J35)
              show ((I35 46 13) = (nI 0) → _) ∧ (¬ (I35 46 13) = (nI 0) → _)
              refine ⟨fun c6 => ?_, fun c6 => ?_⟩
              · exact (h35.1 c6)
              · show mm_b _ _ _ _ _ [some (.ref 46), none, none] [] ((fl, n1, n2, p, q, ad), I35, J35)
                show mm_wc d 167 [.ref 46, .int (nI 4)] ((fl, 0, 0, p, q, ad), I35, J35) _
                refine mm_wcm (h35.2 c6) ?_
                rintro v τ ⟨r36, I36, J36, rfl, rfl, h36⟩
                refine mm_r1' ⟨rfl, ?_⟩
                exact h36
            · show mm_b _ _ _ _ _ [some (.ref 46), none, none] [] ((fl, n1, n2, p, q, ad), I, J)
              show (vp_in (nI 4) 279) ∧ _
              refine ⟨(mm_inl (by decide)), ?_⟩
              show mm_b _ _ _ _ _ [some (.ref 46), none, none] [.int (I 50 4)] ((fl, n1, n2, p, q, ad), I, J)
              show ((I 50 4) = (nI 0) → _) ∧ (¬ (I 50 4) = (nI 0) → _)
              refine ⟨fun c6 => ?_, fun c6 => ?_⟩
              · show mm_u _ _ _ _ _ _ [some (.ref 46), none, none] [] ((fl, n1, n2, p, q, ad), I, J)
                show mm_wc d 177 [.ref 46, .int (nI 6), .int (I 46 4)] ((fl, 0, 0, p, q, ad), I, J) _
                refine mm_wcm (((((((h.2 c0).1 c1).1 c2).2 c3).2 c4).2 c5).1 c6) ?_
                rintro v τ ⟨I37, J37, rfl, rfl, h37⟩
                refine mm_r0' ⟨rfl, ?_⟩
                show mm_b _ _ _ _ _ [some (.ref 46), none, none] [] ((fl, n1, n2, p, q, ad), I37, J37)
                show ((I37 46 13) = (nI 0) → _) ∧ (¬ (I37 46 13) = (nI 0) → _)
                refine ⟨fun c7 => ?_, fun c7 => ?_⟩
                · exact (h37.1 c7)
                · show mm_b _ _ _ _ _ [some (.ref 46), none, none] [] ((fl, n1, n2, p, q, ad), I37, J37)
                  show mm_wc d 167 [.ref 46, .int (nI 4)] ((fl, 0, 0, p, q, ad), I37, J37) _
                  refine mm_wcm (h37.2 c7) ?_
                  rintro v τ ⟨r38, I38, J38, rfl, rfl, h38⟩
                  refine mm_r1' ⟨rfl, ?_⟩
                  exact h38
              · show mm_b _ _ _ _ _ [some (.ref 46), none, none] [] ((fl, n1, n2, p, q, ad), I, J)
                show (vp_in (nI 6) 279) ∧ _
                refine ⟨(mm_inl (by decide)), ?_⟩
                show mm_b _ _ _ _ _ [some (.ref 46), none, none] [.int (I 50 6)] ((fl, n1, n2, p, q, ad), I, J)
                show (¬ (I 50 6) = (nI 0) → _) ∧ ((I 50 6) = (nI 0) → _)
                refine ⟨fun c7 => ?_, fun c7 => ?_⟩
                · show mm_u _ _ _ _ _ _ [some (.ref 46), none, none] [] ((fl, n1, n2, p, q, ad), I, J)
                  show ((I 46 13) = (nI 0) → _) ∧ (¬ (I 46 13) = (nI 0) → _)
                  refine ⟨fun c8 => ?_, fun c8 => ?_⟩
                  · exact (((((((((h.2 c0).1 c1).1 c2).2 c3).2 c4).2 c5).2 c6).1 c7).1 c8)
                  · show mm_b _ _ _ _ _ [some (.ref 46), none, none] [] ((fl, n1, n2, p, q, ad), I, J)
                    show mm_wc d 167 [.ref 46, .int (nI 4)] ((fl, 0, 0, p, q, ad), I, J) _
                    refine mm_wcm (((((((((h.2 c0).1 c1).1 c2).2 c3).2 c4).2 c5).2 c6).1 c7).2 c8) ?_
                    rintro v τ ⟨r39, I39, J39, rfl, rfl, h39⟩
                    refine mm_r1' ⟨rfl, ?_⟩
                    exact h39
                · show mm_b _ _ _ _ _ [some (.ref 46), none, none] [] ((fl, n1, n2, p, q, ad), I, J)
                  show mm_wc d 177 [.ref 46, .int (nI 6), .int (I 46 4)] ((fl, 0, 0, p, q, ad), I, J) _
                  refine mm_wcm ((((((((h.2 c0).1 c1).1 c2).2 c3).2 c4).2 c5).2 c6).2 c7) ?_
                  rintro v τ ⟨I40, J40, rfl, rfl, h40⟩
                  refine mm_r0' ⟨rfl, ?_⟩
                  show mm_b _ _ _ _ _ [some (.ref 46), none, none] [] ((fl, n1, n2, p, q, ad), I40, J40)
                  show ((I40 46 13) = (nI 0) → _) ∧ (¬ (I40 46 13) = (nI 0) → _)
                  refine ⟨fun c8 => ?_, fun c8 => ?_⟩
                  · exact (h40.1 c8)
                  · show mm_b _ _ _ _ _ [some (.ref 46), none, none] [] ((fl, n1, n2, p, q, ad), I40, J40)
                    show mm_wc d 167 [.ref 46, .int (nI 4)] ((fl, 0, 0, p, q, ad), I40, J40) _
                    refine mm_wcm (h40.2 c8) ?_
                    rintro v τ ⟨r41, I41, J41, rfl, rfl, h41⟩
                    refine mm_r1' ⟨rfl, ?_⟩
                    exact h41
      · show mm_b _ _ _ _ _ [some (.ref 46), none, none] [] ((fl, n1, n2, p, q, ad), I, J)
        show ((I 46 6) = (nI 0) → _) ∧ (¬ (I 46 6) = (nI 0) → _)
        refine ⟨fun c3 => ?_, fun c3 => ?_⟩
        · show mm_u _ _ _ _ _ _ [some (.ref 46), none, none] [] ((fl, n1, n2, p, q, ad), I, J)
          show (¬ (I 46 13) = (nI 0) → _) ∧ ((I 46 13) = (nI 0) → _)
          refine ⟨fun c4 => ?_, fun c4 => ?_⟩
          · show mm_u _ _ _ _ _ _ [some (.ref 46), none, none] [] ((fl, n1, n2, p, q, ad), I, J)
            show ((I 46 13) = (nI 0) → _) ∧ (¬ (I 46 13) = (nI 0) → _)
            refine ⟨fun c5 => ?_, fun c5 => ?_⟩
            · exact ((((((h.2 c0).1 c1).2 c2).1 c3).1 c4).1 c5)
            · show mm_b _ _ _ _ _ [some (.ref 46), none, none] [] ((fl, n1, n2, p, q, ad), I, J)
              show mm_wc d 167 [.ref 46, .int (nI 4)] ((fl, 0, 0, p, q, ad), I, J) _
              refine mm_wcm ((((((h.2 c0).1 c1).2 c2).1 c3).1 c4).2 c5) ?_
              rintro v τ ⟨r42, I42, J42, rfl, rfl, h42⟩
              refine mm_r1' ⟨rfl, ?_⟩
              exact h42
          · show mm_b _ _ _ _ _ [some (.ref 46), none, none] [] ((fl, n1, n2, p, q, ad), I, J)
            show (vp_in (nI 0) 279) ∧ _
            refine ⟨(mm_inl (by decide)), ?_⟩
            show mm_b _ _ _ _ _ [some (.ref 46), none, none] [.int (I 50 0)] ((fl, n1, n2, p, q, ad), I, J)
            show ((I 50 0) = (nI 0) → _) ∧ (¬ (I 50 0) = (nI 0) → _)
            refine ⟨fun c5 => ?_, fun c5 => ?_⟩
            · show mm_u _ _ _ _ _ _ [some (.ref 46), none, none] [] ((fl, n1, n2, p, q, ad), I, J)
              show mm_wc d 177 [.ref 46, .int (nI 6), .int (I 46 4)] ((fl, 0, 0, p, q, ad), I, J) _
              refine mm_wcm ((((((h.2 c0).1 c1).2 c2).1 c3).2 c4).1 c5) ?_
              rintro v τ ⟨I43, J43, rfl, rfl, h43⟩
              refine mm_r0' ⟨rfl, ?_⟩
              show mm_b _ _ _ _ _ [some (.ref 46), none, none] [] ((fl, n1, n2, p, q, ad), I43, J43)
              show ((I43 46 13) = (nI 0) → _) ∧ (¬ (I43 46 13) = (nI 0) → _)
              refine ⟨fun c6 => ?_, fun c6 => ?_⟩
              · exact (h43.1 c6)
              · show mm_b _ _ _ _ _ [some (.ref 46), none, none] [] ((fl, n1, n2, p, q, ad), I43, J43)
                show mm_wc d 167 [.ref 46, .int (nI 4)] ((fl, 0, 0, p, q, ad), I43, J43) _
                refine mm_wcm (h43.2 c6) ?_
                rintro v τ ⟨r44, I44, J44, rfl, rfl, h44⟩
                refine mm_r1' ⟨rfl, ?_⟩
                exact h44
            · show mm_b _ _ _ _ _ [some (.ref 46), none, none] [] ((fl, n1, n2, p, q, ad), I, J)
              show (vp_in (nI 3) 279) ∧ _
              refine ⟨(mm_inl (by decide)), ?_⟩
              show mm_b _ _ _ _ _ [some (.ref 46), none, none] [.int (I 50 3)] ((fl, n1, n2, p, q, ad), I, J)
              show ((I 50 3) = (nI 0) → _) ∧ (¬ (I 50 3) = (nI 0) → _)
              refine ⟨fun c6 => ?_, fun c6 => ?_⟩
              · show mm_u _ _ _ _ _ _ [some (.ref 46), none, none] [] ((fl, n1, n2, p, q, ad), I, J)
                show mm_wc d 177 [.ref 46, .int (nI 6), .int (I 46 4)] ((fl, 0, 0, p, q, ad), I, J) _
                refine mm_wcm (((((((h.2 c0).1 c1).2 c2).1 c3).2 c4).2 c5).1 c6) ?_
                rintro v τ ⟨I45, J45, rfl, rfl, h45⟩
                refine mm_r0' ⟨rfl, ?_⟩
                show mm_b _ _ _ _ _ [some (.ref 46), none, none] [] ((fl, n1, n2, p, q, ad), I45, J45)
                show ((I45 46 13) = (nI 0) → _) ∧ (¬ (I45 46 13) = (nI 0) → _)
                refine ⟨fun c7 => ?_, fun c7 => ?_⟩
                · exact (h45.1 c7)
                · show mm_b _ _ _ _ _ [some (.ref 46), none, none] [] ((fl, n1, n2, p, q, ad), I45, J45)
                  show mm_wc d 167 [.ref 46, .int (nI 4)] ((fl, 0, 0, p, q, ad), I45, J45) _
                  refine mm_wcm (h45.2 c7) ?_
                  rintro v τ ⟨r46, I46, J46, rfl, rfl, h46⟩
                  refine mm_r1' ⟨rfl, ?_⟩
                  exact h46
              · show mm_b _ _ _ _ _ [some (.ref 46), none, none] [] ((fl, n1, n2, p, q, ad), I, J)
                show (vp_in (nI 4) 279) ∧ _
                refine ⟨(mm_inl (by decide)), ?_⟩
                show mm_b _ _ _ _ _ [some (.ref 46), none, none] [.int (I 50 4)] ((fl, n1, n2, p, q, ad), I, J)
                show ((I 50 4) = (nI 0) → _) ∧ (¬ (I 50 4) = (nI 0) → _)
                refine ⟨fun c7 => ?_, fun c7 => ?_⟩
                · show mm_u _ _ _ _ _ _ [some (.ref 46), none, none] [] ((fl, n1, n2, p, q, ad), I, J)
                  show mm_wc d 177 [.ref 46, .int (nI 6), .int (I 46 4)] ((fl, 0, 0, p, q, ad), I, J) _
                  refine mm_wcm ((((((((h.2 c0).1 c1).2 c2).1 c3).2 c4).2 c5).2 c6).1 c7) ?_
                  rintro v τ ⟨I47, J47, rfl, rfl, h47⟩
                  refine mm_r0' ⟨rfl, ?_⟩
                  show mm_b _ _ _ _ _ [some (.ref 46), none, none] [] ((fl, n1, n2, p, q, ad), I47, J47)
                  show ((I47 46 13) = (nI 0) → _) ∧ (¬ (I47 46 13) = (nI 0) → _)
                  refine ⟨fun c8 => ?_, fun c8 => ?_⟩
                  · exact (h47.1 c8)
                  · show mm_b _ _ _ _ _ [some (.ref 46), none, none] [] ((fl, n1, n2, p, q, ad), I47, J47)
                    show mm_wc d 167 [.ref 46, .int (nI 4)] ((fl, 0, 0, p, q, ad), I47, J47) _
                    refine mm_wcm (h47.2 c8) ?_
                    rintro v τ ⟨r48, I48, J48, rfl, rfl, h48⟩
                    refine mm_r1' ⟨rfl, ?_⟩
                    exact h48
                · show mm_b _ _ _ _ _ [some (.ref 46), none, none] [] ((fl, n1, n2, p, q, ad), I, J)
                  show (vp_in (nI 6) 279) ∧ _
                  refine ⟨(mm_inl (by decide)), ?_⟩
                  show mm_b _ _ _ _ _ [some (.ref 46), none, none] [.int (I 50 6)] ((fl, n1, n2, p, q, ad), I, J)
                  show (¬ (I 50 6) = (nI 0) → _) ∧ ((I 50 6) = (nI 0) → _)
                  refine ⟨fun c8 => ?_, fun c8 => ?_⟩
                  · show mm_u _ _ _ _ _ _ [some (.ref 46), none, none] [] ((fl, n1, n2, p, q, ad), I, J)
                    show ((I 46 13) = (nI 0) → _) ∧ (¬ (I 46 13) = (nI 0) → _)
                    refine ⟨fun c9 => ?_, fun c9 => ?_⟩
                    · exact ((((((((((h.2 c0).1 c1).2 c2).1 c3).2 c4).2 c5).2 c6).2 c7).1 c8).1 c9)
                    · show mm_b _ _ _ _ _ [some (.ref 46), none, none] [] ((fl, n1, n2, p, q, ad), I, J)
                      show mm_wc d 167 [.ref 46, .int (nI 4)] ((fl, 0, 0, p, q, ad), I, J) _
                      refine mm_wcm ((((((((((h.2 c0).1 c1).2 c2).1 c3).2 c4).2 c5).2 c6).2 c7).1 c8).2 c9) ?_
                      rintro v τ ⟨r49, I49, J49, rfl, rfl, h49⟩
                      refine mm_r1' ⟨rfl, ?_⟩
                      exact h49
                  · show mm_b _ _ _ _ _ [some (.ref 46), none, none] [] ((fl, n1, n2, p, q, ad), I, J)
                    show mm_wc d 177 [.ref 46, .int (nI 6), .int (I 46 4)] ((fl, 0, 0, p, q, ad), I, J) _
                    refine mm_wcm (((((((((h.2 c0).1 c1).2 c2).1 c3).2 c4).2 c5).2 c6).2 c7).2 c8) ?_
                    rintro v τ ⟨I50, J50, rfl, rfl, h50⟩
                    refine mm_r0' ⟨rfl, ?_⟩
                    show mm_b _ _ _ _ _ [some (.ref 46), none, none] [] ((fl, n1, n2, p, q, ad), I50, J50)
                    show ((I50 46 13) = (nI 0) → _) ∧ (¬ (I50 46 13) = (nI 0) → _)
                    refine ⟨fun c9 => ?_, fun c9 => ?_⟩
                    · exact (h50.1 c9)
                    · show mm_b _ _ _ _ _ [some (.ref 46), none, none] [] ((fl, n1, n2, p, q, ad), I50, J50)
                      show mm_wc d 167 [.ref 46, .int (nI 4)] ((fl, 0, 0, p, q, ad), I50, J50) _
                      refine mm_wcm (h50.2 c9) ?_
                      rintro v τ ⟨r51, I51, J51, rfl, rfl, h51⟩
                      refine mm_r1' ⟨rfl, ?_⟩
                      exact h51
        · show mm_b _ _ _ _ _ [some (.ref 46), none, none] [] ((fl, n1, n2, p, q, ad), I, J)
          show mm_wc d 177 [.ref 46, .int (nI 1), .int (I 46 4)] ((fl, 0, 0, p, q, ad), I, J) _
          refine mm_wcm ((((h.2 c0).1 c1).2 c2).2 c3) ?_
          rintro v τ ⟨I52, J52, rfl, rfl, h52⟩
          refine mm_r0' ⟨rfl, ?_⟩
          show mm_b _ _ _ _ _ [some (.ref 46), none, none] [] ((fl, n1, n2, p, q, ad), I52, J52)
          show (¬ (I52 46 13) = (nI 0) → _) ∧ ((I52 46 13) = (nI 0) → _)
          refine ⟨fun c4 => ?_, fun c4 => ?_⟩
          · show mm_u _ _ _ _ _ _ [some (.ref 46), none, none] [] ((fl, n1, n2, p, q, ad), I52, J52)
            show ((I52 46 13) = (nI 0) → _) ∧ (¬ (I52 46 13) = (nI 0) → _)
            refine ⟨fun c5 => ?_, fun c5 => ?_⟩
            · exact ((h52.1 c4).1 c5)
            · show mm_b _ _ _ _ _ [some (.ref 46), none, none] [] ((fl, n1, n2, p, q, ad), I52, J52)
              show mm_wc d 167 [.ref 46, .int (nI 4)] ((fl, 0, 0, p, q, ad), I52, J52) _
              refine mm_wcm ((h52.1 c4).2 c5) ?_
              rintro v τ ⟨r53, I53, J53, rfl, rfl, h53⟩
              refine mm_r1' ⟨rfl, ?_⟩
              exact h53
          · show mm_b _ _ _ _ _ [some (.ref 46), none, none] [] ((fl, n1, n2, p, q, ad), I52, J52)
            show (vp_in (nI 0) 279) ∧ _
            refine ⟨(mm_inl (by decide)), ?_⟩
            show mm_b _ _ _ _ _ [some (.ref 46), none, none] [.int (I52 50 0)] ((fl, n1, n2, p, q, ad), I52, J52)
            show ((I52 50 0) = (nI 0) → _) ∧ (¬ (I52 50 0) = (nI 0) → _)
            refine ⟨fun c5 => ?_, fun c5 => ?_⟩
            · show mm_u _ _ _ _ _ _ [some (.ref 46), none, none] [] ((fl, n1, n2, p, q, ad), I52, J52)
              show mm_wc d 177 [.ref 46, .int (nI 6), .int (I52 46 4)] ((fl, 0, 0, p, q, ad), I52, J52) _
              refine mm_wcm ((h52.2 c4).1 c5) ?_
              rintro v τ ⟨I54, J54, rfl, rfl, h54⟩
              refine mm_r0' ⟨rfl, ?_⟩
              show mm_b _ _ _ _ _ [some (.ref 46), none, none] [] ((fl, n1, n2, p, q, ad), I54, J54)
              show ((I54 46 13) = (nI 0) → _) ∧ (¬ (I54 46 13) = (nI 0) → _)
              refine ⟨fun c6 => ?_, fun c6 => ?_⟩
              · exact (h54.1 c6)
              · show mm_b _ _ _ _ _ [some (.ref 46), none, none] [] ((fl, n1, n2, p, q, ad), I54, J54)
                show mm_wc d 167 [.ref 46, .int (nI 4)] ((fl, 0, 0, p, q, ad), I54, J54) _
                refine mm_wcm (h54.2 c6) ?_
                rintro v τ ⟨r55, I55, J55, rfl, rfl, h55⟩
                refine mm_r1' ⟨rfl, ?_⟩
                exact h55
            · show mm_b _ _ _ _ _ [some (.ref 46), none, none] [] ((fl, n1, n2, p, q, ad), I52, J52)
              show (vp_in (nI 3) 279) ∧ _
              refine ⟨(mm_inl (by decide)), ?_⟩
              show mm_b _ _ _ _ _ [some (.ref 46), none, none] [.int (I52 50 3)] ((fl, n1, n2, p, q, ad), I52, J52)
              show ((I52 50 3) = (nI 0) → _) ∧ (¬ (I52 50 3) = (nI 0) → _)
              refine ⟨fun c6 => ?_, fun c6 => ?_⟩
              · show mm_u _ _ _ _ _ _ [some (.ref 46), none, none] [] ((fl, n1, n2, p, q, ad), I52, J52)
                show mm_wc d 177 [.ref 46, .int (nI 6), .int (I52 46 4)] ((fl, 0, 0, p, q, ad), I52, J52) _
                refine mm_wcm (((h52.2 c4).2 c5).1 c6) ?_
                rintro v τ ⟨I56, J56, rfl, rfl, h56⟩
                refine mm_r0' ⟨rfl, ?_⟩
                show mm_b _ _ _ _ _ [some (.ref 46), none, none] [] ((fl, n1, n2, p, q, ad), I56, J56)
                show ((I56 46 13) = (nI 0) → _) ∧ (¬ (I56 46 13) = (nI 0) → _)
                refine ⟨fun c7 => ?_, fun c7 => ?_⟩
                · exact (h56.1 c7)
                · show mm_b _ _ _ _ _ [some (.ref 46), none, none] [] ((fl, n1, n2, p, q, ad), I56, J56)
                  show mm_wc d 167 [.ref 46, .int (nI 4)] ((fl, 0, 0, p, q, ad), I56, J56) _
                  refine mm_wcm (h56.2 c7) ?_
                  rintro v τ ⟨r57, I57, J57, rfl, rfl, h57⟩
                  refine mm_r1' ⟨rfl, ?_⟩
                  exact h57
              · show mm_b _ _ _ _ _ [some (.ref 46), none, none] [] ((fl, n1, n2, p, q, ad), I52, J52)
                show (vp_in (nI 4) 279) ∧ _
                refine ⟨(mm_inl (by decide)), ?_⟩
                show mm_b _ _ _ _ _ [some (.ref 46), none, none] [.int (I52 50 4)] ((fl, n1, n2, p, q, ad), I52, J52)
                show ((I52 50 4) = (nI 0) → _) ∧ (¬ (I52 50 4) = (nI 0) → _)
                refine ⟨fun c7 => ?_, fun c7 => ?_⟩
                · show mm_u _ _ _ _ _ _ [some (.ref 46), none, none] [] ((fl, n1, n2, p, q, ad), I52, J52)
                  show mm_wc d 177 [.ref 46, .int (nI 6), .int (I52 46 4)] ((fl, 0, 0, p, q, ad), I52, J52) _
                  refine mm_wcm ((((h52.2 c4).2 c5).2 c6).1 c7) ?_
                  rintro v τ ⟨I58, J58, rfl, rfl, h58⟩
                  refine mm_r0' ⟨rfl, ?_⟩
                  show mm_b _ _ _ _ _ [some (.ref 46), none, none] [] ((fl, n1, n2, p, q, ad), I58, J58)
                  show ((I58 46 13) = (nI 0) → _) ∧ (¬ (I58 46 13) = (nI 0) → _)
                  refine ⟨fun c8 => ?_, fun c8 => ?_⟩
                  · exact (h58.1 c8)
                  · show mm_b _ _ _ _ _ [some (.ref 46), none, none] [] ((fl, n1, n2, p, q, ad), I58, J58)
                    show mm_wc d 167 [.ref 46, .int (nI 4)] ((fl, 0, 0, p, q, ad), I58, J58) _
                    refine mm_wcm (h58.2 c8) ?_
                    rintro v τ ⟨r59, I59, J59, rfl, rfl, h59⟩
                    refine mm_r1' ⟨rfl, ?_⟩
                    exact h59
                · show mm_b _ _ _ _ _ [some (.ref 46), none, none] [] ((fl, n1, n2, p, q, ad), I52, J52)
                  show (vp_in (nI 6) 279) ∧ _
                  refine ⟨(mm_inl (by decide)), ?_⟩
                  show mm_b _ _ _ _ _ [some (.ref 46), none, none] [.int (I52 50 6)] ((fl, n1, n2, p, q, ad), I52, J52)
                  show (¬ (I52 50 6) = (nI 0) → _) ∧ ((I52 50 6) = (nI 0) → _)
                  refine ⟨fun c8 => ?_, fun c8 => ?_⟩
                  · show mm_u _ _ _ _ _ _ [some (.ref 46), none, none] [] ((fl, n1, n2, p, q, ad), I52, J52)
                    show ((I52 46 13) = (nI 0) → _) ∧ (¬ (I52 46 13) = (nI 0) → _)
                    refine ⟨fun c9 => ?_, fun c9 => ?_⟩
                    · exact ((((((h52.2 c4).2 c5).2 c6).2 c7).1 c8).1 c9)
                    · show mm_b _ _ _ _ _ [some (.ref 46), none, none] [] ((fl, n1, n2, p, q, ad), I52, J52)
                      show mm_wc d 167 [.ref 46, .int (nI 4)] ((fl, 0, 0, p, q, ad), I52, J52) _
                      refine mm_wcm ((((((h52.2 c4).2 c5).2 c6).2 c7).1 c8).2 c9) ?_
                      rintro v τ ⟨r60, I60, J60, rfl, rfl, h60⟩
                      refine mm_r1' ⟨rfl, ?_⟩
                      exact h60
                  · show mm_b _ _ _ _ _ [some (.ref 46), none, none] [] ((fl, n1, n2, p, q, ad), I52, J52)
                    show mm_wc d 177 [.ref 46, .int (nI 6), .int (I52 46 4)] ((fl, 0, 0, p, q, ad), I52, J52) _
                    refine mm_wcm (((((h52.2 c4).2 c5).2 c6).2 c7).2 c8) ?_
                    rintro v τ ⟨I61, J61, rfl, rfl, h61⟩
                    refine mm_r0' ⟨rfl, ?_⟩
                    show mm_b _ _ _ _ _ [some (.ref 46), none, none] [] ((fl, n1, n2, p, q, ad), I61, J61)
                    show ((I61 46 13) = (nI 0) → _) ∧ (¬ (I61 46 13) = (nI 0) → _)
                    refine ⟨fun c9 => ?_, fun c9 => ?_⟩
                    · exact (h61.1 c9)
                    · show mm_b _ _ _ _ _ [some (.ref 46), none, none] [] ((fl, n1, n2, p, q, ad), I61, J61)
                      show mm_wc d 167 [.ref 46, .int (nI 4)] ((fl, 0, 0, p, q, ad), I61, J61) _
                      refine mm_wcm (h61.2 c9) ?_
                      rintro v τ ⟨r62, I62, J62, rfl, rfl, h62⟩
                      refine mm_r1' ⟨rfl, ?_⟩
                      exact h62
    · show mm_b _ _ _ _ _ [some (.ref 46), none, none] [] ((fl, n1, n2, p, q, ad), I, J)
      show mm_wc d 176 [.ref 46] ((fl, 0, 0, p, q, ad), I, J) _
      refine mm_wcm ((h.2 c0).2 c1) ?_
      rintro v τ ⟨I63, J63, rfl, rfl, h63⟩
      refine mm_r0' ⟨rfl, ?_⟩
      show mm_b _ _ _ _ _ [some (.ref 46), none, none] [] ((fl, n1, n2, p, q, ad), I63, J63)
      show mm_wc d 190 [.ref 46] ((fl, 0, 0, p, q, ad), I63, J63) _
      refine mm_wcm h63 ?_
      rintro v τ ⟨I64, J64, rfl, rfl, h64⟩
      refine mm_r0' ⟨rfl, ?_⟩
      exact h64
theorem fx_188_196 {d : Nat} {a2 : Int32} {fl : Nat → Bool} {n1 n2 : Nat} {p q : Bool} {ad : Nat → Nat} {I : mmI} {J : mmJ} {Q : mmQ} (h : (((nI 279) ≤ a2 → mm_wc d 205 [.ref 46] ((fl, 0, 0, p, q, ad), (mm_up (mm_up (mm_up I 46 14 (nI 1)) 46 19 (nI 0)) 46 20 (nI 0)), J) (fun v τ => ∃ r1 I1 J1, v = some (.int r1) ∧ τ = ((fl, 0, 0, p, q, ad), I1, J1) ∧ mm_wc d 210 [.ref 46] ((fl, 0, 0, p, q, ad), (mm_up (mm_up I1 46 17 r1) 46 18 (nI 0)), J1) (fun v τ => ∃ I2 J2, v = none ∧ τ = ((fl, 0, 0, p, q, ad), I2, J2) ∧ mm_wc d 206 [.ref 46] ((fl, 0, 0, p, q, ad), I2, J2) (fun v τ => ∃ r3 I3 J3, v = some (.int r3) ∧ τ = ((fl, 0, 0, p, q, ad), I3, J3) ∧ Q (some (.int r3)) ((fl, n1, n2, p, q, ad), I3, J3))))) ∧ (¬ (nI 279) ≤ a2 → (vp_in a2 279 ∧ (vp_in a2 279 ∧ mm_w Q (mm_wc d) bk_188 196 [some (.ref 46), none, some (.int (a2 + (nI 1)))] [] ((fl, n1, n2, p, q, ad), (mm_up I 49 a2.toNatClampNeg (I 50 a2.toNatClampNeg)), J)))))) : mm_w Q (mm_wc (d)) bk_188 196 [some (.ref 46), none, some (.int a2)] [] ((fl, n1, n2, p, q, ad), I, J) := by
  refine mm_go [39, 77, 196] 80 ?_
  show ((nI 279) ≤ a2 → _) ∧ (¬ (nI 279) ≤ a2 → _)
  refine ⟨fun c0 => ?_, fun c0 => ?_⟩
  · show mm_u _ _ _ _ _ _ [some (.ref 46), none, some (.int a2)] [] ((fl, n1, n2, p, q, ad), I, J)
    show (((nI 1) : Int32) = 0 ∨ ((nI 1) : Int32) = 1) ∧ _
    refine ⟨(by decide), ?_⟩
    show mm_b _ _ _ _ _ [some (.ref 46), none, none] [] ((fl, n1, n2, p, q, ad), (mm_up I 46 14 (nI 1)), J)
    show mm_wc d 205 [.ref 46] ((fl, 0, 0, p, q, ad), (mm_up (mm_up (mm_up I 46 14 (nI 1)) 46 19 (nI 0)) 46 20 (nI 0)), J) _
    refine mm_wcm (h.1 c0) ?_
    rintro v τ ⟨r1, I1, J1, rfl, rfl, h1⟩
    refine mm_r1' ⟨rfl, ?_⟩
    show mm_b _ _ _ _ _ [some (.ref 46), none, none] [.int r1, .ref 46] ((fl, n1, n2, p, q, ad), I1, J1)
    show mm_wc d 210 [.ref 46] ((fl, 0, 0, p, q, ad), (mm_up (mm_up I1 46 17 r1) 46 18 (nI 0)), J1) _
    refine mm_wcm h1 ?_
    rintro v τ ⟨I2, J2, rfl, rfl, h2⟩
    refine mm_r0' ⟨rfl, ?_⟩
    show mm_b _ _ _ _ _ [some (.ref 46), none, none] [] ((fl, n1, n2, p, q, ad), I2, J2)
    show mm_wc d 206 [.ref 46] ((fl, 0, 0, p, q, ad), I2, J2) _
    refine mm_wcm h2 ?_
    rintro v τ ⟨r3, I3, J3, rfl, rfl, h3⟩
    refine mm_r1' ⟨rfl, ?_⟩
    exact h3
  · show mm_b _ _ _ _ _ [some (.ref 46), none, some (.int a2)] [] ((fl, n1, n2, p, q, ad), I, J)
    show vp_in a2 279 ∧ _
    refine ⟨(h.2 c0).1, ?_⟩
    show mm_b _ _ _ _ _ [some (.ref 46), none, some (.int a2)] [.int (I 50 a2.toNatClampNeg), .int a2, .ref 49] ((fl, n1, n2, p, q, ad), I, J)
    show vp_in a2 279 ∧ _
    refine ⟨(h.2 c0).2.1, ?_⟩
    exact (h.2 c0).2.2
/- 189 ThreeBreathsModel begins -/
theorem fx_189_cake {d : Nat} {x1 : Int32} {x2 : Int32} {fl : Nat → Bool} {n1 n2 : Nat} {p q : Bool} {ad : Nat → Nat} {I : mmI} {J : mmJ} {Q : mmQ} (h : mm_wc d 178 [.ref 46, .ref 98] ((fl, 0, 0, p, q, ad), I, J) (fun v τ => ∃ r1 I1 J1, v = some (.int r1) ∧ τ = ((fl, 0, 0, p, q, ad), I1, J1) ∧ ((¬ r1 = (nI 0) → ((¬ x1 = (nI 0) → ((¬ (I1 46 13) = (nI 0) → Q (some (.int (nI 1))) ((fl, n1, n2, p, q, ad), I1, J1)) ∧ ((I1 46 13) = (nI 0) → mm_wc d 176 [.ref 46] ((fl, 0, 0, p, q, ad), I1, J1) (fun v τ => ∃ I2 J2, v = none ∧ τ = ((fl, 0, 0, p, q, ad), I2, J2) ∧ Q (some (.int (nI 1))) ((fl, n1, n2, p, q, ad), I2, J2))))) ∧ (x1 = (nI 0) → mm_wc d 177 [.ref 46, .int x2, .int (I1 46 4)] ((fl, 0, 0, p, q, ad), I1, J1) (fun v τ => ∃ I3 J3, v = none ∧ τ = ((fl, 0, 0, p, q, ad), I3, J3) ∧ ((¬ (I3 46 13) = (nI 0) → Q (some (.int (nI 1))) ((fl, n1, n2, p, q, ad), I3, J3)) ∧ ((I3 46 13) = (nI 0) → mm_wc d 176 [.ref 46] ((fl, 0, 0, p, q, ad), I3, J3) (fun v τ => ∃ I4 J4, v = none ∧ τ = ((fl, 0, 0, p, q, ad), I4, J4) ∧ Q (some (.int (nI 1))) ((fl, n1, n2, p, q, ad), I4, J4)))))))) ∧ (r1 = (nI 0) → Q (some (.int (nI 0))) ((fl, n1, n2, p, q, ad), I1, J1))))) : mm_wc (d + 1) 189 [.ref 46, .ref 98, .int x1, .int x2] ((fl, n1, n2, p, q, ad), I, J) Q := by
  refine mm_call (c := 189) rfl rfl ?_
  refine mm_go [] 80 ?_
  show mm_wc d 178 [.ref 46, .ref 98] ((fl, 0, 0, p, q, ad), I, J) _
  refine mm_wcm h ?_
  rintro v τ ⟨r1, I1, J1, rfl, rfl, h1⟩
  refine mm_r1' ⟨rfl, ?_⟩
  show mm_b _ _ _ _ _ [some (.ref 46), some (.ref 98), some (.int x1), some (.int x2)] [.int r1] ((fl, n1, n2, p, q, ad), I1, J1)
  show (¬ r1 = (nI 0) → _) ∧ (r1 = (nI 0) → _)
  refine ⟨fun c0 => ?_, fun c0 => ?_⟩
  · show mm_u _ _ _ _ _ _ [some (.ref 46), some (.ref 98), some (.int x1), some (.int x2)] [] ((fl, n1, n2, p, q, ad), I1, J1)
    show (¬ x1 = (nI 0) → _) ∧ (x1 = (nI 0) → _)
    refine ⟨fun c1 => ?_, fun c1 => ?_⟩
    · show mm_u _ _ _ _ _ _ [some (.ref 46), none, some (.int x1), some (.int x2)] [] ((fl, n1, n2, p, q, ad), I1, J1)
      show (¬ (I1 46 13) = (nI 0) → _) ∧ ((I1 46 13) = (nI 0) → _)
      refine ⟨fun c2 => ?_, fun c2 => ?_⟩
      · show mm_u _ _ _ _ _ _ [some (.ref 46), none, none, none] [] ((fl, n1, n2, p, q, ad), I1, J1)
        show (((nI 1) : Int32) = 0 ∨ ((nI 1) : Int32) = 1) ∧ _
        refine ⟨(by decide), ?_⟩
        exact (((h1.1 c0).1 c1).1 c2)
      · show mm_b _ _ _ _ _ [some (.ref 46), none, none, none] [] ((fl, n1, n2, p, q, ad), I1, J1)
        show mm_wc d 176 [.ref 46] ((fl, 0, 0, p, q, ad), I1, J1) _
        refine mm_wcm (((h1.1 c0).1 c1).2 c2) ?_
        rintro v τ ⟨I2, J2, rfl, rfl, h2⟩
        refine mm_r0' ⟨rfl, ?_⟩
        show mm_b _ _ _ _ _ [some (.ref 46), none, none, none] [] ((fl, n1, n2, p, q, ad), I2, J2)
        show (((nI 1) : Int32) = 0 ∨ ((nI 1) : Int32) = 1) ∧ _
        refine ⟨(by decide), ?_⟩
        exact h2
    · show mm_b _ _ _ _ _ [some (.ref 46), none, some (.int x1), some (.int x2)] [] ((fl, n1, n2, p, q, ad), I1, J1)
      show mm_wc d 177 [.ref 46, .int x2, .int (I1 46 4)] ((fl, 0, 0, p, q, ad), I1, J1) _
      refine mm_wcm ((h1.1 c0).2 c1) ?_
      rintro v τ ⟨I3, J3, rfl, rfl, h3⟩
      refine mm_r0' ⟨rfl, ?_⟩
      show mm_b _ _ _ _ _ [some (.ref 46), none, some (.int x1), some (.int x2)] [] ((fl, n1, n2, p, q, ad), I3, J3)
      show (¬ (I3 46 13) = (nI 0) → _) ∧ ((I3 46 13) = (nI 0) → _)
      refine ⟨fun c2 => ?_, fun c2 => ?_⟩
      · show mm_u _ _ _ _ _ _ [some (.ref 46), none, none, none] [] ((fl, n1, n2, p, q, ad), I3, J3)
        show (((nI 1) : Int32) = 0 ∨ ((nI 1) : Int32) = 1) ∧ _
        refine ⟨(by decide), ?_⟩
        exact (h3.1 c2)
      · show mm_b _ _ _ _ _ [some (.ref 46), none, none, none] [] ((fl, n1, n2, p, q, ad), I3, J3)
        show mm_wc d 176 [.ref 46] ((fl, 0, 0, p, q, ad), I3, J3) _
        refine mm_wcm (h3.2 c2) ?_
        rintro v τ ⟨I4, J4, rfl, rfl, h4⟩
        refine mm_r0' ⟨rfl, ?_⟩
        show mm_b _ _ _ _ _ [some (.ref 46), none, none, none] [] ((fl, n1, n2, p, q, ad), I4, J4)
        show (((nI 1) : Int32) = 0 ∨ ((nI 1) : Int32) = 1) ∧ _
        refine ⟨(by decide), ?_⟩
        exact h4
  · show mm_b _ _ _ _ _ [some (.ref 46), some (.ref 98), some (.int x1), some (.int x2)] [] ((fl, n1, n2, p, q, ad), I1, J1)
    show (((nI 0) : Int32) = 0 ∨ ((nI 0) : Int32) = 1) ∧ _
    refine ⟨(by decide), ?_⟩
    exact (h1.2 c0)
/- 189 ThreeBreathsModel begins -/
theorem fx_189_candle {d : Nat} {x1 : Int32} {x2 : Int32} {fl : Nat → Bool} {n1 n2 : Nat} {p q : Bool} {ad : Nat → Nat} {I : mmI} {J : mmJ} {Q : mmQ} (h : mm_wc d 178 [.ref 46, .ref 101] ((fl, 0, 0, p, q, ad), I, J) (fun v τ => ∃ r1 I1 J1, v = some (.int r1) ∧ τ = ((fl, 0, 0, p, q, ad), I1, J1) ∧ ((¬ r1 = (nI 0) → ((¬ x1 = (nI 0) → ((¬ (I1 46 13) = (nI 0) → Q (some (.int (nI 1))) ((fl, n1, n2, p, q, ad), I1, J1)) ∧ ((I1 46 13) = (nI 0) → mm_wc d 176 [.ref 46] ((fl, 0, 0, p, q, ad), I1, J1) (fun v τ => ∃ I2 J2, v = none ∧ τ = ((fl, 0, 0, p, q, ad), I2, J2) ∧ Q (some (.int (nI 1))) ((fl, n1, n2, p, q, ad), I2, J2))))) ∧ (x1 = (nI 0) → mm_wc d 177 [.ref 46, .int x2, .int (I1 46 4)] ((fl, 0, 0, p, q, ad), I1, J1) (fun v τ => ∃ I3 J3, v = none ∧ τ = ((fl, 0, 0, p, q, ad), I3, J3) ∧ ((¬ (I3 46 13) = (nI 0) → Q (some (.int (nI 1))) ((fl, n1, n2, p, q, ad), I3, J3)) ∧ ((I3 46 13) = (nI 0) → mm_wc d 176 [.ref 46] ((fl, 0, 0, p, q, ad), I3, J3) (fun v τ => ∃ I4 J4, v = none ∧ τ = ((fl, 0, 0, p, q, ad), I4, J4) ∧ Q (some (.int (nI 1))) ((fl, n1, n2, p, q, ad), I4, J4)))))))) ∧ (r1 = (nI 0) → Q (some (.int (nI 0))) ((fl, n1, n2, p, q, ad), I1, J1))))) : mm_wc (d + 1) 189 [.ref 46, .ref 101, .int x1, .int x2] ((fl, n1, n2, p, q, ad), I, J) Q := by
  refine mm_call (c := 189) rfl rfl ?_
  refine mm_go [] 80 ?_
  show mm_wc d 178 [.ref 46, .ref 101] ((fl, 0, 0, p, q, ad), I, J) _
  refine mm_wcm h ?_
  rintro v τ ⟨r1, I1, J1, rfl, rfl, h1⟩
  refine mm_r1' ⟨rfl, ?_⟩
  show mm_b _ _ _ _ _ [some (.ref 46), some (.ref 101), some (.int x1), some (.int x2)] [.int r1] ((fl, n1, n2, p, q, ad), I1, J1)
  show (¬ r1 = (nI 0) → _) ∧ (r1 = (nI 0) → _)
  refine ⟨fun c0 => ?_, fun c0 => ?_⟩
  · show mm_u _ _ _ _ _ _ [some (.ref 46), some (.ref 101), some (.int x1), some (.int x2)] [] ((fl, n1, n2, p, q, ad), I1, J1)
    show (¬ x1 = (nI 0) → _) ∧ (x1 = (nI 0) → _)
    refine ⟨fun c1 => ?_, fun c1 => ?_⟩
    · show mm_u _ _ _ _ _ _ [some (.ref 46), none, some (.int x1), some (.int x2)] [] ((fl, n1, n2, p, q, ad), I1, J1)
      show (¬ (I1 46 13) = (nI 0) → _) ∧ ((I1 46 13) = (nI 0) → _)
      refine ⟨fun c2 => ?_, fun c2 => ?_⟩
      · show mm_u _ _ _ _ _ _ [some (.ref 46), none, none, none] [] ((fl, n1, n2, p, q, ad), I1, J1)
        show (((nI 1) : Int32) = 0 ∨ ((nI 1) : Int32) = 1) ∧ _
        refine ⟨(by decide), ?_⟩
        exact (((h1.1 c0).1 c1).1 c2)
      · show mm_b _ _ _ _ _ [some (.ref 46), none, none, none] [] ((fl, n1, n2, p, q, ad), I1, J1)
        show mm_wc d 176 [.ref 46] ((fl, 0, 0, p, q, ad), I1, J1) _
        refine mm_wcm (((h1.1 c0).1 c1).2 c2) ?_
        rintro v τ ⟨I2, J2, rfl, rfl, h2⟩
        refine mm_r0' ⟨rfl, ?_⟩
        show mm_b _ _ _ _ _ [some (.ref 46), none, none, none] [] ((fl, n1, n2, p, q, ad), I2, J2)
        show (((nI 1) : Int32) = 0 ∨ ((nI 1) : Int32) = 1) ∧ _
        refine ⟨(by decide), ?_⟩
        exact h2
    · show mm_b _ _ _ _ _ [some (.ref 46), none, some (.int x1), some (.int x2)] [] ((fl, n1, n2, p, q, ad), I1, J1)
      show mm_wc d 177 [.ref 46, .int x2, .int (I1 46 4)] ((fl, 0, 0, p, q, ad), I1, J1) _
      refine mm_wcm ((h1.1 c0).2 c1) ?_
      rintro v τ ⟨I3, J3, rfl, rfl, h3⟩
      refine mm_r0' ⟨rfl, ?_⟩
      show mm_b _ _ _ _ _ [some (.ref 46), none, some (.int x1), some (.int x2)] [] ((fl, n1, n2, p, q, ad), I3, J3)
      show (¬ (I3 46 13) = (nI 0) → _) ∧ ((I3 46 13) = (nI 0) → _)
      refine ⟨fun c2 => ?_, fun c2 => ?_⟩
      · show mm_u _ _ _ _ _ _ [some (.ref 46), none, none, none] [] ((fl, n1, n2, p, q, ad), I3, J3)
        show (((nI 1) : Int32) = 0 ∨ ((nI 1) : Int32) = 1) ∧ _
        refine ⟨(by decide), ?_⟩
        exact (h3.1 c2)
      · show mm_b _ _ _ _ _ [some (.ref 46), none, none, none] [] ((fl, n1, n2, p, q, ad), I3, J3)
        show mm_wc d 176 [.ref 46] ((fl, 0, 0, p, q, ad), I3, J3) _
        refine mm_wcm (h3.2 c2) ?_
        rintro v τ ⟨I4, J4, rfl, rfl, h4⟩
        refine mm_r0' ⟨rfl, ?_⟩
        show mm_b _ _ _ _ _ [some (.ref 46), none, none, none] [] ((fl, n1, n2, p, q, ad), I4, J4)
        show (((nI 1) : Int32) = 0 ∨ ((nI 1) : Int32) = 1) ∧ _
        refine ⟨(by decide), ?_⟩
        exact h4
  · show mm_b _ _ _ _ _ [some (.ref 46), some (.ref 101), some (.int x1), some (.int x2)] [] ((fl, n1, n2, p, q, ad), I1, J1)
    show (((nI 0) : Int32) = 0 ∨ ((nI 0) : Int32) = 1) ∧ _
    refine ⟨(by decide), ?_⟩
    exact (h1.2 c0)
/- 189 ThreeBreathsModel begins -/
theorem fx_189_place {d : Nat} {x1 : Int32} {x2 : Int32} {fl : Nat → Bool} {n1 n2 : Nat} {p q : Bool} {ad : Nat → Nat} {I : mmI} {J : mmJ} {Q : mmQ} (h : mm_wc d 178 [.ref 46, .ref 102] ((fl, 0, 0, p, q, ad), I, J) (fun v τ => ∃ r1 I1 J1, v = some (.int r1) ∧ τ = ((fl, 0, 0, p, q, ad), I1, J1) ∧ ((¬ r1 = (nI 0) → ((¬ x1 = (nI 0) → ((¬ (I1 46 13) = (nI 0) → Q (some (.int (nI 1))) ((fl, n1, n2, p, q, ad), I1, J1)) ∧ ((I1 46 13) = (nI 0) → mm_wc d 176 [.ref 46] ((fl, 0, 0, p, q, ad), I1, J1) (fun v τ => ∃ I2 J2, v = none ∧ τ = ((fl, 0, 0, p, q, ad), I2, J2) ∧ Q (some (.int (nI 1))) ((fl, n1, n2, p, q, ad), I2, J2))))) ∧ (x1 = (nI 0) → mm_wc d 177 [.ref 46, .int x2, .int (I1 46 4)] ((fl, 0, 0, p, q, ad), I1, J1) (fun v τ => ∃ I3 J3, v = none ∧ τ = ((fl, 0, 0, p, q, ad), I3, J3) ∧ ((¬ (I3 46 13) = (nI 0) → Q (some (.int (nI 1))) ((fl, n1, n2, p, q, ad), I3, J3)) ∧ ((I3 46 13) = (nI 0) → mm_wc d 176 [.ref 46] ((fl, 0, 0, p, q, ad), I3, J3) (fun v τ => ∃ I4 J4, v = none ∧ τ = ((fl, 0, 0, p, q, ad), I4, J4) ∧ Q (some (.int (nI 1))) ((fl, n1, n2, p, q, ad), I4, J4)))))))) ∧ (r1 = (nI 0) → Q (some (.int (nI 0))) ((fl, n1, n2, p, q, ad), I1, J1))))) : mm_wc (d + 1) 189 [.ref 46, .ref 102, .int x1, .int x2] ((fl, n1, n2, p, q, ad), I, J) Q := by
  refine mm_call (c := 189) rfl rfl ?_
  refine mm_go [] 80 ?_
  show mm_wc d 178 [.ref 46, .ref 102] ((fl, 0, 0, p, q, ad), I, J) _
  refine mm_wcm h ?_
  rintro v τ ⟨r1, I1, J1, rfl, rfl, h1⟩
  refine mm_r1' ⟨rfl, ?_⟩
  show mm_b _ _ _ _ _ [some (.ref 46), some (.ref 102), some (.int x1), some (.int x2)] [.int r1] ((fl, n1, n2, p, q, ad), I1, J1)
  show (¬ r1 = (nI 0) → _) ∧ (r1 = (nI 0) → _)
  refine ⟨fun c0 => ?_, fun c0 => ?_⟩
  · show mm_u _ _ _ _ _ _ [some (.ref 46), some (.ref 102), some (.int x1), some (.int x2)] [] ((fl, n1, n2, p, q, ad), I1, J1)
    show (¬ x1 = (nI 0) → _) ∧ (x1 = (nI 0) → _)
    refine ⟨fun c1 => ?_, fun c1 => ?_⟩
    · show mm_u _ _ _ _ _ _ [some (.ref 46), none, some (.int x1), some (.int x2)] [] ((fl, n1, n2, p, q, ad), I1, J1)
      show (¬ (I1 46 13) = (nI 0) → _) ∧ ((I1 46 13) = (nI 0) → _)
      refine ⟨fun c2 => ?_, fun c2 => ?_⟩
      · show mm_u _ _ _ _ _ _ [some (.ref 46), none, none, none] [] ((fl, n1, n2, p, q, ad), I1, J1)
        show (((nI 1) : Int32) = 0 ∨ ((nI 1) : Int32) = 1) ∧ _
        refine ⟨(by decide), ?_⟩
        exact (((h1.1 c0).1 c1).1 c2)
      · show mm_b _ _ _ _ _ [some (.ref 46), none, none, none] [] ((fl, n1, n2, p, q, ad), I1, J1)
        show mm_wc d 176 [.ref 46] ((fl, 0, 0, p, q, ad), I1, J1) _
        refine mm_wcm (((h1.1 c0).1 c1).2 c2) ?_
        rintro v τ ⟨I2, J2, rfl, rfl, h2⟩
        refine mm_r0' ⟨rfl, ?_⟩
        show mm_b _ _ _ _ _ [some (.ref 46), none, none, none] [] ((fl, n1, n2, p, q, ad), I2, J2)
        show (((nI 1) : Int32) = 0 ∨ ((nI 1) : Int32) = 1) ∧ _
        refine ⟨(by decide), ?_⟩
        exact h2
    · show mm_b _ _ _ _ _ [some (.ref 46), none, some (.int x1), some (.int x2)] [] ((fl, n1, n2, p, q, ad), I1, J1)
      show mm_wc d 177 [.ref 46, .int x2, .int (I1 46 4)] ((fl, 0, 0, p, q, ad), I1, J1) _
      refine mm_wcm ((h1.1 c0).2 c1) ?_
      rintro v τ ⟨I3, J3, rfl, rfl, h3⟩
      refine mm_r0' ⟨rfl, ?_⟩
      show mm_b _ _ _ _ _ [some (.ref 46), none, some (.int x1), some (.int x2)] [] ((fl, n1, n2, p, q, ad), I3, J3)
      show (¬ (I3 46 13) = (nI 0) → _) ∧ ((I3 46 13) = (nI 0) → _)
      refine ⟨fun c2 => ?_, fun c2 => ?_⟩
      · show mm_u _ _ _ _ _ _ [some (.ref 46), none, none, none] [] ((fl, n1, n2, p, q, ad), I3, J3)
        show (((nI 1) : Int32) = 0 ∨ ((nI 1) : Int32) = 1) ∧ _
        refine ⟨(by decide), ?_⟩
        exact (h3.1 c2)
      · show mm_b _ _ _ _ _ [some (.ref 46), none, none, none] [] ((fl, n1, n2, p, q, ad), I3, J3)
        show mm_wc d 176 [.ref 46] ((fl, 0, 0, p, q, ad), I3, J3) _
        refine mm_wcm (h3.2 c2) ?_
        rintro v τ ⟨I4, J4, rfl, rfl, h4⟩
        refine mm_r0' ⟨rfl, ?_⟩
        show mm_b _ _ _ _ _ [some (.ref 46), none, none, none] [] ((fl, n1, n2, p, q, ad), I4, J4)
        show (((nI 1) : Int32) = 0 ∨ ((nI 1) : Int32) = 1) ∧ _
        refine ⟨(by decide), ?_⟩
        exact h4
  · show mm_b _ _ _ _ _ [some (.ref 46), some (.ref 102), some (.int x1), some (.int x2)] [] ((fl, n1, n2, p, q, ad), I1, J1)
    show (((nI 0) : Int32) = 0 ∨ ((nI 0) : Int32) = 1) ∧ _
    refine ⟨(by decide), ?_⟩
    exact (h1.2 c0)
/- 189 ThreeBreathsModel begins -/
theorem fx_189_spot {d : Nat} {x1 : Int32} {x2 : Int32} {fl : Nat → Bool} {n1 n2 : Nat} {p q : Bool} {ad : Nat → Nat} {I : mmI} {J : mmJ} {Q : mmQ} (h : mm_wc d 178 [.ref 46, .ref 103] ((fl, 0, 0, p, q, ad), I, J) (fun v τ => ∃ r1 I1 J1, v = some (.int r1) ∧ τ = ((fl, 0, 0, p, q, ad), I1, J1) ∧ ((¬ r1 = (nI 0) → ((¬ x1 = (nI 0) → ((¬ (I1 46 13) = (nI 0) → Q (some (.int (nI 1))) ((fl, n1, n2, p, q, ad), I1, J1)) ∧ ((I1 46 13) = (nI 0) → mm_wc d 176 [.ref 46] ((fl, 0, 0, p, q, ad), I1, J1) (fun v τ => ∃ I2 J2, v = none ∧ τ = ((fl, 0, 0, p, q, ad), I2, J2) ∧ Q (some (.int (nI 1))) ((fl, n1, n2, p, q, ad), I2, J2))))) ∧ (x1 = (nI 0) → mm_wc d 177 [.ref 46, .int x2, .int (I1 46 4)] ((fl, 0, 0, p, q, ad), I1, J1) (fun v τ => ∃ I3 J3, v = none ∧ τ = ((fl, 0, 0, p, q, ad), I3, J3) ∧ ((¬ (I3 46 13) = (nI 0) → Q (some (.int (nI 1))) ((fl, n1, n2, p, q, ad), I3, J3)) ∧ ((I3 46 13) = (nI 0) → mm_wc d 176 [.ref 46] ((fl, 0, 0, p, q, ad), I3, J3) (fun v τ => ∃ I4 J4, v = none ∧ τ = ((fl, 0, 0, p, q, ad), I4, J4) ∧ Q (some (.int (nI 1))) ((fl, n1, n2, p, q, ad), I4, J4)))))))) ∧ (r1 = (nI 0) → Q (some (.int (nI 0))) ((fl, n1, n2, p, q, ad), I1, J1))))) : mm_wc (d + 1) 189 [.ref 46, .ref 103, .int x1, .int x2] ((fl, n1, n2, p, q, ad), I, J) Q := by
  refine mm_call (c := 189) rfl rfl ?_
  refine mm_go [] 80 ?_
  show mm_wc d 178 [.ref 46, .ref 103] ((fl, 0, 0, p, q, ad), I, J) _
  refine mm_wcm h ?_
  rintro v τ ⟨r1, I1, J1, rfl, rfl, h1⟩
  refine mm_r1' ⟨rfl, ?_⟩
  show mm_b _ _ _ _ _ [some (.ref 46), some (.ref 103), some (.int x1), some (.int x2)] [.int r1] ((fl, n1, n2, p, q, ad), I1, J1)
  show (¬ r1 = (nI 0) → _) ∧ (r1 = (nI 0) → _)
  refine ⟨fun c0 => ?_, fun c0 => ?_⟩
  · show mm_u _ _ _ _ _ _ [some (.ref 46), some (.ref 103), some (.int x1), some (.int x2)] [] ((fl, n1, n2, p, q, ad), I1, J1)
    show (¬ x1 = (nI 0) → _) ∧ (x1 = (nI 0) → _)
    refine ⟨fun c1 => ?_, fun c1 => ?_⟩
    · show mm_u _ _ _ _ _ _ [some (.ref 46), none, some (.int x1), some (.int x2)] [] ((fl, n1, n2, p, q, ad), I1, J1)
      show (¬ (I1 46 13) = (nI 0) → _) ∧ ((I1 46 13) = (nI 0) → _)
      refine ⟨fun c2 => ?_, fun c2 => ?_⟩
      · show mm_u _ _ _ _ _ _ [some (.ref 46), none, none, none] [] ((fl, n1, n2, p, q, ad), I1, J1)
        show (((nI 1) : Int32) = 0 ∨ ((nI 1) : Int32) = 1) ∧ _
        refine ⟨(by decide), ?_⟩
        exact (((h1.1 c0).1 c1).1 c2)
      · show mm_b _ _ _ _ _ [some (.ref 46), none, none, none] [] ((fl, n1, n2, p, q, ad), I1, J1)
        show mm_wc d 176 [.ref 46] ((fl, 0, 0, p, q, ad), I1, J1) _
        refine mm_wcm (((h1.1 c0).1 c1).2 c2) ?_
        rintro v τ ⟨I2, J2, rfl, rfl, h2⟩
        refine mm_r0' ⟨rfl, ?_⟩
        show mm_b _ _ _ _ _ [some (.ref 46), none, none, none] [] ((fl, n1, n2, p, q, ad), I2, J2)
        show (((nI 1) : Int32) = 0 ∨ ((nI 1) : Int32) = 1) ∧ _
        refine ⟨(by decide), ?_⟩
        exact h2
    · show mm_b _ _ _ _ _ [some (.ref 46), none, some (.int x1), some (.int x2)] [] ((fl, n1, n2, p, q, ad), I1, J1)
      show mm_wc d 177 [.ref 46, .int x2, .int (I1 46 4)] ((fl, 0, 0, p, q, ad), I1, J1) _
      refine mm_wcm ((h1.1 c0).2 c1) ?_
      rintro v τ ⟨I3, J3, rfl, rfl, h3⟩
      refine mm_r0' ⟨rfl, ?_⟩
      show mm_b _ _ _ _ _ [some (.ref 46), none, some (.int x1), some (.int x2)] [] ((fl, n1, n2, p, q, ad), I3, J3)
      show (¬ (I3 46 13) = (nI 0) → _) ∧ ((I3 46 13) = (nI 0) → _)
      refine ⟨fun c2 => ?_, fun c2 => ?_⟩
      · show mm_u _ _ _ _ _ _ [some (.ref 46), none, none, none] [] ((fl, n1, n2, p, q, ad), I3, J3)
        show (((nI 1) : Int32) = 0 ∨ ((nI 1) : Int32) = 1) ∧ _
        refine ⟨(by decide), ?_⟩
        exact (h3.1 c2)
      · show mm_b _ _ _ _ _ [some (.ref 46), none, none, none] [] ((fl, n1, n2, p, q, ad), I3, J3)
        show mm_wc d 176 [.ref 46] ((fl, 0, 0, p, q, ad), I3, J3) _
        refine mm_wcm (h3.2 c2) ?_
        rintro v τ ⟨I4, J4, rfl, rfl, h4⟩
        refine mm_r0' ⟨rfl, ?_⟩
        show mm_b _ _ _ _ _ [some (.ref 46), none, none, none] [] ((fl, n1, n2, p, q, ad), I4, J4)
        show (((nI 1) : Int32) = 0 ∨ ((nI 1) : Int32) = 1) ∧ _
        refine ⟨(by decide), ?_⟩
        exact h4
  · show mm_b _ _ _ _ _ [some (.ref 46), some (.ref 103), some (.int x1), some (.int x2)] [] ((fl, n1, n2, p, q, ad), I1, J1)
    show (((nI 0) : Int32) = 0 ∨ ((nI 0) : Int32) = 1) ∧ _
    refine ⟨(by decide), ?_⟩
    exact (h1.2 c0)
/- 189 ThreeBreathsModel begins -/
theorem fx_189_person {d : Nat} {x1 : Int32} {x2 : Int32} {fl : Nat → Bool} {n1 n2 : Nat} {p q : Bool} {ad : Nat → Nat} {I : mmI} {J : mmJ} {Q : mmQ} (h : mm_wc d 178 [.ref 46, .ref 104] ((fl, 0, 0, p, q, ad), I, J) (fun v τ => ∃ r1 I1 J1, v = some (.int r1) ∧ τ = ((fl, 0, 0, p, q, ad), I1, J1) ∧ ((¬ r1 = (nI 0) → ((¬ x1 = (nI 0) → ((¬ (I1 46 13) = (nI 0) → Q (some (.int (nI 1))) ((fl, n1, n2, p, q, ad), I1, J1)) ∧ ((I1 46 13) = (nI 0) → mm_wc d 176 [.ref 46] ((fl, 0, 0, p, q, ad), I1, J1) (fun v τ => ∃ I2 J2, v = none ∧ τ = ((fl, 0, 0, p, q, ad), I2, J2) ∧ Q (some (.int (nI 1))) ((fl, n1, n2, p, q, ad), I2, J2))))) ∧ (x1 = (nI 0) → mm_wc d 177 [.ref 46, .int x2, .int (I1 46 4)] ((fl, 0, 0, p, q, ad), I1, J1) (fun v τ => ∃ I3 J3, v = none ∧ τ = ((fl, 0, 0, p, q, ad), I3, J3) ∧ ((¬ (I3 46 13) = (nI 0) → Q (some (.int (nI 1))) ((fl, n1, n2, p, q, ad), I3, J3)) ∧ ((I3 46 13) = (nI 0) → mm_wc d 176 [.ref 46] ((fl, 0, 0, p, q, ad), I3, J3) (fun v τ => ∃ I4 J4, v = none ∧ τ = ((fl, 0, 0, p, q, ad), I4, J4) ∧ Q (some (.int (nI 1))) ((fl, n1, n2, p, q, ad), I4, J4)))))))) ∧ (r1 = (nI 0) → Q (some (.int (nI 0))) ((fl, n1, n2, p, q, ad), I1, J1))))) : mm_wc (d + 1) 189 [.ref 46, .ref 104, .int x1, .int x2] ((fl, n1, n2, p, q, ad), I, J) Q := by
  refine mm_call (c := 189) rfl rfl ?_
  refine mm_go [] 80 ?_
  show mm_wc d 178 [.ref 46, .ref 104] ((fl, 0, 0, p, q, ad), I, J) _
  refine mm_wcm h ?_
  rintro v τ ⟨r1, I1, J1, rfl, rfl, h1⟩
  refine mm_r1' ⟨rfl, ?_⟩
  show mm_b _ _ _ _ _ [some (.ref 46), some (.ref 104), some (.int x1), some (.int x2)] [.int r1] ((fl, n1, n2, p, q, ad), I1, J1)
  show (¬ r1 = (nI 0) → _) ∧ (r1 = (nI 0) → _)
  refine ⟨fun c0 => ?_, fun c0 => ?_⟩
  · show mm_u _ _ _ _ _ _ [some (.ref 46), some (.ref 104), some (.int x1), some (.int x2)] [] ((fl, n1, n2, p, q, ad), I1, J1)
    show (¬ x1 = (nI 0) → _) ∧ (x1 = (nI 0) → _)
    refine ⟨fun c1 => ?_, fun c1 => ?_⟩
    · show mm_u _ _ _ _ _ _ [some (.ref 46), none, some (.int x1), some (.int x2)] [] ((fl, n1, n2, p, q, ad), I1, J1)
      show (¬ (I1 46 13) = (nI 0) → _) ∧ ((I1 46 13) = (nI 0) → _)
      refine ⟨fun c2 => ?_, fun c2 => ?_⟩
      · show mm_u _ _ _ _ _ _ [some (.ref 46), none, none, none] [] ((fl, n1, n2, p, q, ad), I1, J1)
        show (((nI 1) : Int32) = 0 ∨ ((nI 1) : Int32) = 1) ∧ _
        refine ⟨(by decide), ?_⟩
        exact (((h1.1 c0).1 c1).1 c2)
      · show mm_b _ _ _ _ _ [some (.ref 46), none, none, none] [] ((fl, n1, n2, p, q, ad), I1, J1)
        show mm_wc d 176 [.ref 46] ((fl, 0, 0, p, q, ad), I1, J1) _
        refine mm_wcm (((h1.1 c0).1 c1).2 c2) ?_
        rintro v τ ⟨I2, J2, rfl, rfl, h2⟩
        refine mm_r0' ⟨rfl, ?_⟩
        show mm_b _ _ _ _ _ [some (.ref 46), none, none, none] [] ((fl, n1, n2, p, q, ad), I2, J2)
        show (((nI 1) : Int32) = 0 ∨ ((nI 1) : Int32) = 1) ∧ _
        refine ⟨(by decide), ?_⟩
        exact h2
    · show mm_b _ _ _ _ _ [some (.ref 46), none, some (.int x1), some (.int x2)] [] ((fl, n1, n2, p, q, ad), I1, J1)
      show mm_wc d 177 [.ref 46, .int x2, .int (I1 46 4)] ((fl, 0, 0, p, q, ad), I1, J1) _
      refine mm_wcm ((h1.1 c0).2 c1) ?_
      rintro v τ ⟨I3, J3, rfl, rfl, h3⟩
      refine mm_r0' ⟨rfl, ?_⟩
      show mm_b _ _ _ _ _ [some (.ref 46), none, some (.int x1), some (.int x2)] [] ((fl, n1, n2, p, q, ad), I3, J3)
      show (¬ (I3 46 13) = (nI 0) → _) ∧ ((I3 46 13) = (nI 0) → _)
      refine ⟨fun c2 => ?_, fun c2 => ?_⟩
      · show mm_u _ _ _ _ _ _ [some (.ref 46), none, none, none] [] ((fl, n1, n2, p, q, ad), I3, J3)
        show (((nI 1) : Int32) = 0 ∨ ((nI 1) : Int32) = 1) ∧ _
        refine ⟨(by decide), ?_⟩
        exact (h3.1 c2)
      · show mm_b _ _ _ _ _ [some (.ref 46), none, none, none] [] ((fl, n1, n2, p, q, ad), I3, J3)
        show mm_wc d 176 [.ref 46] ((fl, 0, 0, p, q, ad), I3, J3) _
        refine mm_wcm (h3.2 c2) ?_
        rintro v τ ⟨I4, J4, rfl, rfl, h4⟩
        refine mm_r0' ⟨rfl, ?_⟩
        show mm_b _ _ _ _ _ [some (.ref 46), none, none, none] [] ((fl, n1, n2, p, q, ad), I4, J4)
        show (((nI 1) : Int32) = 0 ∨ ((nI 1) : Int32) = 1) ∧ _
        refine ⟨(by decide), ?_⟩
        exact h4
  · show mm_b _ _ _ _ _ [some (.ref 46), some (.ref 104), some (.int x1), some (.int x2)] [] ((fl, n1, n2, p, q, ad), I1, J1)
    show (((nI 0) : Int32) = 0 ∨ ((nI 0) : Int32) = 1) ∧ _
    refine ⟨(by decide), ?_⟩
    exact (h1.2 c0)
/- 189 ThreeBreathsModel begins -/
theorem fx_189_shaky {d : Nat} {x1 : Int32} {x2 : Int32} {fl : Nat → Bool} {n1 n2 : Nat} {p q : Bool} {ad : Nat → Nat} {I : mmI} {J : mmJ} {Q : mmQ} (h : mm_wc d 178 [.ref 46, .ref 105] ((fl, 0, 0, p, q, ad), I, J) (fun v τ => ∃ r1 I1 J1, v = some (.int r1) ∧ τ = ((fl, 0, 0, p, q, ad), I1, J1) ∧ ((¬ r1 = (nI 0) → ((¬ x1 = (nI 0) → ((¬ (I1 46 13) = (nI 0) → Q (some (.int (nI 1))) ((fl, n1, n2, p, q, ad), I1, J1)) ∧ ((I1 46 13) = (nI 0) → mm_wc d 176 [.ref 46] ((fl, 0, 0, p, q, ad), I1, J1) (fun v τ => ∃ I2 J2, v = none ∧ τ = ((fl, 0, 0, p, q, ad), I2, J2) ∧ Q (some (.int (nI 1))) ((fl, n1, n2, p, q, ad), I2, J2))))) ∧ (x1 = (nI 0) → mm_wc d 177 [.ref 46, .int x2, .int (I1 46 4)] ((fl, 0, 0, p, q, ad), I1, J1) (fun v τ => ∃ I3 J3, v = none ∧ τ = ((fl, 0, 0, p, q, ad), I3, J3) ∧ ((¬ (I3 46 13) = (nI 0) → Q (some (.int (nI 1))) ((fl, n1, n2, p, q, ad), I3, J3)) ∧ ((I3 46 13) = (nI 0) → mm_wc d 176 [.ref 46] ((fl, 0, 0, p, q, ad), I3, J3) (fun v τ => ∃ I4 J4, v = none ∧ τ = ((fl, 0, 0, p, q, ad), I4, J4) ∧ Q (some (.int (nI 1))) ((fl, n1, n2, p, q, ad), I4, J4)))))))) ∧ (r1 = (nI 0) → Q (some (.int (nI 0))) ((fl, n1, n2, p, q, ad), I1, J1))))) : mm_wc (d + 1) 189 [.ref 46, .ref 105, .int x1, .int x2] ((fl, n1, n2, p, q, ad), I, J) Q := by
  refine mm_call (c := 189) rfl rfl ?_
  refine mm_go [] 80 ?_
  show mm_wc d 178 [.ref 46, .ref 105] ((fl, 0, 0, p, q, ad), I, J) _
  refine mm_wcm h ?_
  rintro v τ ⟨r1, I1, J1, rfl, rfl, h1⟩
  refine mm_r1' ⟨rfl, ?_⟩
  show mm_b _ _ _ _ _ [some (.ref 46), some (.ref 105), some (.int x1), some (.int x2)] [.int r1] ((fl, n1, n2, p, q, ad), I1, J1)
  show (¬ r1 = (nI 0) → _) ∧ (r1 = (nI 0) → _)
  refine ⟨fun c0 => ?_, fun c0 => ?_⟩
  · show mm_u _ _ _ _ _ _ [some (.ref 46), some (.ref 105), some (.int x1), some (.int x2)] [] ((fl, n1, n2, p, q, ad), I1, J1)
    show (¬ x1 = (nI 0) → _) ∧ (x1 = (nI 0) → _)
    refine ⟨fun c1 => ?_, fun c1 => ?_⟩
    · show mm_u _ _ _ _ _ _ [some (.ref 46), none, some (.int x1), some (.int x2)] [] ((fl, n1, n2, p, q, ad), I1, J1)
      show (¬ (I1 46 13) = (nI 0) → _) ∧ ((I1 46 13) = (nI 0) → _)
      refine ⟨fun c2 => ?_, fun c2 => ?_⟩
      · show mm_u _ _ _ _ _ _ [some (.ref 46), none, none, none] [] ((fl, n1, n2, p, q, ad), I1, J1)
        show (((nI 1) : Int32) = 0 ∨ ((nI 1) : Int32) = 1) ∧ _
        refine ⟨(by decide), ?_⟩
        exact (((h1.1 c0).1 c1).1 c2)
      · show mm_b _ _ _ _ _ [some (.ref 46), none, none, none] [] ((fl, n1, n2, p, q, ad), I1, J1)
        show mm_wc d 176 [.ref 46] ((fl, 0, 0, p, q, ad), I1, J1) _
        refine mm_wcm (((h1.1 c0).1 c1).2 c2) ?_
        rintro v τ ⟨I2, J2, rfl, rfl, h2⟩
        refine mm_r0' ⟨rfl, ?_⟩
        show mm_b _ _ _ _ _ [some (.ref 46), none, none, none] [] ((fl, n1, n2, p, q, ad), I2, J2)
        show (((nI 1) : Int32) = 0 ∨ ((nI 1) : Int32) = 1) ∧ _
        refine ⟨(by decide), ?_⟩
        exact h2
    · show mm_b _ _ _ _ _ [some (.ref 46), none, some (.int x1), some (.int x2)] [] ((fl, n1, n2, p, q, ad), I1, J1)
      show mm_wc d 177 [.ref 46, .int x2, .int (I1 46 4)] ((fl, 0, 0, p, q, ad), I1, J1) _
      refine mm_wcm ((h1.1 c0).2 c1) ?_
      rintro v τ ⟨I3, J3, rfl, rfl, h3⟩
      refine mm_r0' ⟨rfl, ?_⟩
      show mm_b _ _ _ _ _ [some (.ref 46), none, some (.int x1), some (.int x2)] [] ((fl, n1, n2, p, q, ad), I3, J3)
      show (¬ (I3 46 13) = (nI 0) → _) ∧ ((I3 46 13) = (nI 0) → _)
      refine ⟨fun c2 => ?_, fun c2 => ?_⟩
      · show mm_u _ _ _ _ _ _ [some (.ref 46), none, none, none] [] ((fl, n1, n2, p, q, ad), I3, J3)
        show (((nI 1) : Int32) = 0 ∨ ((nI 1) : Int32) = 1) ∧ _
        refine ⟨(by decide), ?_⟩
        exact (h3.1 c2)
      · show mm_b _ _ _ _ _ [some (.ref 46), none, none, none] [] ((fl, n1, n2, p, q, ad), I3, J3)
        show mm_wc d 176 [.ref 46] ((fl, 0, 0, p, q, ad), I3, J3) _
        refine mm_wcm (h3.2 c2) ?_
        rintro v τ ⟨I4, J4, rfl, rfl, h4⟩
        refine mm_r0' ⟨rfl, ?_⟩
        show mm_b _ _ _ _ _ [some (.ref 46), none, none, none] [] ((fl, n1, n2, p, q, ad), I4, J4)
        show (((nI 1) : Int32) = 0 ∨ ((nI 1) : Int32) = 1) ∧ _
        refine ⟨(by decide), ?_⟩
        exact h4
  · show mm_b _ _ _ _ _ [some (.ref 46), some (.ref 105), some (.int x1), some (.int x2)] [] ((fl, n1, n2, p, q, ad), I1, J1)
    show (((nI 0) : Int32) = 0 ∨ ((nI 0) : Int32) = 1) ∧ _
    refine ⟨(by decide), ?_⟩
    exact (h1.2 c0)
/- 189 ThreeBreathsModel begins -/
theorem fx_189_left {d : Nat} {x1 : Int32} {x2 : Int32} {fl : Nat → Bool} {n1 n2 : Nat} {p q : Bool} {ad : Nat → Nat} {I : mmI} {J : mmJ} {Q : mmQ} (h : mm_wc d 178 [.ref 46, .ref 106] ((fl, 0, 0, p, q, ad), I, J) (fun v τ => ∃ r1 I1 J1, v = some (.int r1) ∧ τ = ((fl, 0, 0, p, q, ad), I1, J1) ∧ ((¬ r1 = (nI 0) → ((¬ x1 = (nI 0) → ((¬ (I1 46 13) = (nI 0) → Q (some (.int (nI 1))) ((fl, n1, n2, p, q, ad), I1, J1)) ∧ ((I1 46 13) = (nI 0) → mm_wc d 176 [.ref 46] ((fl, 0, 0, p, q, ad), I1, J1) (fun v τ => ∃ I2 J2, v = none ∧ τ = ((fl, 0, 0, p, q, ad), I2, J2) ∧ Q (some (.int (nI 1))) ((fl, n1, n2, p, q, ad), I2, J2))))) ∧ (x1 = (nI 0) → mm_wc d 177 [.ref 46, .int x2, .int (I1 46 4)] ((fl, 0, 0, p, q, ad), I1, J1) (fun v τ => ∃ I3 J3, v = none ∧ τ = ((fl, 0, 0, p, q, ad), I3, J3) ∧ ((¬ (I3 46 13) = (nI 0) → Q (some (.int (nI 1))) ((fl, n1, n2, p, q, ad), I3, J3)) ∧ ((I3 46 13) = (nI 0) → mm_wc d 176 [.ref 46] ((fl, 0, 0, p, q, ad), I3, J3) (fun v τ => ∃ I4 J4, v = none ∧ τ = ((fl, 0, 0, p, q, ad), I4, J4) ∧ Q (some (.int (nI 1))) ((fl, n1, n2, p, q, ad), I4, J4)))))))) ∧ (r1 = (nI 0) → Q (some (.int (nI 0))) ((fl, n1, n2, p, q, ad), I1, J1))))) : mm_wc (d + 1) 189 [.ref 46, .ref 106, .int x1, .int x2] ((fl, n1, n2, p, q, ad), I, J) Q := by
  refine mm_call (c := 189) rfl rfl ?_
  refine mm_go [] 80 ?_
  show mm_wc d 178 [.ref 46, .ref 106] ((fl, 0, 0, p, q, ad), I, J) _
  refine mm_wcm h ?_
  rintro v τ ⟨r1, I1, J1, rfl, rfl, h1⟩
  refine mm_r1' ⟨rfl, ?_⟩
  show mm_b _ _ _ _ _ [some (.ref 46), some (.ref 106), some (.int x1), some (.int x2)] [.int r1] ((fl, n1, n2, p, q, ad), I1, J1)
  show (¬ r1 = (nI 0) → _) ∧ (r1 = (nI 0) → _)
  refine ⟨fun c0 => ?_, fun c0 => ?_⟩
  · show mm_u _ _ _ _ _ _ [some (.ref 46), some (.ref 106), some (.int x1), some (.int x2)] [] ((fl, n1, n2, p, q, ad), I1, J1)
    show (¬ x1 = (nI 0) → _) ∧ (x1 = (nI 0) → _)
    refine ⟨fun c1 => ?_, fun c1 => ?_⟩
    · show mm_u _ _ _ _ _ _ [some (.ref 46), none, some (.int x1), some (.int x2)] [] ((fl, n1, n2, p, q, ad), I1, J1)
      show (¬ (I1 46 13) = (nI 0) → _) ∧ ((I1 46 13) = (nI 0) → _)
      refine ⟨fun c2 => ?_, fun c2 => ?_⟩
      · show mm_u _ _ _ _ _ _ [some (.ref 46), none, none, none] [] ((fl, n1, n2, p, q, ad), I1, J1)
        show (((nI 1) : Int32) = 0 ∨ ((nI 1) : Int32) = 1) ∧ _
        refine ⟨(by decide), ?_⟩
        exact (((h1.1 c0).1 c1).1 c2)
      · show mm_b _ _ _ _ _ [some (.ref 46), none, none, none] [] ((fl, n1, n2, p, q, ad), I1, J1)
        show mm_wc d 176 [.ref 46] ((fl, 0, 0, p, q, ad), I1, J1) _
        refine mm_wcm (((h1.1 c0).1 c1).2 c2) ?_
        rintro v τ ⟨I2, J2, rfl, rfl, h2⟩
        refine mm_r0' ⟨rfl, ?_⟩
        show mm_b _ _ _ _ _ [some (.ref 46), none, none, none] [] ((fl, n1, n2, p, q, ad), I2, J2)
        show (((nI 1) : Int32) = 0 ∨ ((nI 1) : Int32) = 1) ∧ _
        refine ⟨(by decide), ?_⟩
        exact h2
    · show mm_b _ _ _ _ _ [some (.ref 46), none, some (.int x1), some (.int x2)] [] ((fl, n1, n2, p, q, ad), I1, J1)
      show mm_wc d 177 [.ref 46, .int x2, .int (I1 46 4)] ((fl, 0, 0, p, q, ad), I1, J1) _
      refine mm_wcm ((h1.1 c0).2 c1) ?_
      rintro v τ ⟨I3, J3, rfl, rfl, h3⟩
      refine mm_r0' ⟨rfl, ?_⟩
      show mm_b _ _ _ _ _ [some (.ref 46), none, some (.int x1), some (.int x2)] [] ((fl, n1, n2, p, q, ad), I3, J3)
      show (¬ (I3 46 13) = (nI 0) → _) ∧ ((I3 46 13) = (nI 0) → _)
      refine ⟨fun c2 => ?_, fun c2 => ?_⟩
      · show mm_u _ _ _ _ _ _ [some (.ref 46), none, none, none] [] ((fl, n1, n2, p, q, ad), I3, J3)
        show (((nI 1) : Int32) = 0 ∨ ((nI 1) : Int32) = 1) ∧ _
        refine ⟨(by decide), ?_⟩
        exact (h3.1 c2)
      · show mm_b _ _ _ _ _ [some (.ref 46), none, none, none] [] ((fl, n1, n2, p, q, ad), I3, J3)
        show mm_wc d 176 [.ref 46] ((fl, 0, 0, p, q, ad), I3, J3) _
        refine mm_wcm (h3.2 c2) ?_
        rintro v τ ⟨I4, J4, rfl, rfl, h4⟩
        refine mm_r0' ⟨rfl, ?_⟩
        show mm_b _ _ _ _ _ [some (.ref 46), none, none, none] [] ((fl, n1, n2, p, q, ad), I4, J4)
        show (((nI 1) : Int32) = 0 ∨ ((nI 1) : Int32) = 1) ∧ _
        refine ⟨(by decide), ?_⟩
        exact h4
  · show mm_b _ _ _ _ _ [some (.ref 46), some (.ref 106), some (.int x1), some (.int x2)] [] ((fl, n1, n2, p, q, ad), I1, J1)
    show (((nI 0) : Int32) = 0 ∨ ((nI 0) : Int32) = 1) ∧ _
    refine ⟨(by decide), ?_⟩
    exact (h1.2 c0)
/- 190 ThreeBreathsModel readLine -/
theorem fx_190 {d : Nat} {fl : Nat → Bool} {n1 n2 : Nat} {p q : Bool} {ad : Nat → Nat} {I : mmI} {J : mmJ} {Q : mmQ} (h : ((¬ (I 50 0) = (nI 0) → mm_w Q (mm_wc d) bk_190 17 [some (.ref 46)] [.int (nI 0), .ref 98, .ref 46] ((fl, n1, n2, p, q, ad), I, J)) ∧ ((I 50 0) = (nI 0) → mm_w Q (mm_wc d) bk_190 17 [some (.ref 46)] [.int (nI 1), .ref 98, .ref 46] ((fl, n1, n2, p, q, ad), I, J)))) : mm_wc (d + 1) 190 [.ref 46] ((fl, n1, n2, p, q, ad), I, J) Q := by
  refine mm_call (c := 190) rfl rfl ?_
  refine mm_go [17, 31, 50, 64, 82, 96, 114, 128, 147, 161, 179, 193, 211, 225] 80 ?_
  show (vp_in (nI 0) 279) ∧ _
  refine ⟨(mm_inl (by decide)), ?_⟩
  show mm_b _ _ _ _ _ [some (.ref 46)] [.int (I 50 0), .ref 98, .ref 46] ((fl, n1, n2, p, q, ad), I, J)
  show (¬ (I 50 0) = (nI 0) → _) ∧ ((I 50 0) = (nI 0) → _)
  refine ⟨fun c0 => ?_, fun c0 => ?_⟩
  · exact (h.1 c0)
  · exact (h.2 c0)
theorem fx_190_17 {d : Nat} {s0 : Int32} {fl : Nat → Bool} {n1 n2 : Nat} {p q : Bool} {ad : Nat → Nat} {I : mmI} {J : mmJ} {Q : mmQ} (h : mm_wc d 189 [.ref 46, .ref 98, .int s0, .int (nI 3)] ((fl, 0, 0, p, q, ad), I, J) (fun v τ => ∃ r1 I1 J1, v = some (.int r1) ∧ τ = ((fl, 0, 0, p, q, ad), I1, J1) ∧ ((r1 = (nI 0) → mm_w Q (mm_wc d) bk_190 31 [some (.ref 46)] [] ((fl, n1, n2, p, q, ad), I1, J1)) ∧ (¬ r1 = (nI 0) → mm_wc d 191 [.ref 46] ((fl, 0, 0, p, q, ad), I1, J1) (fun v τ => ∃ I2 J2, v = none ∧ τ = ((fl, 0, 0, p, q, ad), I2, J2) ∧ Q none ((fl, n1, n2, p, q, ad), I2, J2)))))) : mm_w Q (mm_wc (d)) bk_190 17 [some (.ref 46)] [.int s0, .ref 98, .ref 46] ((fl, n1, n2, p, q, ad), I, J) := by
  refine mm_go [17, 31, 50, 64, 82, 96, 114, 128, 147, 161, 179, 193, 211, 225] 80 ?_
  show mm_wc d 189 [.ref 46, .ref 98, .int s0, .int (nI 3)] ((fl, 0, 0, p, q, ad), I, J) _
  refine mm_wcm h ?_
  rintro v τ ⟨r1, I1, J1, rfl, rfl, h1⟩
  refine mm_r1' ⟨rfl, ?_⟩
  show mm_b _ _ _ _ _ [some (.ref 46)] [.int r1] ((fl, n1, n2, p, q, ad), I1, J1)
  show (r1 = (nI 0) → _) ∧ (¬ r1 = (nI 0) → _)
  refine ⟨fun c0 => ?_, fun c0 => ?_⟩
  · exact (h1.1 c0)
  · show mm_b _ _ _ _ _ [some (.ref 46)] [] ((fl, n1, n2, p, q, ad), I1, J1)
    show mm_wc d 191 [.ref 46] ((fl, 0, 0, p, q, ad), I1, J1) _
    refine mm_wcm (h1.2 c0) ?_
    rintro v τ ⟨I2, J2, rfl, rfl, h2⟩
    refine mm_r0' ⟨rfl, ?_⟩
    exact h2
theorem fx_190_31 {d : Nat} {fl : Nat → Bool} {n1 n2 : Nat} {p q : Bool} {ad : Nat → Nat} {I : mmI} {J : mmJ} {Q : mmQ} (h : (((nI 10) ≤ (I 50 3) → mm_w Q (mm_wc d) bk_190 50 [some (.ref 46)] [.int (nI 0), .ref 101, .ref 46] ((fl, n1, n2, p, q, ad), I, J)) ∧ (¬ (nI 10) ≤ (I 50 3) → mm_w Q (mm_wc d) bk_190 50 [some (.ref 46)] [.int (nI 1), .ref 101, .ref 46] ((fl, n1, n2, p, q, ad), I, J)))) : mm_w Q (mm_wc (d)) bk_190 31 [some (.ref 46)] [] ((fl, n1, n2, p, q, ad), I, J) := by
  refine mm_go [17, 31, 50, 64, 82, 96, 114, 128, 147, 161, 179, 193, 211, 225] 80 ?_
  show (vp_in (nI 3) 279) ∧ _
  refine ⟨(mm_inl (by decide)), ?_⟩
  show mm_b _ _ _ _ _ [some (.ref 46)] [.int (I 50 3), .ref 101, .ref 46] ((fl, n1, n2, p, q, ad), I, J)
  show ((nI 10) ≤ (I 50 3) → _) ∧ (¬ (nI 10) ≤ (I 50 3) → _)
  refine ⟨fun c0 => ?_, fun c0 => ?_⟩
  · exact (h.1 c0)
  · exact (h.2 c0)
theorem fx_190_50 {d : Nat} {s0 : Int32} {fl : Nat → Bool} {n1 n2 : Nat} {p q : Bool} {ad : Nat → Nat} {I : mmI} {J : mmJ} {Q : mmQ} (h : mm_wc d 189 [.ref 46, .ref 101, .int s0, .int (nI 5)] ((fl, 0, 0, p, q, ad), I, J) (fun v τ => ∃ r1 I1 J1, v = some (.int r1) ∧ τ = ((fl, 0, 0, p, q, ad), I1, J1) ∧ ((r1 = (nI 0) → mm_w Q (mm_wc d) bk_190 64 [some (.ref 46)] [] ((fl, n1, n2, p, q, ad), I1, J1)) ∧ (¬ r1 = (nI 0) → mm_wc d 193 [.ref 46] ((fl, 0, 0, p, q, ad), I1, J1) (fun v τ => ∃ I2 J2, v = none ∧ τ = ((fl, 0, 0, p, q, ad), I2, J2) ∧ Q none ((fl, n1, n2, p, q, ad), I2, J2)))))) : mm_w Q (mm_wc (d)) bk_190 50 [some (.ref 46)] [.int s0, .ref 101, .ref 46] ((fl, n1, n2, p, q, ad), I, J) := by
  refine mm_go [17, 31, 50, 64, 82, 96, 114, 128, 147, 161, 179, 193, 211, 225] 80 ?_
  show mm_wc d 189 [.ref 46, .ref 101, .int s0, .int (nI 5)] ((fl, 0, 0, p, q, ad), I, J) _
  refine mm_wcm h ?_
  rintro v τ ⟨r1, I1, J1, rfl, rfl, h1⟩
  refine mm_r1' ⟨rfl, ?_⟩
  show mm_b _ _ _ _ _ [some (.ref 46)] [.int r1] ((fl, n1, n2, p, q, ad), I1, J1)
  show (r1 = (nI 0) → _) ∧ (¬ r1 = (nI 0) → _)
  refine ⟨fun c0 => ?_, fun c0 => ?_⟩
  · exact (h1.1 c0)
  · show mm_b _ _ _ _ _ [some (.ref 46)] [] ((fl, n1, n2, p, q, ad), I1, J1)
    show mm_wc d 193 [.ref 46] ((fl, 0, 0, p, q, ad), I1, J1) _
    refine mm_wcm (h1.2 c0) ?_
    rintro v τ ⟨I2, J2, rfl, rfl, h2⟩
    refine mm_r0' ⟨rfl, ?_⟩
    exact h2
theorem fx_190_64 {d : Nat} {fl : Nat → Bool} {n1 n2 : Nat} {p q : Bool} {ad : Nat → Nat} {I : mmI} {J : mmJ} {Q : mmQ} (h : (((nI 5) ≤ (I 50 4) → mm_w Q (mm_wc d) bk_190 82 [some (.ref 46)] [.int (nI 0), .ref 102, .ref 46] ((fl, n1, n2, p, q, ad), I, J)) ∧ (¬ (nI 5) ≤ (I 50 4) → mm_w Q (mm_wc d) bk_190 82 [some (.ref 46)] [.int (nI 1), .ref 102, .ref 46] ((fl, n1, n2, p, q, ad), I, J)))) : mm_w Q (mm_wc (d)) bk_190 64 [some (.ref 46)] [] ((fl, n1, n2, p, q, ad), I, J) := by
  refine mm_go [17, 31, 50, 64, 82, 96, 114, 128, 147, 161, 179, 193, 211, 225] 80 ?_
  show (vp_in (nI 4) 279) ∧ _
  refine ⟨(mm_inl (by decide)), ?_⟩
  show mm_b _ _ _ _ _ [some (.ref 46)] [.int (I 50 4), .ref 102, .ref 46] ((fl, n1, n2, p, q, ad), I, J)
  show ((nI 5) ≤ (I 50 4) → _) ∧ (¬ (nI 5) ≤ (I 50 4) → _)
  refine ⟨fun c0 => ?_, fun c0 => ?_⟩
  · exact (h.1 c0)
  · exact (h.2 c0)
theorem fx_190_82 {d : Nat} {s0 : Int32} {fl : Nat → Bool} {n1 n2 : Nat} {p q : Bool} {ad : Nat → Nat} {I : mmI} {J : mmJ} {Q : mmQ} (h : mm_wc d 189 [.ref 46, .ref 102, .int s0, .int (nI 5)] ((fl, 0, 0, p, q, ad), I, J) (fun v τ => ∃ r1 I1 J1, v = some (.int r1) ∧ τ = ((fl, 0, 0, p, q, ad), I1, J1) ∧ ((r1 = (nI 0) → mm_w Q (mm_wc d) bk_190 96 [some (.ref 46)] [] ((fl, n1, n2, p, q, ad), I1, J1)) ∧ (¬ r1 = (nI 0) → mm_wc d 194 [.ref 46] ((fl, 0, 0, p, q, ad), I1, J1) (fun v τ => ∃ I2 J2, v = none ∧ τ = ((fl, 0, 0, p, q, ad), I2, J2) ∧ Q none ((fl, n1, n2, p, q, ad), I2, J2)))))) : mm_w Q (mm_wc (d)) bk_190 82 [some (.ref 46)] [.int s0, .ref 102, .ref 46] ((fl, n1, n2, p, q, ad), I, J) := by
  refine mm_go [17, 31, 50, 64, 82, 96, 114, 128, 147, 161, 179, 193, 211, 225] 80 ?_
  show mm_wc d 189 [.ref 46, .ref 102, .int s0, .int (nI 5)] ((fl, 0, 0, p, q, ad), I, J) _
  refine mm_wcm h ?_
  rintro v τ ⟨r1, I1, J1, rfl, rfl, h1⟩
  refine mm_r1' ⟨rfl, ?_⟩
  show mm_b _ _ _ _ _ [some (.ref 46)] [.int r1] ((fl, n1, n2, p, q, ad), I1, J1)
  show (r1 = (nI 0) → _) ∧ (¬ r1 = (nI 0) → _)
  refine ⟨fun c0 => ?_, fun c0 => ?_⟩
  · exact (h1.1 c0)
  · show mm_b _ _ _ _ _ [some (.ref 46)] [] ((fl, n1, n2, p, q, ad), I1, J1)
    show mm_wc d 194 [.ref 46] ((fl, 0, 0, p, q, ad), I1, J1) _
    refine mm_wcm (h1.2 c0) ?_
    rintro v τ ⟨I2, J2, rfl, rfl, h2⟩
    refine mm_r0' ⟨rfl, ?_⟩
    exact h2
theorem fx_190_96 {d : Nat} {fl : Nat → Bool} {n1 n2 : Nat} {p q : Bool} {ad : Nat → Nat} {I : mmI} {J : mmJ} {Q : mmQ} (h : (((nI 4) ≤ (I 50 5) → mm_w Q (mm_wc d) bk_190 114 [some (.ref 46)] [.int (nI 0), .ref 103, .ref 46] ((fl, n1, n2, p, q, ad), I, J)) ∧ (¬ (nI 4) ≤ (I 50 5) → mm_w Q (mm_wc d) bk_190 114 [some (.ref 46)] [.int (nI 1), .ref 103, .ref 46] ((fl, n1, n2, p, q, ad), I, J)))) : mm_w Q (mm_wc (d)) bk_190 96 [some (.ref 46)] [] ((fl, n1, n2, p, q, ad), I, J) := by
  refine mm_go [17, 31, 50, 64, 82, 96, 114, 128, 147, 161, 179, 193, 211, 225] 80 ?_
  show (vp_in (nI 5) 279) ∧ _
  refine ⟨(mm_inl (by decide)), ?_⟩
  show mm_b _ _ _ _ _ [some (.ref 46)] [.int (I 50 5), .ref 103, .ref 46] ((fl, n1, n2, p, q, ad), I, J)
  show ((nI 4) ≤ (I 50 5) → _) ∧ (¬ (nI 4) ≤ (I 50 5) → _)
  refine ⟨fun c0 => ?_, fun c0 => ?_⟩
  · exact (h.1 c0)
  · exact (h.2 c0)
theorem fx_190_114 {d : Nat} {s0 : Int32} {fl : Nat → Bool} {n1 n2 : Nat} {p q : Bool} {ad : Nat → Nat} {I : mmI} {J : mmJ} {Q : mmQ} (h : mm_wc d 189 [.ref 46, .ref 103, .int s0, .int (nI 5)] ((fl, 0, 0, p, q, ad), I, J) (fun v τ => ∃ r1 I1 J1, v = some (.int r1) ∧ τ = ((fl, 0, 0, p, q, ad), I1, J1) ∧ ((r1 = (nI 0) → mm_w Q (mm_wc d) bk_190 128 [some (.ref 46)] [] ((fl, n1, n2, p, q, ad), I1, J1)) ∧ (¬ r1 = (nI 0) → mm_wc d 195 [.ref 46] ((fl, 0, 0, p, q, ad), I1, J1) (fun v τ => ∃ I2 J2, v = none ∧ τ = ((fl, 0, 0, p, q, ad), I2, J2) ∧ Q none ((fl, n1, n2, p, q, ad), I2, J2)))))) : mm_w Q (mm_wc (d)) bk_190 114 [some (.ref 46)] [.int s0, .ref 103, .ref 46] ((fl, n1, n2, p, q, ad), I, J) := by
  refine mm_go [17, 31, 50, 64, 82, 96, 114, 128, 147, 161, 179, 193, 211, 225] 80 ?_
  show mm_wc d 189 [.ref 46, .ref 103, .int s0, .int (nI 5)] ((fl, 0, 0, p, q, ad), I, J) _
  refine mm_wcm h ?_
  rintro v τ ⟨r1, I1, J1, rfl, rfl, h1⟩
  refine mm_r1' ⟨rfl, ?_⟩
  show mm_b _ _ _ _ _ [some (.ref 46)] [.int r1] ((fl, n1, n2, p, q, ad), I1, J1)
  show (r1 = (nI 0) → _) ∧ (¬ r1 = (nI 0) → _)
  refine ⟨fun c0 => ?_, fun c0 => ?_⟩
  · exact (h1.1 c0)
  · show mm_b _ _ _ _ _ [some (.ref 46)] [] ((fl, n1, n2, p, q, ad), I1, J1)
    show mm_wc d 195 [.ref 46] ((fl, 0, 0, p, q, ad), I1, J1) _
    refine mm_wcm (h1.2 c0) ?_
    rintro v τ ⟨I2, J2, rfl, rfl, h2⟩
    refine mm_r0' ⟨rfl, ?_⟩
    exact h2
theorem fx_190_128 {d : Nat} {fl : Nat → Bool} {n1 n2 : Nat} {p q : Bool} {ad : Nat → Nat} {I : mmI} {J : mmJ} {Q : mmQ} (h : (((nI 4) ≤ (I 50 6) → mm_w Q (mm_wc d) bk_190 147 [some (.ref 46)] [.int (nI 0), .ref 104, .ref 46] ((fl, n1, n2, p, q, ad), I, J)) ∧ (¬ (nI 4) ≤ (I 50 6) → mm_w Q (mm_wc d) bk_190 147 [some (.ref 46)] [.int (nI 1), .ref 104, .ref 46] ((fl, n1, n2, p, q, ad), I, J)))) : mm_w Q (mm_wc (d)) bk_190 128 [some (.ref 46)] [] ((fl, n1, n2, p, q, ad), I, J) := by
  refine mm_go [17, 31, 50, 64, 82, 96, 114, 128, 147, 161, 179, 193, 211, 225] 80 ?_
  show (vp_in (nI 6) 279) ∧ _
  refine ⟨(mm_inl (by decide)), ?_⟩
  show mm_b _ _ _ _ _ [some (.ref 46)] [.int (I 50 6), .ref 104, .ref 46] ((fl, n1, n2, p, q, ad), I, J)
  show ((nI 4) ≤ (I 50 6) → _) ∧ (¬ (nI 4) ≤ (I 50 6) → _)
  refine ⟨fun c0 => ?_, fun c0 => ?_⟩
  · exact (h.1 c0)
  · exact (h.2 c0)
theorem fx_190_147 {d : Nat} {s0 : Int32} {fl : Nat → Bool} {n1 n2 : Nat} {p q : Bool} {ad : Nat → Nat} {I : mmI} {J : mmJ} {Q : mmQ} (h : mm_wc d 189 [.ref 46, .ref 104, .int s0, .int (nI 5)] ((fl, 0, 0, p, q, ad), I, J) (fun v τ => ∃ r1 I1 J1, v = some (.int r1) ∧ τ = ((fl, 0, 0, p, q, ad), I1, J1) ∧ ((r1 = (nI 0) → mm_w Q (mm_wc d) bk_190 161 [some (.ref 46)] [] ((fl, n1, n2, p, q, ad), I1, J1)) ∧ (¬ r1 = (nI 0) → mm_wc d 196 [.ref 46] ((fl, 0, 0, p, q, ad), I1, J1) (fun v τ => ∃ I2 J2, v = none ∧ τ = ((fl, 0, 0, p, q, ad), I2, J2) ∧ Q none ((fl, n1, n2, p, q, ad), I2, J2)))))) : mm_w Q (mm_wc (d)) bk_190 147 [some (.ref 46)] [.int s0, .ref 104, .ref 46] ((fl, n1, n2, p, q, ad), I, J) := by
  refine mm_go [17, 31, 50, 64, 82, 96, 114, 128, 147, 161, 179, 193, 211, 225] 80 ?_
  show mm_wc d 189 [.ref 46, .ref 104, .int s0, .int (nI 5)] ((fl, 0, 0, p, q, ad), I, J) _
  refine mm_wcm h ?_
  rintro v τ ⟨r1, I1, J1, rfl, rfl, h1⟩
  refine mm_r1' ⟨rfl, ?_⟩
  show mm_b _ _ _ _ _ [some (.ref 46)] [.int r1] ((fl, n1, n2, p, q, ad), I1, J1)
  show (r1 = (nI 0) → _) ∧ (¬ r1 = (nI 0) → _)
  refine ⟨fun c0 => ?_, fun c0 => ?_⟩
  · exact (h1.1 c0)
  · show mm_b _ _ _ _ _ [some (.ref 46)] [] ((fl, n1, n2, p, q, ad), I1, J1)
    show mm_wc d 196 [.ref 46] ((fl, 0, 0, p, q, ad), I1, J1) _
    refine mm_wcm (h1.2 c0) ?_
    rintro v τ ⟨I2, J2, rfl, rfl, h2⟩
    refine mm_r0' ⟨rfl, ?_⟩
    exact h2
theorem fx_190_161 {d : Nat} {fl : Nat → Bool} {n1 n2 : Nat} {p q : Bool} {ad : Nat → Nat} {I : mmI} {J : mmJ} {Q : mmQ} (h : ((¬ (I 50 7) = (nI 0) → mm_w Q (mm_wc d) bk_190 179 [some (.ref 46)] [.int (nI 0), .ref 105, .ref 46] ((fl, n1, n2, p, q, ad), I, J)) ∧ ((I 50 7) = (nI 0) → mm_w Q (mm_wc d) bk_190 179 [some (.ref 46)] [.int (nI 1), .ref 105, .ref 46] ((fl, n1, n2, p, q, ad), I, J)))) : mm_w Q (mm_wc (d)) bk_190 161 [some (.ref 46)] [] ((fl, n1, n2, p, q, ad), I, J) := by
  refine mm_go [17, 31, 50, 64, 82, 96, 114, 128, 147, 161, 179, 193, 211, 225] 80 ?_
  show (vp_in (nI 7) 279) ∧ _
  refine ⟨(mm_inl (by decide)), ?_⟩
  show mm_b _ _ _ _ _ [some (.ref 46)] [.int (I 50 7), .ref 105, .ref 46] ((fl, n1, n2, p, q, ad), I, J)
  show (¬ (I 50 7) = (nI 0) → _) ∧ ((I 50 7) = (nI 0) → _)
  refine ⟨fun c0 => ?_, fun c0 => ?_⟩
  · exact (h.1 c0)
  · exact (h.2 c0)
theorem fx_190_179 {d : Nat} {s0 : Int32} {fl : Nat → Bool} {n1 n2 : Nat} {p q : Bool} {ad : Nat → Nat} {I : mmI} {J : mmJ} {Q : mmQ} (h : mm_wc d 189 [.ref 46, .ref 105, .int s0, .int (nI 3)] ((fl, 0, 0, p, q, ad), I, J) (fun v τ => ∃ r1 I1 J1, v = some (.int r1) ∧ τ = ((fl, 0, 0, p, q, ad), I1, J1) ∧ ((r1 = (nI 0) → mm_w Q (mm_wc d) bk_190 193 [some (.ref 46)] [] ((fl, n1, n2, p, q, ad), I1, J1)) ∧ (¬ r1 = (nI 0) → mm_wc d 197 [.ref 46] ((fl, 0, 0, p, q, ad), I1, J1) (fun v τ => ∃ I2 J2, v = none ∧ τ = ((fl, 0, 0, p, q, ad), I2, J2) ∧ Q none ((fl, n1, n2, p, q, ad), I2, J2)))))) : mm_w Q (mm_wc (d)) bk_190 179 [some (.ref 46)] [.int s0, .ref 105, .ref 46] ((fl, n1, n2, p, q, ad), I, J) := by
  refine mm_go [17, 31, 50, 64, 82, 96, 114, 128, 147, 161, 179, 193, 211, 225] 80 ?_
  show mm_wc d 189 [.ref 46, .ref 105, .int s0, .int (nI 3)] ((fl, 0, 0, p, q, ad), I, J) _
  refine mm_wcm h ?_
  rintro v τ ⟨r1, I1, J1, rfl, rfl, h1⟩
  refine mm_r1' ⟨rfl, ?_⟩
  show mm_b _ _ _ _ _ [some (.ref 46)] [.int r1] ((fl, n1, n2, p, q, ad), I1, J1)
  show (r1 = (nI 0) → _) ∧ (¬ r1 = (nI 0) → _)
  refine ⟨fun c0 => ?_, fun c0 => ?_⟩
  · exact (h1.1 c0)
  · show mm_b _ _ _ _ _ [some (.ref 46)] [] ((fl, n1, n2, p, q, ad), I1, J1)
    show mm_wc d 197 [.ref 46] ((fl, 0, 0, p, q, ad), I1, J1) _
    refine mm_wcm (h1.2 c0) ?_
    rintro v τ ⟨I2, J2, rfl, rfl, h2⟩
    refine mm_r0' ⟨rfl, ?_⟩
    exact h2
theorem fx_190_193 {d : Nat} {fl : Nat → Bool} {n1 n2 : Nat} {p q : Bool} {ad : Nat → Nat} {I : mmI} {J : mmJ} {Q : mmQ} (h : ((¬ (I 50 8) = (nI 0) → mm_w Q (mm_wc d) bk_190 211 [some (.ref 46)] [.int (nI 0), .ref 106, .ref 46] ((fl, n1, n2, p, q, ad), I, J)) ∧ ((I 50 8) = (nI 0) → mm_w Q (mm_wc d) bk_190 211 [some (.ref 46)] [.int (nI 1), .ref 106, .ref 46] ((fl, n1, n2, p, q, ad), I, J)))) : mm_w Q (mm_wc (d)) bk_190 193 [some (.ref 46)] [] ((fl, n1, n2, p, q, ad), I, J) := by
  refine mm_go [17, 31, 50, 64, 82, 96, 114, 128, 147, 161, 179, 193, 211, 225] 80 ?_
  show (vp_in (nI 8) 279) ∧ _
  refine ⟨(mm_inl (by decide)), ?_⟩
  show mm_b _ _ _ _ _ [some (.ref 46)] [.int (I 50 8), .ref 106, .ref 46] ((fl, n1, n2, p, q, ad), I, J)
  show (¬ (I 50 8) = (nI 0) → _) ∧ ((I 50 8) = (nI 0) → _)
  refine ⟨fun c0 => ?_, fun c0 => ?_⟩
  · exact (h.1 c0)
  · exact (h.2 c0)
theorem fx_190_211 {d : Nat} {s0 : Int32} {fl : Nat → Bool} {n1 n2 : Nat} {p q : Bool} {ad : Nat → Nat} {I : mmI} {J : mmJ} {Q : mmQ} (h : mm_wc d 189 [.ref 46, .ref 106, .int s0, .int (nI 3)] ((fl, 0, 0, p, q, ad), I, J) (fun v τ => ∃ r1 I1 J1, v = some (.int r1) ∧ τ = ((fl, 0, 0, p, q, ad), I1, J1) ∧ ((r1 = (nI 0) → mm_w Q (mm_wc d) bk_190 225 [some (.ref 46)] [] ((fl, n1, n2, p, q, ad), I1, J1)) ∧ (¬ r1 = (nI 0) → mm_wc d 198 [.ref 46] ((fl, 0, 0, p, q, ad), I1, J1) (fun v τ => ∃ I2 J2, v = none ∧ τ = ((fl, 0, 0, p, q, ad), I2, J2) ∧ Q none ((fl, n1, n2, p, q, ad), I2, J2)))))) : mm_w Q (mm_wc (d)) bk_190 211 [some (.ref 46)] [.int s0, .ref 106, .ref 46] ((fl, n1, n2, p, q, ad), I, J) := by
  refine mm_go [17, 31, 50, 64, 82, 96, 114, 128, 147, 161, 179, 193, 211, 225] 80 ?_
  show mm_wc d 189 [.ref 46, .ref 106, .int s0, .int (nI 3)] ((fl, 0, 0, p, q, ad), I, J) _
  refine mm_wcm h ?_
  rintro v τ ⟨r1, I1, J1, rfl, rfl, h1⟩
  refine mm_r1' ⟨rfl, ?_⟩
  show mm_b _ _ _ _ _ [some (.ref 46)] [.int r1] ((fl, n1, n2, p, q, ad), I1, J1)
  show (r1 = (nI 0) → _) ∧ (¬ r1 = (nI 0) → _)
  refine ⟨fun c0 => ?_, fun c0 => ?_⟩
  · exact (h1.1 c0)
  · show mm_b _ _ _ _ _ [some (.ref 46)] [] ((fl, n1, n2, p, q, ad), I1, J1)
    show mm_wc d 198 [.ref 46] ((fl, 0, 0, p, q, ad), I1, J1) _
    refine mm_wcm (h1.2 c0) ?_
    rintro v τ ⟨I2, J2, rfl, rfl, h2⟩
    refine mm_r0' ⟨rfl, ?_⟩
    exact h2
theorem fx_190_225 {d : Nat} {fl : Nat → Bool} {n1 n2 : Nat} {p q : Bool} {ad : Nat → Nat} {I : mmI} {J : mmJ} {Q : mmQ} (h : mm_wc d 177 [.ref 46, .int (nI 1), .int (I 46 4)] ((fl, 0, 0, p, q, ad), I, J) (fun v τ => ∃ I1 J1, v = none ∧ τ = ((fl, 0, 0, p, q, ad), I1, J1) ∧ Q none ((fl, n1, n2, p, q, ad), I1, J1))) : mm_w Q (mm_wc (d)) bk_190 225 [some (.ref 46)] [] ((fl, n1, n2, p, q, ad), I, J) := by
  refine mm_go [17, 31, 50, 64, 82, 96, 114, 128, 147, 161, 179, 193, 211, 225] 80 ?_
  show mm_wc d 177 [.ref 46, .int (nI 1), .int (I 46 4)] ((fl, 0, 0, p, q, ad), I, J) _
  refine mm_wcm h ?_
  rintro v τ ⟨I1, J1, rfl, rfl, h1⟩
  refine mm_r0' ⟨rfl, ?_⟩
  exact h1
