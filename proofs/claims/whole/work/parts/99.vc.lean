/-! what the law's blocks ask for -/
theorem lx_224 {d : Nat} {i : Int32} {fl : Nat → Bool} {n1 n2 : Nat} {p q : Bool} {ad : Nat → Nat} {I : mmI} {J : mmJ} {Q : mmQ} (h : (vp_in (i + (nI 1)) ((I 69 0)).toNatClampNeg ∧ (vp_in (i + (nI 2)) ((I 69 0)).toNatClampNeg ∧ (vp_in (i + (nI 3)) ((I 69 0)).toNatClampNeg ∧ (vp_in (i + (nI 4)) ((I 69 0)).toNatClampNeg ∧ (vp_in (i + (nI 5)) ((I 69 0)).toNatClampNeg ∧ ∃ x1 y1, x1 ≤ n1 ∧ y1 ≤ n2 ∧ mm_wc d 111 [.ref 0, .int (I 68 ((i + (nI 1))).toNatClampNeg), .int (I 68 ((i + (nI 2))).toNatClampNeg), .int (I 68 ((i + (nI 3))).toNatClampNeg), .int (I 68 ((i + (nI 4))).toNatClampNeg), .int (I 68 ((i + (nI 5))).toNatClampNeg)] ((fl, x1, y1, p, q, ad), I, J) (fun v τ => ∃ r1 fl1 z1 z2 p1 q1 ad1 I1 J1, v = some (.int r1) ∧ τ = ((fl1, z1, z2, p1, q1, ad1), I1, J1) ∧ (vp_in (i + (nI 1)) ((I1 69 0)).toNatClampNeg ∧ (vp_in (i + (nI 2)) ((I1 69 0)).toNatClampNeg ∧ (vp_in (i + (nI 3)) ((I1 69 0)).toNatClampNeg ∧ (vp_in (i + (nI 4)) ((I1 69 0)).toNatClampNeg ∧ (vp_in (i + (nI 5)) ((I1 69 0)).toNatClampNeg ∧ ∃ x2 y2, x2 ≤ (n1 - x1) ∧ y2 ≤ (n2 - y1) ∧ mm_wc d 172 [.ref 46, .int (I1 68 ((i + (nI 1))).toNatClampNeg), .int (I1 68 ((i + (nI 2))).toNatClampNeg), .int (I1 68 ((i + (nI 3))).toNatClampNeg), .int (I1 68 ((i + (nI 4))).toNatClampNeg), .int (I1 68 ((i + (nI 5))).toNatClampNeg)] ((fl1, x2, y2, p1, q1, ad1), I1, J1) (fun v τ => ∃ r2 fl2 z1 z2 p2 q2 ad2 I2 J2, v = some (.int r2) ∧ τ = ((fl2, z1, z2, p2, q2, ad2), I2, J2) ∧ ((r1 = r2 → mm_w Q (mm_wc d) bk_law 1331 [some (.ref 68), some (.ref 0), some (.ref 46), some (.ref 65), some (.int i), none, none] [] ((fl2, ((n1 - x1) - x2), ((n2 - y1) - y2), p2, q2, ad2), I2, J2)) ∧ (¬ r1 = r2 → Q (some (.int (nI 0))) ((fl2, ((n1 - x1) - x2), ((n2 - y1) - y2), p2, q2, ad2), I2, J2)))))))))))))))) : mm_w Q (mm_wc d) bk_law 224 [some (.ref 68), some (.ref 0), some (.ref 46), some (.ref 65), some (.int i), none, none] [] ((fl, n1, n2, p, q, ad), I, J) := by
  refine mm_go [23, 1331] 90 ?_
  show vp_in (i + (nI 1)) ((I 69 0)).toNatClampNeg ∧ _
  refine ⟨h.1, ?_⟩
  show mm_b _ _ _ _ _ [some (.ref 68), some (.ref 0), some (.ref 46), some (.ref 65), some (.int i), none, none] [.int (I 68 ((i + (nI 1))).toNatClampNeg), .ref 0] ((fl, n1, n2, p, q, ad), I, J)
  show vp_in (i + (nI 2)) ((I 69 0)).toNatClampNeg ∧ _
  refine ⟨h.2.1, ?_⟩
  show mm_b _ _ _ _ _ [some (.ref 68), some (.ref 0), some (.ref 46), some (.ref 65), some (.int i), none, none] [.int (I 68 ((i + (nI 2))).toNatClampNeg), .int (I 68 ((i + (nI 1))).toNatClampNeg), .ref 0] ((fl, n1, n2, p, q, ad), I, J)
  show vp_in (i + (nI 3)) ((I 69 0)).toNatClampNeg ∧ _
  refine ⟨h.2.2.1, ?_⟩
  show mm_b _ _ _ _ _ [some (.ref 68), some (.ref 0), some (.ref 46), some (.ref 65), some (.int i), none, none] [.int (I 68 ((i + (nI 3))).toNatClampNeg), .int (I 68 ((i + (nI 2))).toNatClampNeg), .int (I 68 ((i + (nI 1))).toNatClampNeg), .ref 0] ((fl, n1, n2, p, q, ad), I, J)
  show vp_in (i + (nI 4)) ((I 69 0)).toNatClampNeg ∧ _
  refine ⟨h.2.2.2.1, ?_⟩
  show mm_b _ _ _ _ _ [some (.ref 68), some (.ref 0), some (.ref 46), some (.ref 65), some (.int i), none, none] [.int (I 68 ((i + (nI 4))).toNatClampNeg), .int (I 68 ((i + (nI 3))).toNatClampNeg), .int (I 68 ((i + (nI 2))).toNatClampNeg), .int (I 68 ((i + (nI 1))).toNatClampNeg), .ref 0] ((fl, n1, n2, p, q, ad), I, J)
  show vp_in (i + (nI 5)) ((I 69 0)).toNatClampNeg ∧ _
  refine ⟨h.2.2.2.2.1, ?_⟩
  show mm_b _ _ _ _ _ [some (.ref 68), some (.ref 0), some (.ref 46), some (.ref 65), some (.int i), none, none] [.int (I 68 ((i + (nI 5))).toNatClampNeg), .int (I 68 ((i + (nI 4))).toNatClampNeg), .int (I 68 ((i + (nI 3))).toNatClampNeg), .int (I 68 ((i + (nI 2))).toNatClampNeg), .int (I 68 ((i + (nI 1))).toNatClampNeg), .ref 0] ((fl, n1, n2, p, q, ad), I, J)
  obtain ⟨x1, y1, u1, w1, h1⟩ := h.2.2.2.2.2
  show ∃ x y, x ≤ n1 ∧ y ≤ n2 ∧ mm_wc d 111 [.ref 0, .int (I 68 ((i + (nI 1))).toNatClampNeg), .int (I 68 ((i + (nI 2))).toNatClampNeg), .int (I 68 ((i + (nI 3))).toNatClampNeg), .int (I 68 ((i + (nI 4))).toNatClampNeg), .int (I 68 ((i + (nI 5))).toNatClampNeg)] ((fl, x, y, p, q, ad), I, J) _
  refine ⟨x1, y1, u1, w1, mm_wcm h1 ?_⟩
  rintro v τ ⟨r1, fl1, z1, z2, p1, q1, ad1, I1, J1, rfl, rfl, h1⟩
  refine mm_r1' ?_
  show mm_b _ _ _ _ _ [some (.ref 68), some (.ref 0), some (.ref 46), some (.ref 65), some (.int i), none, none] [.int r1] ((fl1, (n1 - x1), (n2 - y1), p1, q1, ad1), I1, J1)
  show vp_in (i + (nI 1)) ((I1 69 0)).toNatClampNeg ∧ _
  refine ⟨h1.1, ?_⟩
  show mm_b _ _ _ _ _ [some (.ref 68), some (.ref 0), some (.ref 46), some (.ref 65), some (.int i), none, none] [.int (I1 68 ((i + (nI 1))).toNatClampNeg), .ref 46, .int r1] ((fl1, (n1 - x1), (n2 - y1), p1, q1, ad1), I1, J1)
  show vp_in (i + (nI 2)) ((I1 69 0)).toNatClampNeg ∧ _
  refine ⟨h1.2.1, ?_⟩
  show mm_b _ _ _ _ _ [some (.ref 68), some (.ref 0), some (.ref 46), some (.ref 65), some (.int i), none, none] [.int (I1 68 ((i + (nI 2))).toNatClampNeg), .int (I1 68 ((i + (nI 1))).toNatClampNeg), .ref 46, .int r1] ((fl1, (n1 - x1), (n2 - y1), p1, q1, ad1), I1, J1)
  show vp_in (i + (nI 3)) ((I1 69 0)).toNatClampNeg ∧ _
  refine ⟨h1.2.2.1, ?_⟩
  show mm_b _ _ _ _ _ [some (.ref 68), some (.ref 0), some (.ref 46), some (.ref 65), some (.int i), none, none] [.int (I1 68 ((i + (nI 3))).toNatClampNeg), .int (I1 68 ((i + (nI 2))).toNatClampNeg), .int (I1 68 ((i + (nI 1))).toNatClampNeg), .ref 46, .int r1] ((fl1, (n1 - x1), (n2 - y1), p1, q1, ad1), I1, J1)
  show vp_in (i + (nI 4)) ((I1 69 0)).toNatClampNeg ∧ _
  refine ⟨h1.2.2.2.1, ?_⟩
  show mm_b _ _ _ _ _ [some (.ref 68), some (.ref 0), some (.ref 46), some (.ref 65), some (.int i), none, none] [.int (I1 68 ((i + (nI 4))).toNatClampNeg), .int (I1 68 ((i + (nI 3))).toNatClampNeg), .int (I1 68 ((i + (nI 2))).toNatClampNeg), .int (I1 68 ((i + (nI 1))).toNatClampNeg), .ref 46, .int r1] ((fl1, (n1 - x1), (n2 - y1), p1, q1, ad1), I1, J1)
  show vp_in (i + (nI 5)) ((I1 69 0)).toNatClampNeg ∧ _
  refine ⟨h1.2.2.2.2.1, ?_⟩
  show mm_b _ _ _ _ _ [some (.ref 68), some (.ref 0), some (.ref 46), some (.ref 65), some (.int i), none, none] [.int (I1 68 ((i + (nI 5))).toNatClampNeg), .int (I1 68 ((i + (nI 4))).toNatClampNeg), .int (I1 68 ((i + (nI 3))).toNatClampNeg), .int (I1 68 ((i + (nI 2))).toNatClampNeg), .int (I1 68 ((i + (nI 1))).toNatClampNeg), .ref 46, .int r1] ((fl1, (n1 - x1), (n2 - y1), p1, q1, ad1), I1, J1)
  obtain ⟨x2, y2, u2, w2, h2⟩ := h1.2.2.2.2.2
  show ∃ x y, x ≤ (n1 - x1) ∧ y ≤ (n2 - y1) ∧ mm_wc d 172 [.ref 46, .int (I1 68 ((i + (nI 1))).toNatClampNeg), .int (I1 68 ((i + (nI 2))).toNatClampNeg), .int (I1 68 ((i + (nI 3))).toNatClampNeg), .int (I1 68 ((i + (nI 4))).toNatClampNeg), .int (I1 68 ((i + (nI 5))).toNatClampNeg)] ((fl1, x, y, p1, q1, ad1), I1, J1) _
  refine ⟨x2, y2, u2, w2, mm_wcm h2 ?_⟩
  rintro v τ ⟨r2, fl2, z1, z2, p2, q2, ad2, I2, J2, rfl, rfl, h2⟩
  refine mm_r1' ?_
  show mm_b _ _ _ _ _ [some (.ref 68), some (.ref 0), some (.ref 46), some (.ref 65), some (.int i), none, none] [.int r2, .int r1] ((fl2, ((n1 - x1) - x2), ((n2 - y1) - y2), p2, q2, ad2), I2, J2)
  show (r1 = r2 → _) ∧ (¬ r1 = r2 → _)
  refine ⟨fun c0 => ?_, fun c0 => ?_⟩
  · exact (h2.1 c0)
  · show mm_b _ _ _ _ _ [some (.ref 68), some (.ref 0), some (.ref 46), some (.ref 65), some (.int i), none, none] [] ((fl2, ((n1 - x1) - x2), ((n2 - y1) - y2), p2, q2, ad2), I2, J2)
    show (((nI 0) : Int32) = 0 ∨ ((nI 0) : Int32) = 1) ∧ _
    refine ⟨(by decide), ?_⟩
    exact (h2.2 c0)
theorem lx_297 {d : Nat} {i : Int32} {fl : Nat → Bool} {n1 n2 : Nat} {p q : Bool} {ad : Nat → Nat} {I : mmI} {J : mmJ} {Q : mmQ} (h : (vp_in (i + (nI 1)) ((I 69 0)).toNatClampNeg ∧ ∃ x1 y1, x1 ≤ n1 ∧ y1 ≤ n2 ∧ mm_wc d 112 [.ref 0, .int (I 68 ((i + (nI 1))).toNatClampNeg)] ((fl, x1, y1, p, q, ad), I, J) (fun v τ => ∃ r1 fl1 z1 z2 p1 q1 ad1 I1 J1, v = some (.int r1) ∧ τ = ((fl1, z1, z2, p1, q1, ad1), I1, J1) ∧ (vp_in (i + (nI 1)) ((I1 69 0)).toNatClampNeg ∧ ∃ x2 y2, x2 ≤ (n1 - x1) ∧ y2 ≤ (n2 - y1) ∧ mm_wc d 188 [.ref 46, .int (I1 68 ((i + (nI 1))).toNatClampNeg)] ((fl1, x2, y2, p1, q1, ad1), I1, J1) (fun v τ => ∃ r2 fl2 z1 z2 p2 q2 ad2 I2 J2, v = some (.int r2) ∧ τ = ((fl2, z1, z2, p2, q2, ad2), I2, J2) ∧ ((r1 = r2 → mm_w Q (mm_wc d) bk_law 1331 [some (.ref 68), some (.ref 0), some (.ref 46), some (.ref 65), some (.int i), none, none] [] ((fl2, ((n1 - x1) - x2), ((n2 - y1) - y2), p2, q2, ad2), I2, J2)) ∧ (¬ r1 = r2 → Q (some (.int (nI 0))) ((fl2, ((n1 - x1) - x2), ((n2 - y1) - y2), p2, q2, ad2), I2, J2)))))))) : mm_w Q (mm_wc d) bk_law 297 [some (.ref 68), some (.ref 0), some (.ref 46), some (.ref 65), some (.int i), none, none] [] ((fl, n1, n2, p, q, ad), I, J) := by
  refine mm_go [23, 1331] 90 ?_
  show vp_in (i + (nI 1)) ((I 69 0)).toNatClampNeg ∧ _
  refine ⟨h.1, ?_⟩
  show mm_b _ _ _ _ _ [some (.ref 68), some (.ref 0), some (.ref 46), some (.ref 65), some (.int i), none, none] [.int (I 68 ((i + (nI 1))).toNatClampNeg), .ref 0] ((fl, n1, n2, p, q, ad), I, J)
  obtain ⟨x1, y1, u1, w1, h1⟩ := h.2
  show ∃ x y, x ≤ n1 ∧ y ≤ n2 ∧ mm_wc d 112 [.ref 0, .int (I 68 ((i + (nI 1))).toNatClampNeg)] ((fl, x, y, p, q, ad), I, J) _
  refine ⟨x1, y1, u1, w1, mm_wcm h1 ?_⟩
  rintro v τ ⟨r1, fl1, z1, z2, p1, q1, ad1, I1, J1, rfl, rfl, h1⟩
  refine mm_r1' ?_
  show mm_b _ _ _ _ _ [some (.ref 68), some (.ref 0), some (.ref 46), some (.ref 65), some (.int i), none, none] [.int r1] ((fl1, (n1 - x1), (n2 - y1), p1, q1, ad1), I1, J1)
  show vp_in (i + (nI 1)) ((I1 69 0)).toNatClampNeg ∧ _
  refine ⟨h1.1, ?_⟩
  show mm_b _ _ _ _ _ [some (.ref 68), some (.ref 0), some (.ref 46), some (.ref 65), some (.int i), none, none] [.int (I1 68 ((i + (nI 1))).toNatClampNeg), .ref 46, .int r1] ((fl1, (n1 - x1), (n2 - y1), p1, q1, ad1), I1, J1)
  obtain ⟨x2, y2, u2, w2, h2⟩ := h1.2
  show ∃ x y, x ≤ (n1 - x1) ∧ y ≤ (n2 - y1) ∧ mm_wc d 188 [.ref 46, .int (I1 68 ((i + (nI 1))).toNatClampNeg)] ((fl1, x, y, p1, q1, ad1), I1, J1) _
  refine ⟨x2, y2, u2, w2, mm_wcm h2 ?_⟩
  rintro v τ ⟨r2, fl2, z1, z2, p2, q2, ad2, I2, J2, rfl, rfl, h2⟩
  refine mm_r1' ?_
  show mm_b _ _ _ _ _ [some (.ref 68), some (.ref 0), some (.ref 46), some (.ref 65), some (.int i), none, none] [.int r2, .int r1] ((fl2, ((n1 - x1) - x2), ((n2 - y1) - y2), p2, q2, ad2), I2, J2)
  show (r1 = r2 → _) ∧ (¬ r1 = r2 → _)
  refine ⟨fun c0 => ?_, fun c0 => ?_⟩
  · exact (h2.1 c0)
  · show mm_b _ _ _ _ _ [some (.ref 68), some (.ref 0), some (.ref 46), some (.ref 65), some (.int i), none, none] [] ((fl2, ((n1 - x1) - x2), ((n2 - y1) - y2), p2, q2, ad2), I2, J2)
    show (((nI 0) : Int32) = 0 ∨ ((nI 0) : Int32) = 1) ∧ _
    refine ⟨(by decide), ?_⟩
    exact (h2.2 c0)
theorem lx_322 {d : Nat} {i : Int32} {fl : Nat → Bool} {n1 n2 : Nat} {p q : Bool} {ad : Nat → Nat} {I : mmI} {J : mmJ} {Q : mmQ} (h : ∃ x1 y1, x1 ≤ n1 ∧ y1 ≤ n2 ∧ mm_wc d 113 [.ref 0] ((fl, x1, y1, p, q, ad), I, J) (fun v τ => ∃ r1 fl1 z1 z2 p1 q1 ad1 I1 J1, v = some (.int r1) ∧ τ = ((fl1, z1, z2, p1, q1, ad1), I1, J1) ∧ ∃ x2 y2, x2 ≤ (n1 - x1) ∧ y2 ≤ (n2 - y1) ∧ mm_wc d 199 [.ref 46] ((fl1, x2, y2, p1, q1, ad1), I1, J1) (fun v τ => ∃ r2 fl2 z1 z2 p2 q2 ad2 I2 J2, v = some (.int r2) ∧ τ = ((fl2, z1, z2, p2, q2, ad2), I2, J2) ∧ ((r1 = r2 → mm_w Q (mm_wc d) bk_law 1331 [some (.ref 68), some (.ref 0), some (.ref 46), some (.ref 65), some (.int i), none, none] [] ((fl2, ((n1 - x1) - x2), ((n2 - y1) - y2), p2, q2, ad2), I2, J2)) ∧ (¬ r1 = r2 → Q (some (.int (nI 0))) ((fl2, ((n1 - x1) - x2), ((n2 - y1) - y2), p2, q2, ad2), I2, J2)))))) : mm_w Q (mm_wc d) bk_law 322 [some (.ref 68), some (.ref 0), some (.ref 46), some (.ref 65), some (.int i), none, none] [] ((fl, n1, n2, p, q, ad), I, J) := by
  refine mm_go [23, 1331] 90 ?_
  obtain ⟨x1, y1, u1, w1, h1⟩ := h
  show ∃ x y, x ≤ n1 ∧ y ≤ n2 ∧ mm_wc d 113 [.ref 0] ((fl, x, y, p, q, ad), I, J) _
  refine ⟨x1, y1, u1, w1, mm_wcm h1 ?_⟩
  rintro v τ ⟨r1, fl1, z1, z2, p1, q1, ad1, I1, J1, rfl, rfl, h1⟩
  refine mm_r1' ?_
  show mm_b _ _ _ _ _ [some (.ref 68), some (.ref 0), some (.ref 46), some (.ref 65), some (.int i), none, none] [.int r1] ((fl1, (n1 - x1), (n2 - y1), p1, q1, ad1), I1, J1)
  obtain ⟨x2, y2, u2, w2, h2⟩ := h1
  show ∃ x y, x ≤ (n1 - x1) ∧ y ≤ (n2 - y1) ∧ mm_wc d 199 [.ref 46] ((fl1, x, y, p1, q1, ad1), I1, J1) _
  refine ⟨x2, y2, u2, w2, mm_wcm h2 ?_⟩
  rintro v τ ⟨r2, fl2, z1, z2, p2, q2, ad2, I2, J2, rfl, rfl, h2⟩
  refine mm_r1' ?_
  show mm_b _ _ _ _ _ [some (.ref 68), some (.ref 0), some (.ref 46), some (.ref 65), some (.int i), none, none] [.int r2, .int r1] ((fl2, ((n1 - x1) - x2), ((n2 - y1) - y2), p2, q2, ad2), I2, J2)
  show (r1 = r2 → _) ∧ (¬ r1 = r2 → _)
  refine ⟨fun c0 => ?_, fun c0 => ?_⟩
  · exact (h2.1 c0)
  · show mm_b _ _ _ _ _ [some (.ref 68), some (.ref 0), some (.ref 46), some (.ref 65), some (.int i), none, none] [] ((fl2, ((n1 - x1) - x2), ((n2 - y1) - y2), p2, q2, ad2), I2, J2)
    show (((nI 0) : Int32) = 0 ∨ ((nI 0) : Int32) = 1) ∧ _
    refine ⟨(by decide), ?_⟩
    exact (h2.2 c0)
theorem lx_335 {d : Nat} {i : Int32} {fl : Nat → Bool} {n1 n2 : Nat} {p q : Bool} {ad : Nat → Nat} {I : mmI} {J : mmJ} {Q : mmQ} (h : ∃ x1 y1, x1 ≤ n1 ∧ y1 ≤ n2 ∧ mm_wc d 114 [.ref 0] ((fl, x1, y1, p, q, ad), I, J) (fun v τ => ∃ r1 fl1 z1 z2 p1 q1 ad1 I1 J1, v = some (.int r1) ∧ τ = ((fl1, z1, z2, p1, q1, ad1), I1, J1) ∧ ∃ x2 y2, x2 ≤ (n1 - x1) ∧ y2 ≤ (n2 - y1) ∧ mm_wc d 200 [.ref 46] ((fl1, x2, y2, p1, q1, ad1), I1, J1) (fun v τ => ∃ r2 fl2 z1 z2 p2 q2 ad2 I2 J2, v = some (.int r2) ∧ τ = ((fl2, z1, z2, p2, q2, ad2), I2, J2) ∧ ((r1 = r2 → mm_w Q (mm_wc d) bk_law 1331 [some (.ref 68), some (.ref 0), some (.ref 46), some (.ref 65), some (.int i), none, none] [] ((fl2, ((n1 - x1) - x2), ((n2 - y1) - y2), p2, q2, ad2), I2, J2)) ∧ (¬ r1 = r2 → Q (some (.int (nI 0))) ((fl2, ((n1 - x1) - x2), ((n2 - y1) - y2), p2, q2, ad2), I2, J2)))))) : mm_w Q (mm_wc d) bk_law 335 [some (.ref 68), some (.ref 0), some (.ref 46), some (.ref 65), some (.int i), none, none] [] ((fl, n1, n2, p, q, ad), I, J) := by
  refine mm_go [23, 1331] 90 ?_
  obtain ⟨x1, y1, u1, w1, h1⟩ := h
  show ∃ x y, x ≤ n1 ∧ y ≤ n2 ∧ mm_wc d 114 [.ref 0] ((fl, x, y, p, q, ad), I, J) _
  refine ⟨x1, y1, u1, w1, mm_wcm h1 ?_⟩
  rintro v τ ⟨r1, fl1, z1, z2, p1, q1, ad1, I1, J1, rfl, rfl, h1⟩
  refine mm_r1' ?_
  show mm_b _ _ _ _ _ [some (.ref 68), some (.ref 0), some (.ref 46), some (.ref 65), some (.int i), none, none] [.int r1] ((fl1, (n1 - x1), (n2 - y1), p1, q1, ad1), I1, J1)
  obtain ⟨x2, y2, u2, w2, h2⟩ := h1
  show ∃ x y, x ≤ (n1 - x1) ∧ y ≤ (n2 - y1) ∧ mm_wc d 200 [.ref 46] ((fl1, x, y, p1, q1, ad1), I1, J1) _
  refine ⟨x2, y2, u2, w2, mm_wcm h2 ?_⟩
  rintro v τ ⟨r2, fl2, z1, z2, p2, q2, ad2, I2, J2, rfl, rfl, h2⟩
  refine mm_r1' ?_
  show mm_b _ _ _ _ _ [some (.ref 68), some (.ref 0), some (.ref 46), some (.ref 65), some (.int i), none, none] [.int r2, .int r1] ((fl2, ((n1 - x1) - x2), ((n2 - y1) - y2), p2, q2, ad2), I2, J2)
  show (r1 = r2 → _) ∧ (¬ r1 = r2 → _)
  refine ⟨fun c0 => ?_, fun c0 => ?_⟩
  · exact (h2.1 c0)
  · show mm_b _ _ _ _ _ [some (.ref 68), some (.ref 0), some (.ref 46), some (.ref 65), some (.int i), none, none] [] ((fl2, ((n1 - x1) - x2), ((n2 - y1) - y2), p2, q2, ad2), I2, J2)
    show (((nI 0) : Int32) = 0 ∨ ((nI 0) : Int32) = 1) ∧ _
    refine ⟨(by decide), ?_⟩
    exact (h2.2 c0)
theorem lx_348 {d : Nat} {i : Int32} {fl : Nat → Bool} {n1 n2 : Nat} {p q : Bool} {ad : Nat → Nat} {I : mmI} {J : mmJ} {Q : mmQ} (h : (vp_in (i + (nI 1)) ((I 69 0)).toNatClampNeg ∧ (vp_in (i + (nI 2)) ((I 69 0)).toNatClampNeg ∧ ∃ x1 y1, x1 ≤ n1 ∧ y1 ≤ n2 ∧ mm_wc d 115 [.ref 0, .int (I 68 ((i + (nI 1))).toNatClampNeg), .int (I 68 ((i + (nI 2))).toNatClampNeg)] ((fl, x1, y1, p, q, ad), I, J) (fun v τ => ∃ r1 fl1 z1 z2 p1 q1 ad1 I1 J1, v = some (.int r1) ∧ τ = ((fl1, z1, z2, p1, q1, ad1), I1, J1) ∧ (vp_in (i + (nI 1)) ((I1 69 0)).toNatClampNeg ∧ (vp_in (i + (nI 2)) ((I1 69 0)).toNatClampNeg ∧ ∃ x2 y2, x2 ≤ (n1 - x1) ∧ y2 ≤ (n2 - y1) ∧ mm_wc d 215 [.ref 46, .int (I1 68 ((i + (nI 1))).toNatClampNeg), .int (I1 68 ((i + (nI 2))).toNatClampNeg)] ((fl1, x2, y2, p1, q1, ad1), I1, J1) (fun v τ => ∃ r2 fl2 z1 z2 p2 q2 ad2 I2 J2, v = some (.int r2) ∧ τ = ((fl2, z1, z2, p2, q2, ad2), I2, J2) ∧ ((r1 = r2 → mm_w Q (mm_wc d) bk_law 1331 [some (.ref 68), some (.ref 0), some (.ref 46), some (.ref 65), some (.int i), none, none] [] ((fl2, ((n1 - x1) - x2), ((n2 - y1) - y2), p2, q2, ad2), I2, J2)) ∧ (¬ r1 = r2 → Q (some (.int (nI 0))) ((fl2, ((n1 - x1) - x2), ((n2 - y1) - y2), p2, q2, ad2), I2, J2)))))))))) : mm_w Q (mm_wc d) bk_law 348 [some (.ref 68), some (.ref 0), some (.ref 46), some (.ref 65), some (.int i), none, none] [] ((fl, n1, n2, p, q, ad), I, J) := by
  refine mm_go [23, 1331] 90 ?_
  show vp_in (i + (nI 1)) ((I 69 0)).toNatClampNeg ∧ _
  refine ⟨h.1, ?_⟩
  show mm_b _ _ _ _ _ [some (.ref 68), some (.ref 0), some (.ref 46), some (.ref 65), some (.int i), none, none] [.int (I 68 ((i + (nI 1))).toNatClampNeg), .ref 0] ((fl, n1, n2, p, q, ad), I, J)
  show vp_in (i + (nI 2)) ((I 69 0)).toNatClampNeg ∧ _
  refine ⟨h.2.1, ?_⟩
  show mm_b _ _ _ _ _ [some (.ref 68), some (.ref 0), some (.ref 46), some (.ref 65), some (.int i), none, none] [.int (I 68 ((i + (nI 2))).toNatClampNeg), .int (I 68 ((i + (nI 1))).toNatClampNeg), .ref 0] ((fl, n1, n2, p, q, ad), I, J)
  obtain ⟨x1, y1, u1, w1, h1⟩ := h.2.2
  show ∃ x y, x ≤ n1 ∧ y ≤ n2 ∧ mm_wc d 115 [.ref 0, .int (I 68 ((i + (nI 1))).toNatClampNeg), .int (I 68 ((i + (nI 2))).toNatClampNeg)] ((fl, x, y, p, q, ad), I, J) _
  refine ⟨x1, y1, u1, w1, mm_wcm h1 ?_⟩
  rintro v τ ⟨r1, fl1, z1, z2, p1, q1, ad1, I1, J1, rfl, rfl, h1⟩
  refine mm_r1' ?_
  show mm_b _ _ _ _ _ [some (.ref 68), some (.ref 0), some (.ref 46), some (.ref 65), some (.int i), none, none] [.int r1] ((fl1, (n1 - x1), (n2 - y1), p1, q1, ad1), I1, J1)
  show vp_in (i + (nI 1)) ((I1 69 0)).toNatClampNeg ∧ _
  refine ⟨h1.1, ?_⟩
  show mm_b _ _ _ _ _ [some (.ref 68), some (.ref 0), some (.ref 46), some (.ref 65), some (.int i), none, none] [.int (I1 68 ((i + (nI 1))).toNatClampNeg), .ref 46, .int r1] ((fl1, (n1 - x1), (n2 - y1), p1, q1, ad1), I1, J1)
  show vp_in (i + (nI 2)) ((I1 69 0)).toNatClampNeg ∧ _
  refine ⟨h1.2.1, ?_⟩
  show mm_b _ _ _ _ _ [some (.ref 68), some (.ref 0), some (.ref 46), some (.ref 65), some (.int i), none, none] [.int (I1 68 ((i + (nI 2))).toNatClampNeg), .int (I1 68 ((i + (nI 1))).toNatClampNeg), .ref 46, .int r1] ((fl1, (n1 - x1), (n2 - y1), p1, q1, ad1), I1, J1)
  obtain ⟨x2, y2, u2, w2, h2⟩ := h1.2.2
  show ∃ x y, x ≤ (n1 - x1) ∧ y ≤ (n2 - y1) ∧ mm_wc d 215 [.ref 46, .int (I1 68 ((i + (nI 1))).toNatClampNeg), .int (I1 68 ((i + (nI 2))).toNatClampNeg)] ((fl1, x, y, p1, q1, ad1), I1, J1) _
  refine ⟨x2, y2, u2, w2, mm_wcm h2 ?_⟩
  rintro v τ ⟨r2, fl2, z1, z2, p2, q2, ad2, I2, J2, rfl, rfl, h2⟩
  refine mm_r1' ?_
  show mm_b _ _ _ _ _ [some (.ref 68), some (.ref 0), some (.ref 46), some (.ref 65), some (.int i), none, none] [.int r2, .int r1] ((fl2, ((n1 - x1) - x2), ((n2 - y1) - y2), p2, q2, ad2), I2, J2)
  show (r1 = r2 → _) ∧ (¬ r1 = r2 → _)
  refine ⟨fun c0 => ?_, fun c0 => ?_⟩
  · exact (h2.1 c0)
  · show mm_b _ _ _ _ _ [some (.ref 68), some (.ref 0), some (.ref 46), some (.ref 65), some (.int i), none, none] [] ((fl2, ((n1 - x1) - x2), ((n2 - y1) - y2), p2, q2, ad2), I2, J2)
    show (((nI 0) : Int32) = 0 ∨ ((nI 0) : Int32) = 1) ∧ _
    refine ⟨(by decide), ?_⟩
    exact (h2.2 c0)
theorem lx_385 {d : Nat} {i : Int32} {fl : Nat → Bool} {n1 n2 : Nat} {p q : Bool} {ad : Nat → Nat} {I : mmI} {J : mmJ} {Q : mmQ} (h : (vp_in (i + (nI 1)) ((I 69 0)).toNatClampNeg ∧ ∃ x1 y1, x1 ≤ n1 ∧ y1 ≤ n2 ∧ mm_wc d 116 [.ref 0, .int (I 68 ((i + (nI 1))).toNatClampNeg)] ((fl, x1, y1, p, q, ad), I, J) (fun v τ => ∃ r1 fl1 z1 z2 p1 q1 ad1 I1 J1, v = some (.int r1) ∧ τ = ((fl1, z1, z2, p1, q1, ad1), I1, J1) ∧ (vp_in (i + (nI 1)) ((I1 69 0)).toNatClampNeg ∧ ∃ x2 y2, x2 ≤ (n1 - x1) ∧ y2 ≤ (n2 - y1) ∧ mm_wc d 216 [.ref 46, .int (I1 68 ((i + (nI 1))).toNatClampNeg)] ((fl1, x2, y2, p1, q1, ad1), I1, J1) (fun v τ => ∃ r2 fl2 z1 z2 p2 q2 ad2 I2 J2, v = some (.int r2) ∧ τ = ((fl2, z1, z2, p2, q2, ad2), I2, J2) ∧ ((r1 = r2 → mm_w Q (mm_wc d) bk_law 1331 [some (.ref 68), some (.ref 0), some (.ref 46), some (.ref 65), some (.int i), none, none] [] ((fl2, ((n1 - x1) - x2), ((n2 - y1) - y2), p2, q2, ad2), I2, J2)) ∧ (¬ r1 = r2 → Q (some (.int (nI 0))) ((fl2, ((n1 - x1) - x2), ((n2 - y1) - y2), p2, q2, ad2), I2, J2)))))))) : mm_w Q (mm_wc d) bk_law 385 [some (.ref 68), some (.ref 0), some (.ref 46), some (.ref 65), some (.int i), none, none] [] ((fl, n1, n2, p, q, ad), I, J) := by
  refine mm_go [23, 1331] 90 ?_
  show vp_in (i + (nI 1)) ((I 69 0)).toNatClampNeg ∧ _
  refine ⟨h.1, ?_⟩
  show mm_b _ _ _ _ _ [some (.ref 68), some (.ref 0), some (.ref 46), some (.ref 65), some (.int i), none, none] [.int (I 68 ((i + (nI 1))).toNatClampNeg), .ref 0] ((fl, n1, n2, p, q, ad), I, J)
  obtain ⟨x1, y1, u1, w1, h1⟩ := h.2
  show ∃ x y, x ≤ n1 ∧ y ≤ n2 ∧ mm_wc d 116 [.ref 0, .int (I 68 ((i + (nI 1))).toNatClampNeg)] ((fl, x, y, p, q, ad), I, J) _
  refine ⟨x1, y1, u1, w1, mm_wcm h1 ?_⟩
  rintro v τ ⟨r1, fl1, z1, z2, p1, q1, ad1, I1, J1, rfl, rfl, h1⟩
  refine mm_r1' ?_
  show mm_b _ _ _ _ _ [some (.ref 68), some (.ref 0), some (.ref 46), some (.ref 65), some (.int i), none, none] [.int r1] ((fl1, (n1 - x1), (n2 - y1), p1, q1, ad1), I1, J1)
  show vp_in (i + (nI 1)) ((I1 69 0)).toNatClampNeg ∧ _
  refine ⟨h1.1, ?_⟩
  show mm_b _ _ _ _ _ [some (.ref 68), some (.ref 0), some (.ref 46), some (.ref 65), some (.int i), none, none] [.int (I1 68 ((i + (nI 1))).toNatClampNeg), .ref 46, .int r1] ((fl1, (n1 - x1), (n2 - y1), p1, q1, ad1), I1, J1)
  obtain ⟨x2, y2, u2, w2, h2⟩ := h1.2
  show ∃ x y, x ≤ (n1 - x1) ∧ y ≤ (n2 - y1) ∧ mm_wc d 216 [.ref 46, .int (I1 68 ((i + (nI 1))).toNatClampNeg)] ((fl1, x, y, p1, q1, ad1), I1, J1) _
  refine ⟨x2, y2, u2, w2, mm_wcm h2 ?_⟩
  rintro v τ ⟨r2, fl2, z1, z2, p2, q2, ad2, I2, J2, rfl, rfl, h2⟩
  refine mm_r1' ?_
  show mm_b _ _ _ _ _ [some (.ref 68), some (.ref 0), some (.ref 46), some (.ref 65), some (.int i), none, none] [.int r2, .int r1] ((fl2, ((n1 - x1) - x2), ((n2 - y1) - y2), p2, q2, ad2), I2, J2)
  show (r1 = r2 → _) ∧ (¬ r1 = r2 → _)
  refine ⟨fun c0 => ?_, fun c0 => ?_⟩
  · exact (h2.1 c0)
  · show mm_b _ _ _ _ _ [some (.ref 68), some (.ref 0), some (.ref 46), some (.ref 65), some (.int i), none, none] [] ((fl2, ((n1 - x1) - x2), ((n2 - y1) - y2), p2, q2, ad2), I2, J2)
    show (((nI 0) : Int32) = 0 ∨ ((nI 0) : Int32) = 1) ∧ _
    refine ⟨(by decide), ?_⟩
    exact (h2.2 c0)
theorem lx_410 {d : Nat} {i : Int32} {fl : Nat → Bool} {n1 n2 : Nat} {p q : Bool} {ad : Nat → Nat} {I : mmI} {J : mmJ} {Q : mmQ} (h : (vp_in (i + (nI 1)) ((I 69 0)).toNatClampNeg ∧ (vp_in (i + (nI 2)) ((I 69 0)).toNatClampNeg ∧ (vp_in (i + (nI 3)) ((I 69 0)).toNatClampNeg ∧ ∃ x1 y1, x1 ≤ n1 ∧ y1 ≤ n2 ∧ mm_wc d 117 [.ref 0, .int (I 68 ((i + (nI 1))).toNatClampNeg), .int (I 68 ((i + (nI 2))).toNatClampNeg), .int (I 68 ((i + (nI 3))).toNatClampNeg)] ((fl, x1, y1, p, q, ad), I, J) (fun v τ => ∃ r1 fl1 z1 z2 p1 q1 ad1 I1 J1, v = some (.int r1) ∧ τ = ((fl1, z1, z2, p1, q1, ad1), I1, J1) ∧ (vp_in (i + (nI 1)) ((I1 69 0)).toNatClampNeg ∧ (vp_in (i + (nI 2)) ((I1 69 0)).toNatClampNeg ∧ (vp_in (i + (nI 3)) ((I1 69 0)).toNatClampNeg ∧ ∃ x2 y2, x2 ≤ (n1 - x1) ∧ y2 ≤ (n2 - y1) ∧ mm_wc d 217 [.ref 46, .int (I1 68 ((i + (nI 1))).toNatClampNeg), .int (I1 68 ((i + (nI 2))).toNatClampNeg), .int (I1 68 ((i + (nI 3))).toNatClampNeg)] ((fl1, x2, y2, p1, q1, ad1), I1, J1) (fun v τ => ∃ r2 fl2 z1 z2 p2 q2 ad2 I2 J2, v = some (.int r2) ∧ τ = ((fl2, z1, z2, p2, q2, ad2), I2, J2) ∧ ((r1 = r2 → mm_w Q (mm_wc d) bk_law 1331 [some (.ref 68), some (.ref 0), some (.ref 46), some (.ref 65), some (.int i), none, none] [] ((fl2, ((n1 - x1) - x2), ((n2 - y1) - y2), p2, q2, ad2), I2, J2)) ∧ (¬ r1 = r2 → Q (some (.int (nI 0))) ((fl2, ((n1 - x1) - x2), ((n2 - y1) - y2), p2, q2, ad2), I2, J2)))))))))))) : mm_w Q (mm_wc d) bk_law 410 [some (.ref 68), some (.ref 0), some (.ref 46), some (.ref 65), some (.int i), none, none] [] ((fl, n1, n2, p, q, ad), I, J) := by
  refine mm_go [23, 1331] 90 ?_
  show vp_in (i + (nI 1)) ((I 69 0)).toNatClampNeg ∧ _
  refine ⟨h.1, ?_⟩
  show mm_b _ _ _ _ _ [some (.ref 68), some (.ref 0), some (.ref 46), some (.ref 65), some (.int i), none, none] [.int (I 68 ((i + (nI 1))).toNatClampNeg), .ref 0] ((fl, n1, n2, p, q, ad), I, J)
  show vp_in (i + (nI 2)) ((I 69 0)).toNatClampNeg ∧ _
  refine ⟨h.2.1, ?_⟩
  show mm_b _ _ _ _ _ [some (.ref 68), some (.ref 0), some (.ref 46), some (.ref 65), some (.int i), none, none] [.int (I 68 ((i + (nI 2))).toNatClampNeg), .int (I 68 ((i + (nI 1))).toNatClampNeg), .ref 0] ((fl, n1, n2, p, q, ad), I, J)
  show vp_in (i + (nI 3)) ((I 69 0)).toNatClampNeg ∧ _
  refine ⟨h.2.2.1, ?_⟩
  show mm_b _ _ _ _ _ [some (.ref 68), some (.ref 0), some (.ref 46), some (.ref 65), some (.int i), none, none] [.int (I 68 ((i + (nI 3))).toNatClampNeg), .int (I 68 ((i + (nI 2))).toNatClampNeg), .int (I 68 ((i + (nI 1))).toNatClampNeg), .ref 0] ((fl, n1, n2, p, q, ad), I, J)
  obtain ⟨x1, y1, u1, w1, h1⟩ := h.2.2.2
  show ∃ x y, x ≤ n1 ∧ y ≤ n2 ∧ mm_wc d 117 [.ref 0, .int (I 68 ((i + (nI 1))).toNatClampNeg), .int (I 68 ((i + (nI 2))).toNatClampNeg), .int (I 68 ((i + (nI 3))).toNatClampNeg)] ((fl, x, y, p, q, ad), I, J) _
  refine ⟨x1, y1, u1, w1, mm_wcm h1 ?_⟩
  rintro v τ ⟨r1, fl1, z1, z2, p1, q1, ad1, I1, J1, rfl, rfl, h1⟩
  refine mm_r1' ?_
  show mm_b _ _ _ _ _ [some (.ref 68), some (.ref 0), some (.ref 46), some (.ref 65), some (.int i), none, none] [.int r1] ((fl1, (n1 - x1), (n2 - y1), p1, q1, ad1), I1, J1)
  show vp_in (i + (nI 1)) ((I1 69 0)).toNatClampNeg ∧ _
  refine ⟨h1.1, ?_⟩
  show mm_b _ _ _ _ _ [some (.ref 68), some (.ref 0), some (.ref 46), some (.ref 65), some (.int i), none, none] [.int (I1 68 ((i + (nI 1))).toNatClampNeg), .ref 46, .int r1] ((fl1, (n1 - x1), (n2 - y1), p1, q1, ad1), I1, J1)
  show vp_in (i + (nI 2)) ((I1 69 0)).toNatClampNeg ∧ _
  refine ⟨h1.2.1, ?_⟩
  show mm_b _ _ _ _ _ [some (.ref 68), some (.ref 0), some (.ref 46), some (.ref 65), some (.int i), none, none] [.int (I1 68 ((i + (nI 2))).toNatClampNeg), .int (I1 68 ((i + (nI 1))).toNatClampNeg), .ref 46, .int r1] ((fl1, (n1 - x1), (n2 - y1), p1, q1, ad1), I1, J1)
  show vp_in (i + (nI 3)) ((I1 69 0)).toNatClampNeg ∧ _
  refine ⟨h1.2.2.1, ?_⟩
  show mm_b _ _ _ _ _ [some (.ref 68), some (.ref 0), some (.ref 46), some (.ref 65), some (.int i), none, none] [.int (I1 68 ((i + (nI 3))).toNatClampNeg), .int (I1 68 ((i + (nI 2))).toNatClampNeg), .int (I1 68 ((i + (nI 1))).toNatClampNeg), .ref 46, .int r1] ((fl1, (n1 - x1), (n2 - y1), p1, q1, ad1), I1, J1)
  obtain ⟨x2, y2, u2, w2, h2⟩ := h1.2.2.2
  show ∃ x y, x ≤ (n1 - x1) ∧ y ≤ (n2 - y1) ∧ mm_wc d 217 [.ref 46, .int (I1 68 ((i + (nI 1))).toNatClampNeg), .int (I1 68 ((i + (nI 2))).toNatClampNeg), .int (I1 68 ((i + (nI 3))).toNatClampNeg)] ((fl1, x, y, p1, q1, ad1), I1, J1) _
  refine ⟨x2, y2, u2, w2, mm_wcm h2 ?_⟩
  rintro v τ ⟨r2, fl2, z1, z2, p2, q2, ad2, I2, J2, rfl, rfl, h2⟩
  refine mm_r1' ?_
  show mm_b _ _ _ _ _ [some (.ref 68), some (.ref 0), some (.ref 46), some (.ref 65), some (.int i), none, none] [.int r2, .int r1] ((fl2, ((n1 - x1) - x2), ((n2 - y1) - y2), p2, q2, ad2), I2, J2)
  show (r1 = r2 → _) ∧ (¬ r1 = r2 → _)
  refine ⟨fun c0 => ?_, fun c0 => ?_⟩
  · exact (h2.1 c0)
  · show mm_b _ _ _ _ _ [some (.ref 68), some (.ref 0), some (.ref 46), some (.ref 65), some (.int i), none, none] [] ((fl2, ((n1 - x1) - x2), ((n2 - y1) - y2), p2, q2, ad2), I2, J2)
    show (((nI 0) : Int32) = 0 ∨ ((nI 0) : Int32) = 1) ∧ _
    refine ⟨(by decide), ?_⟩
    exact (h2.2 c0)
theorem lx_459 {d : Nat} {i : Int32} {fl : Nat → Bool} {n1 n2 : Nat} {p q : Bool} {ad : Nat → Nat} {I : mmI} {J : mmJ} {Q : mmQ} (h : (vp_in (i + (nI 1)) ((I 69 0)).toNatClampNeg ∧ (vp_in (i + (nI 2)) ((I 69 0)).toNatClampNeg ∧ ∃ x1 y1, x1 ≤ n1 ∧ y1 ≤ n2 ∧ mm_wc d 118 [.ref 0, .int (I 68 ((i + (nI 1))).toNatClampNeg), .int (I 68 ((i + (nI 2))).toNatClampNeg)] ((fl, x1, y1, p, q, ad), I, J) (fun v τ => ∃ r1 fl1 z1 z2 p1 q1 ad1 I1 J1, v = some (.int r1) ∧ τ = ((fl1, z1, z2, p1, q1, ad1), I1, J1) ∧ (vp_in (i + (nI 1)) ((I1 69 0)).toNatClampNeg ∧ (vp_in (i + (nI 2)) ((I1 69 0)).toNatClampNeg ∧ ∃ x2 y2, x2 ≤ (n1 - x1) ∧ y2 ≤ (n2 - y1) ∧ mm_wc d 218 [.ref 46, .int (I1 68 ((i + (nI 1))).toNatClampNeg), .int (I1 68 ((i + (nI 2))).toNatClampNeg)] ((fl1, x2, y2, p1, q1, ad1), I1, J1) (fun v τ => ∃ r2 fl2 z1 z2 p2 q2 ad2 I2 J2, v = some (.int r2) ∧ τ = ((fl2, z1, z2, p2, q2, ad2), I2, J2) ∧ ((r1 = r2 → mm_w Q (mm_wc d) bk_law 1331 [some (.ref 68), some (.ref 0), some (.ref 46), some (.ref 65), some (.int i), none, none] [] ((fl2, ((n1 - x1) - x2), ((n2 - y1) - y2), p2, q2, ad2), I2, J2)) ∧ (¬ r1 = r2 → Q (some (.int (nI 0))) ((fl2, ((n1 - x1) - x2), ((n2 - y1) - y2), p2, q2, ad2), I2, J2)))))))))) : mm_w Q (mm_wc d) bk_law 459 [some (.ref 68), some (.ref 0), some (.ref 46), some (.ref 65), some (.int i), none, none] [] ((fl, n1, n2, p, q, ad), I, J) := by
  refine mm_go [23, 1331] 90 ?_
  show vp_in (i + (nI 1)) ((I 69 0)).toNatClampNeg ∧ _
  refine ⟨h.1, ?_⟩
  show mm_b _ _ _ _ _ [some (.ref 68), some (.ref 0), some (.ref 46), some (.ref 65), some (.int i), none, none] [.int (I 68 ((i + (nI 1))).toNatClampNeg), .ref 0] ((fl, n1, n2, p, q, ad), I, J)
  show vp_in (i + (nI 2)) ((I 69 0)).toNatClampNeg ∧ _
  refine ⟨h.2.1, ?_⟩
  show mm_b _ _ _ _ _ [some (.ref 68), some (.ref 0), some (.ref 46), some (.ref 65), some (.int i), none, none] [.int (I 68 ((i + (nI 2))).toNatClampNeg), .int (I 68 ((i + (nI 1))).toNatClampNeg), .ref 0] ((fl, n1, n2, p, q, ad), I, J)
  obtain ⟨x1, y1, u1, w1, h1⟩ := h.2.2
  show ∃ x y, x ≤ n1 ∧ y ≤ n2 ∧ mm_wc d 118 [.ref 0, .int (I 68 ((i + (nI 1))).toNatClampNeg), .int (I 68 ((i + (nI 2))).toNatClampNeg)] ((fl, x, y, p, q, ad), I, J) _
  refine ⟨x1, y1, u1, w1, mm_wcm h1 ?_⟩
  rintro v τ ⟨r1, fl1, z1, z2, p1, q1, ad1, I1, J1, rfl, rfl, h1⟩
  refine mm_r1' ?_
  show mm_b _ _ _ _ _ [some (.ref 68), some (.ref 0), some (.ref 46), some (.ref 65), some (.int i), none, none] [.int r1] ((fl1, (n1 - x1), (n2 - y1), p1, q1, ad1), I1, J1)
  show vp_in (i + (nI 1)) ((I1 69 0)).toNatClampNeg ∧ _
  refine ⟨h1.1, ?_⟩
  show mm_b _ _ _ _ _ [some (.ref 68), some (.ref 0), some (.ref 46), some (.ref 65), some (.int i), none, none] [.int (I1 68 ((i + (nI 1))).toNatClampNeg), .ref 46, .int r1] ((fl1, (n1 - x1), (n2 - y1), p1, q1, ad1), I1, J1)
  show vp_in (i + (nI 2)) ((I1 69 0)).toNatClampNeg ∧ _
  refine ⟨h1.2.1, ?_⟩
  show mm_b _ _ _ _ _ [some (.ref 68), some (.ref 0), some (.ref 46), some (.ref 65), some (.int i), none, none] [.int (I1 68 ((i + (nI 2))).toNatClampNeg), .int (I1 68 ((i + (nI 1))).toNatClampNeg), .ref 46, .int r1] ((fl1, (n1 - x1), (n2 - y1), p1, q1, ad1), I1, J1)
  obtain ⟨x2, y2, u2, w2, h2⟩ := h1.2.2
  show ∃ x y, x ≤ (n1 - x1) ∧ y ≤ (n2 - y1) ∧ mm_wc d 218 [.ref 46, .int (I1 68 ((i + (nI 1))).toNatClampNeg), .int (I1 68 ((i + (nI 2))).toNatClampNeg)] ((fl1, x, y, p1, q1, ad1), I1, J1) _
  refine ⟨x2, y2, u2, w2, mm_wcm h2 ?_⟩
  rintro v τ ⟨r2, fl2, z1, z2, p2, q2, ad2, I2, J2, rfl, rfl, h2⟩
  refine mm_r1' ?_
  show mm_b _ _ _ _ _ [some (.ref 68), some (.ref 0), some (.ref 46), some (.ref 65), some (.int i), none, none] [.int r2, .int r1] ((fl2, ((n1 - x1) - x2), ((n2 - y1) - y2), p2, q2, ad2), I2, J2)
  show (r1 = r2 → _) ∧ (¬ r1 = r2 → _)
  refine ⟨fun c0 => ?_, fun c0 => ?_⟩
  · exact (h2.1 c0)
  · show mm_b _ _ _ _ _ [some (.ref 68), some (.ref 0), some (.ref 46), some (.ref 65), some (.int i), none, none] [] ((fl2, ((n1 - x1) - x2), ((n2 - y1) - y2), p2, q2, ad2), I2, J2)
    show (((nI 0) : Int32) = 0 ∨ ((nI 0) : Int32) = 1) ∧ _
    refine ⟨(by decide), ?_⟩
    exact (h2.2 c0)
theorem lx_496 {d : Nat} {i : Int32} {fl : Nat → Bool} {n1 n2 : Nat} {p q : Bool} {ad : Nat → Nat} {I : mmI} {J : mmJ} {Q : mmQ} (h : ∃ x1 y1, x1 ≤ n1 ∧ y1 ≤ n2 ∧ mm_wc d 119 [.ref 0] ((fl, x1, y1, p, q, ad), I, J) (fun v τ => ∃ r1 fl1 z1 z2 p1 q1 ad1 I1 J1, v = some (.int r1) ∧ τ = ((fl1, z1, z2, p1, q1, ad1), I1, J1) ∧ ∃ x2 y2, x2 ≤ (n1 - x1) ∧ y2 ≤ (n2 - y1) ∧ mm_wc d 219 [.ref 46] ((fl1, x2, y2, p1, q1, ad1), I1, J1) (fun v τ => ∃ r2 fl2 z1 z2 p2 q2 ad2 I2 J2, v = some (.int r2) ∧ τ = ((fl2, z1, z2, p2, q2, ad2), I2, J2) ∧ ((r1 = r2 → mm_w Q (mm_wc d) bk_law 1331 [some (.ref 68), some (.ref 0), some (.ref 46), some (.ref 65), some (.int i), none, none] [] ((fl2, ((n1 - x1) - x2), ((n2 - y1) - y2), p2, q2, ad2), I2, J2)) ∧ (¬ r1 = r2 → Q (some (.int (nI 0))) ((fl2, ((n1 - x1) - x2), ((n2 - y1) - y2), p2, q2, ad2), I2, J2)))))) : mm_w Q (mm_wc d) bk_law 496 [some (.ref 68), some (.ref 0), some (.ref 46), some (.ref 65), some (.int i), none, none] [] ((fl, n1, n2, p, q, ad), I, J) := by
  refine mm_go [23, 1331] 90 ?_
  obtain ⟨x1, y1, u1, w1, h1⟩ := h
  show ∃ x y, x ≤ n1 ∧ y ≤ n2 ∧ mm_wc d 119 [.ref 0] ((fl, x, y, p, q, ad), I, J) _
  refine ⟨x1, y1, u1, w1, mm_wcm h1 ?_⟩
  rintro v τ ⟨r1, fl1, z1, z2, p1, q1, ad1, I1, J1, rfl, rfl, h1⟩
  refine mm_r1' ?_
  show mm_b _ _ _ _ _ [some (.ref 68), some (.ref 0), some (.ref 46), some (.ref 65), some (.int i), none, none] [.int r1] ((fl1, (n1 - x1), (n2 - y1), p1, q1, ad1), I1, J1)
  obtain ⟨x2, y2, u2, w2, h2⟩ := h1
  show ∃ x y, x ≤ (n1 - x1) ∧ y ≤ (n2 - y1) ∧ mm_wc d 219 [.ref 46] ((fl1, x, y, p1, q1, ad1), I1, J1) _
  refine ⟨x2, y2, u2, w2, mm_wcm h2 ?_⟩
  rintro v τ ⟨r2, fl2, z1, z2, p2, q2, ad2, I2, J2, rfl, rfl, h2⟩
  refine mm_r1' ?_
  show mm_b _ _ _ _ _ [some (.ref 68), some (.ref 0), some (.ref 46), some (.ref 65), some (.int i), none, none] [.int r2, .int r1] ((fl2, ((n1 - x1) - x2), ((n2 - y1) - y2), p2, q2, ad2), I2, J2)
  show (r1 = r2 → _) ∧ (¬ r1 = r2 → _)
  refine ⟨fun c0 => ?_, fun c0 => ?_⟩
  · exact (h2.1 c0)
  · show mm_b _ _ _ _ _ [some (.ref 68), some (.ref 0), some (.ref 46), some (.ref 65), some (.int i), none, none] [] ((fl2, ((n1 - x1) - x2), ((n2 - y1) - y2), p2, q2, ad2), I2, J2)
    show (((nI 0) : Int32) = 0 ∨ ((nI 0) : Int32) = 1) ∧ _
    refine ⟨(by decide), ?_⟩
    exact (h2.2 c0)
theorem lx_509 {d : Nat} {i : Int32} {fl : Nat → Bool} {n1 n2 : Nat} {p q : Bool} {ad : Nat → Nat} {I : mmI} {J : mmJ} {Q : mmQ} (h : ∃ x1 y1, x1 ≤ n1 ∧ y1 ≤ n2 ∧ mm_wc d 120 [.ref 0] ((fl, x1, y1, p, q, ad), I, J) (fun v τ => ∃ r1 fl1 z1 z2 p1 q1 ad1 I1 J1, v = some (.int r1) ∧ τ = ((fl1, z1, z2, p1, q1, ad1), I1, J1) ∧ ∃ x2 y2, x2 ≤ (n1 - x1) ∧ y2 ≤ (n2 - y1) ∧ mm_wc d 220 [.ref 46] ((fl1, x2, y2, p1, q1, ad1), I1, J1) (fun v τ => ∃ r2 fl2 z1 z2 p2 q2 ad2 I2 J2, v = some (.int r2) ∧ τ = ((fl2, z1, z2, p2, q2, ad2), I2, J2) ∧ ((r1 = r2 → mm_w Q (mm_wc d) bk_law 1331 [some (.ref 68), some (.ref 0), some (.ref 46), some (.ref 65), some (.int i), none, none] [] ((fl2, ((n1 - x1) - x2), ((n2 - y1) - y2), p2, q2, ad2), I2, J2)) ∧ (¬ r1 = r2 → Q (some (.int (nI 0))) ((fl2, ((n1 - x1) - x2), ((n2 - y1) - y2), p2, q2, ad2), I2, J2)))))) : mm_w Q (mm_wc d) bk_law 509 [some (.ref 68), some (.ref 0), some (.ref 46), some (.ref 65), some (.int i), none, none] [] ((fl, n1, n2, p, q, ad), I, J) := by
  refine mm_go [23, 1331] 90 ?_
  obtain ⟨x1, y1, u1, w1, h1⟩ := h
  show ∃ x y, x ≤ n1 ∧ y ≤ n2 ∧ mm_wc d 120 [.ref 0] ((fl, x, y, p, q, ad), I, J) _
  refine ⟨x1, y1, u1, w1, mm_wcm h1 ?_⟩
  rintro v τ ⟨r1, fl1, z1, z2, p1, q1, ad1, I1, J1, rfl, rfl, h1⟩
  refine mm_r1' ?_
  show mm_b _ _ _ _ _ [some (.ref 68), some (.ref 0), some (.ref 46), some (.ref 65), some (.int i), none, none] [.int r1] ((fl1, (n1 - x1), (n2 - y1), p1, q1, ad1), I1, J1)
  obtain ⟨x2, y2, u2, w2, h2⟩ := h1
  show ∃ x y, x ≤ (n1 - x1) ∧ y ≤ (n2 - y1) ∧ mm_wc d 220 [.ref 46] ((fl1, x, y, p1, q1, ad1), I1, J1) _
  refine ⟨x2, y2, u2, w2, mm_wcm h2 ?_⟩
  rintro v τ ⟨r2, fl2, z1, z2, p2, q2, ad2, I2, J2, rfl, rfl, h2⟩
  refine mm_r1' ?_
  show mm_b _ _ _ _ _ [some (.ref 68), some (.ref 0), some (.ref 46), some (.ref 65), some (.int i), none, none] [.int r2, .int r1] ((fl2, ((n1 - x1) - x2), ((n2 - y1) - y2), p2, q2, ad2), I2, J2)
  show (r1 = r2 → _) ∧ (¬ r1 = r2 → _)
  refine ⟨fun c0 => ?_, fun c0 => ?_⟩
  · exact (h2.1 c0)
  · show mm_b _ _ _ _ _ [some (.ref 68), some (.ref 0), some (.ref 46), some (.ref 65), some (.int i), none, none] [] ((fl2, ((n1 - x1) - x2), ((n2 - y1) - y2), p2, q2, ad2), I2, J2)
    show (((nI 0) : Int32) = 0 ∨ ((nI 0) : Int32) = 1) ∧ _
    refine ⟨(by decide), ?_⟩
    exact (h2.2 c0)
theorem lx_522 {d : Nat} {i : Int32} {fl : Nat → Bool} {n1 n2 : Nat} {p q : Bool} {ad : Nat → Nat} {I : mmI} {J : mmJ} {Q : mmQ} (h : (vp_in (i + (nI 1)) ((I 69 0)).toNatClampNeg ∧ (vp_in (i + (nI 2)) ((I 69 0)).toNatClampNeg ∧ (((I 68 ((i + (nI 2))).toNatClampNeg) = (nI 0) → ∃ x1 y1, x1 ≤ n1 ∧ y1 ≤ n2 ∧ mm_wc d 121 [.ref 0, .int (I 68 ((i + (nI 1))).toNatClampNeg), .int (nI 0)] ((fl, x1, y1, p, q, ad), I, J) (fun v τ => ∃ r1 fl1 z1 z2 p1 q1 ad1 I1 J1, v = some (.int r1) ∧ τ = ((fl1, z1, z2, p1, q1, ad1), I1, J1) ∧ (vp_in (i + (nI 1)) ((I1 69 0)).toNatClampNeg ∧ (vp_in (i + (nI 2)) ((I1 69 0)).toNatClampNeg ∧ (((I1 68 ((i + (nI 2))).toNatClampNeg) = (nI 0) → ∃ x2 y2, x2 ≤ (n1 - x1) ∧ y2 ≤ (n2 - y1) ∧ mm_wc d 221 [.ref 46, .int (I1 68 ((i + (nI 1))).toNatClampNeg), .int (nI 0)] ((fl1, x2, y2, p1, q1, ad1), I1, J1) (fun v τ => ∃ r2 fl2 z1 z2 p2 q2 ad2 I2 J2, v = some (.int r2) ∧ τ = ((fl2, z1, z2, p2, q2, ad2), I2, J2) ∧ ((r1 = r2 → mm_w Q (mm_wc d) bk_law 1331 [some (.ref 68), some (.ref 0), some (.ref 46), some (.ref 65), some (.int i), none, none] [] ((fl2, ((n1 - x1) - x2), ((n2 - y1) - y2), p2, q2, ad2), I2, J2)) ∧ (¬ r1 = r2 → Q (some (.int (nI 0))) ((fl2, ((n1 - x1) - x2), ((n2 - y1) - y2), p2, q2, ad2), I2, J2))))) ∧ (¬ (I1 68 ((i + (nI 2))).toNatClampNeg) = (nI 0) → ∃ x3 y3, x3 ≤ (n1 - x1) ∧ y3 ≤ (n2 - y1) ∧ mm_wc d 221 [.ref 46, .int (I1 68 ((i + (nI 1))).toNatClampNeg), .int (nI 1)] ((fl1, x3, y3, p1, q1, ad1), I1, J1) (fun v τ => ∃ r3 fl3 z1 z2 p3 q3 ad3 I3 J3, v = some (.int r3) ∧ τ = ((fl3, z1, z2, p3, q3, ad3), I3, J3) ∧ ((r1 = r3 → mm_w Q (mm_wc d) bk_law 1331 [some (.ref 68), some (.ref 0), some (.ref 46), some (.ref 65), some (.int i), none, none] [] ((fl3, ((n1 - x1) - x3), ((n2 - y1) - y3), p3, q3, ad3), I3, J3)) ∧ (¬ r1 = r3 → Q (some (.int (nI 0))) ((fl3, ((n1 - x1) - x3), ((n2 - y1) - y3), p3, q3, ad3), I3, J3)))))))))) ∧ (¬ (I 68 ((i + (nI 2))).toNatClampNeg) = (nI 0) → ∃ x4 y4, x4 ≤ n1 ∧ y4 ≤ n2 ∧ mm_wc d 121 [.ref 0, .int (I 68 ((i + (nI 1))).toNatClampNeg), .int (nI 1)] ((fl, x4, y4, p, q, ad), I, J) (fun v τ => ∃ r4 fl4 z1 z2 p4 q4 ad4 I4 J4, v = some (.int r4) ∧ τ = ((fl4, z1, z2, p4, q4, ad4), I4, J4) ∧ (vp_in (i + (nI 1)) ((I4 69 0)).toNatClampNeg ∧ (vp_in (i + (nI 2)) ((I4 69 0)).toNatClampNeg ∧ (((I4 68 ((i + (nI 2))).toNatClampNeg) = (nI 0) → ∃ x5 y5, x5 ≤ (n1 - x4) ∧ y5 ≤ (n2 - y4) ∧ mm_wc d 221 [.ref 46, .int (I4 68 ((i + (nI 1))).toNatClampNeg), .int (nI 0)] ((fl4, x5, y5, p4, q4, ad4), I4, J4) (fun v τ => ∃ r5 fl5 z1 z2 p5 q5 ad5 I5 J5, v = some (.int r5) ∧ τ = ((fl5, z1, z2, p5, q5, ad5), I5, J5) ∧ ((r4 = r5 → mm_w Q (mm_wc d) bk_law 1331 [some (.ref 68), some (.ref 0), some (.ref 46), some (.ref 65), some (.int i), none, none] [] ((fl5, ((n1 - x4) - x5), ((n2 - y4) - y5), p5, q5, ad5), I5, J5)) ∧ (¬ r4 = r5 → Q (some (.int (nI 0))) ((fl5, ((n1 - x4) - x5), ((n2 - y4) - y5), p5, q5, ad5), I5, J5))))) ∧ (¬ (I4 68 ((i + (nI 2))).toNatClampNeg) = (nI 0) → ∃ x6 y6, x6 ≤ (n1 - x4) ∧ y6 ≤ (n2 - y4) ∧ mm_wc d 221 [.ref 46, .int (I4 68 ((i + (nI 1))).toNatClampNeg), .int (nI 1)] ((fl4, x6, y6, p4, q4, ad4), I4, J4) (fun v τ => ∃ r6 fl6 z1 z2 p6 q6 ad6 I6 J6, v = some (.int r6) ∧ τ = ((fl6, z1, z2, p6, q6, ad6), I6, J6) ∧ ((r4 = r6 → mm_w Q (mm_wc d) bk_law 1331 [some (.ref 68), some (.ref 0), some (.ref 46), some (.ref 65), some (.int i), none, none] [] ((fl6, ((n1 - x4) - x6), ((n2 - y4) - y6), p6, q6, ad6), I6, J6)) ∧ (¬ r4 = r6 → Q (some (.int (nI 0))) ((fl6, ((n1 - x4) - x6), ((n2 - y4) - y6), p6, q6, ad6), I6, J6)))))))))))))) : mm_w Q (mm_wc d) bk_law 522 [some (.ref 68), some (.ref 0), some (.ref 46), some (.ref 65), some (.int i), none, none] [] ((fl, n1, n2, p, q, ad), I, J) := by
  refine mm_go [23, 1331] 90 ?_
  show vp_in (i + (nI 1)) ((I 69 0)).toNatClampNeg ∧ _
  refine ⟨h.1, ?_⟩
  show mm_b _ _ _ _ _ [some (.ref 68), some (.ref 0), some (.ref 46), some (.ref 65), some (.int i), none, none] [.int (I 68 ((i + (nI 1))).toNatClampNeg), .ref 0] ((fl, n1, n2, p, q, ad), I, J)
  show vp_in (i + (nI 2)) ((I 69 0)).toNatClampNeg ∧ _
  refine ⟨h.2.1, ?_⟩
  show mm_b _ _ _ _ _ [some (.ref 68), some (.ref 0), some (.ref 46), some (.ref 65), some (.int i), none, none] [.int (I 68 ((i + (nI 2))).toNatClampNeg), .int (I 68 ((i + (nI 1))).toNatClampNeg), .ref 0] ((fl, n1, n2, p, q, ad), I, J)
  show ((I 68 ((i + (nI 2))).toNatClampNeg) = (nI 0) → _) ∧ (¬ (I 68 ((i + (nI 2))).toNatClampNeg) = (nI 0) → _)
  refine ⟨fun c0 => ?_, fun c0 => ?_⟩
  · show mm_u _ _ _ _ _ _ [some (.ref 68), some (.ref 0), some (.ref 46), some (.ref 65), some (.int i), none, none] [.int (I 68 ((i + (nI 1))).toNatClampNeg), .ref 0] ((fl, n1, n2, p, q, ad), I, J)
    obtain ⟨x1, y1, u1, w1, h1⟩ := (h.2.2.1 c0)
    show ∃ x y, x ≤ n1 ∧ y ≤ n2 ∧ mm_wc d 121 [.ref 0, .int (I 68 ((i + (nI 1))).toNatClampNeg), .int (nI 0)] ((fl, x, y, p, q, ad), I, J) _
    refine ⟨x1, y1, u1, w1, mm_wcm h1 ?_⟩
    rintro v τ ⟨r1, fl1, z1, z2, p1, q1, ad1, I1, J1, rfl, rfl, h1⟩
    refine mm_r1' ?_
    show mm_b _ _ _ _ _ [some (.ref 68), some (.ref 0), some (.ref 46), some (.ref 65), some (.int i), none, none] [.int r1] ((fl1, (n1 - x1), (n2 - y1), p1, q1, ad1), I1, J1)
    show vp_in (i + (nI 1)) ((I1 69 0)).toNatClampNeg ∧ _
    refine ⟨h1.1, ?_⟩
    show mm_b _ _ _ _ _ [some (.ref 68), some (.ref 0), some (.ref 46), some (.ref 65), some (.int i), none, none] [.int (I1 68 ((i + (nI 1))).toNatClampNeg), .ref 46, .int r1] ((fl1, (n1 - x1), (n2 - y1), p1, q1, ad1), I1, J1)
    show vp_in (i + (nI 2)) ((I1 69 0)).toNatClampNeg ∧ _
    refine ⟨h1.2.1, ?_⟩
    show mm_b _ _ _ _ _ [some (.ref 68), some (.ref 0), some (.ref 46), some (.ref 65), some (.int i), none, none] [.int (I1 68 ((i + (nI 2))).toNatClampNeg), .int (I1 68 ((i + (nI 1))).toNatClampNeg), .ref 46, .int r1] ((fl1, (n1 - x1), (n2 - y1), p1, q1, ad1), I1, J1)
    show ((I1 68 ((i + (nI 2))).toNatClampNeg) = (nI 0) → _) ∧ (¬ (I1 68 ((i + (nI 2))).toNatClampNeg) = (nI 0) → _)
    refine ⟨fun c1 => ?_, fun c1 => ?_⟩
    · show mm_u _ _ _ _ _ _ [some (.ref 68), some (.ref 0), some (.ref 46), some (.ref 65), some (.int i), none, none] [.int (I1 68 ((i + (nI 1))).toNatClampNeg), .ref 46, .int r1] ((fl1, (n1 - x1), (n2 - y1), p1, q1, ad1), I1, J1)
      obtain ⟨x2, y2, u2, w2, h2⟩ := (h1.2.2.1 c1)
      show ∃ x y, x ≤ (n1 - x1) ∧ y ≤ (n2 - y1) ∧ mm_wc d 221 [.ref 46, .int (I1 68 ((i + (nI 1))).toNatClampNeg), .int (nI 0)] ((fl1, x, y, p1, q1, ad1), I1, J1) _
      refine ⟨x2, y2, u2, w2, mm_wcm h2 ?_⟩
      rintro v τ ⟨r2, fl2, z1, z2, p2, q2, ad2, I2, J2, rfl, rfl, h2⟩
      refine mm_r1' ?_
      show mm_b _ _ _ _ _ [some (.ref 68), some (.ref 0), some (.ref 46), some (.ref 65), some (.int i), none, none] [.int r2, .int r1] ((fl2, ((n1 - x1) - x2), ((n2 - y1) - y2), p2, q2, ad2), I2, J2)
      show (r1 = r2 → _) ∧ (¬ r1 = r2 → _)
      refine ⟨fun c2 => ?_, fun c2 => ?_⟩
      · exact (h2.1 c2)
      · show mm_b _ _ _ _ _ [some (.ref 68), some (.ref 0), some (.ref 46), some (.ref 65), some (.int i), none, none] [] ((fl2, ((n1 - x1) - x2), ((n2 - y1) - y2), p2, q2, ad2), I2, J2)
        show (((nI 0) : Int32) = 0 ∨ ((nI 0) : Int32) = 1) ∧ _
        refine ⟨(by decide), ?_⟩
        exact (h2.2 c2)
    · show mm_b _ _ _ _ _ [some (.ref 68), some (.ref 0), some (.ref 46), some (.ref 65), some (.int i), none, none] [.int (I1 68 ((i + (nI 1))).toNatClampNeg), .ref 46, .int r1] ((fl1, (n1 - x1), (n2 - y1), p1, q1, ad1), I1, J1)
      obtain ⟨x3, y3, u3, w3, h3⟩ := (h1.2.2.2 c1)
      show ∃ x y, x ≤ (n1 - x1) ∧ y ≤ (n2 - y1) ∧ mm_wc d 221 [.ref 46, .int (I1 68 ((i + (nI 1))).toNatClampNeg), .int (nI 1)] ((fl1, x, y, p1, q1, ad1), I1, J1) _
      refine ⟨x3, y3, u3, w3, mm_wcm h3 ?_⟩
      rintro v τ ⟨r3, fl3, z1, z2, p3, q3, ad3, I3, J3, rfl, rfl, h3⟩
      refine mm_r1' ?_
      show mm_b _ _ _ _ _ [some (.ref 68), some (.ref 0), some (.ref 46), some (.ref 65), some (.int i), none, none] [.int r3, .int r1] ((fl3, ((n1 - x1) - x3), ((n2 - y1) - y3), p3, q3, ad3), I3, J3)
      show (r1 = r3 → _) ∧ (¬ r1 = r3 → _)
      refine ⟨fun c2 => ?_, fun c2 => ?_⟩
      · exact (h3.1 c2)
      · show mm_b _ _ _ _ _ [some (.ref 68), some (.ref 0), some (.ref 46), some (.ref 65), some (.int i), none, none] [] ((fl3, ((n1 - x1) - x3), ((n2 - y1) - y3), p3, q3, ad3), I3, J3)
        show (((nI 0) : Int32) = 0 ∨ ((nI 0) : Int32) = 1) ∧ _
        refine ⟨(by decide), ?_⟩
        exact (h3.2 c2)
  · show mm_b _ _ _ _ _ [some (.ref 68), some (.ref 0), some (.ref 46), some (.ref 65), some (.int i), none, none] [.int (I 68 ((i + (nI 1))).toNatClampNeg), .ref 0] ((fl, n1, n2, p, q, ad), I, J)
    obtain ⟨x4, y4, u4, w4, h4⟩ := (h.2.2.2 c0)
    show ∃ x y, x ≤ n1 ∧ y ≤ n2 ∧ mm_wc d 121 [.ref 0, .int (I 68 ((i + (nI 1))).toNatClampNeg), .int (nI 1)] ((fl, x, y, p, q, ad), I, J) _
    refine ⟨x4, y4, u4, w4, mm_wcm h4 ?_⟩
    rintro v τ ⟨r4, fl4, z1, z2, p4, q4, ad4, I4, J4, rfl, rfl, h4⟩
    refine mm_r1' ?_
    show mm_b _ _ _ _ _ [some (.ref 68), some (.ref 0), some (.ref 46), some (.ref 65), some (.int i), none, none] [.int r4] ((fl4, (n1 - x4), (n2 - y4), p4, q4, ad4), I4, J4)
    show vp_in (i + (nI 1)) ((I4 69 0)).toNatClampNeg ∧ _
    refine ⟨h4.1, ?_⟩
    show mm_b _ _ _ _ _ [some (.ref 68), some (.ref 0), some (.ref 46), some (.ref 65), some (.int i), none, none] [.int (I4 68 ((i + (nI 1))).toNatClampNeg), .ref 46, .int r4] ((fl4, (n1 - x4), (n2 - y4), p4, q4, ad4), I4, J4)
    show vp_in (i + (nI 2)) ((I4 69 0)).toNatClampNeg ∧ _
    refine ⟨h4.2.1, ?_⟩
    show mm_b _ _ _ _ _ [some (.ref 68), some (.ref 0), some (.ref 46), some (.ref 65), some (.int i), none, none] [.int (I4 68 ((i + (nI 2))).toNatClampNeg), .int (I4 68 ((i + (nI 1))).toNatClampNeg), .ref 46, .int r4] ((fl4, (n1 - x4), (n2 - y4), p4, q4, ad4), I4, J4)
    show ((I4 68 ((i + (nI 2))).toNatClampNeg) = (nI 0) → _) ∧ (¬ (I4 68 ((i + (nI 2))).toNatClampNeg) = (nI 0) → _)
    refine ⟨fun c1 => ?_, fun c1 => ?_⟩
    · show mm_u _ _ _ _ _ _ [some (.ref 68), some (.ref 0), some (.ref 46), some (.ref 65), some (.int i), none, none] [.int (I4 68 ((i + (nI 1))).toNatClampNeg), .ref 46, .int r4] ((fl4, (n1 - x4), (n2 - y4), p4, q4, ad4), I4, J4)
      obtain ⟨x5, y5, u5, w5, h5⟩ := (h4.2.2.1 c1)
      show ∃ x y, x ≤ (n1 - x4) ∧ y ≤ (n2 - y4) ∧ mm_wc d 221 [.ref 46, .int (I4 68 ((i + (nI 1))).toNatClampNeg), .int (nI 0)] ((fl4, x, y, p4, q4, ad4), I4, J4) _
      refine ⟨x5, y5, u5, w5, mm_wcm h5 ?_⟩
      rintro v τ ⟨r5, fl5, z1, z2, p5, q5, ad5, I5, J5, rfl, rfl, h5⟩
      refine mm_r1' ?_
      show mm_b _ _ _ _ _ [some (.ref 68), some (.ref 0), some (.ref 46), some (.ref 65), some (.int i), none, none] [.int r5, .int r4] ((fl5, ((n1 - x4) - x5), ((n2 - y4) - y5), p5, q5, ad5), I5, J5)
      show (r4 = r5 → _) ∧ (¬ r4 = r5 → _)
      refine ⟨fun c2 => ?_, fun c2 => ?_⟩
      · exact (h5.1 c2)
      · show mm_b _ _ _ _ _ [some (.ref 68), some (.ref 0), some (.ref 46), some (.ref 65), some (.int i), none, none] [] ((fl5, ((n1 - x4) - x5), ((n2 - y4) - y5), p5, q5, ad5), I5, J5)
        show (((nI 0) : Int32) = 0 ∨ ((nI 0) : Int32) = 1) ∧ _
        refine ⟨(by decide), ?_⟩
        exact (h5.2 c2)
    · show mm_b _ _ _ _ _ [some (.ref 68), some (.ref 0), some (.ref 46), some (.ref 65), some (.int i), none, none] [.int (I4 68 ((i + (nI 1))).toNatClampNeg), .ref 46, .int r4] ((fl4, (n1 - x4), (n2 - y4), p4, q4, ad4), I4, J4)
      obtain ⟨x6, y6, u6, w6, h6⟩ := (h4.2.2.2 c1)
      show ∃ x y, x ≤ (n1 - x4) ∧ y ≤ (n2 - y4) ∧ mm_wc d 221 [.ref 46, .int (I4 68 ((i + (nI 1))).toNatClampNeg), .int (nI 1)] ((fl4, x, y, p4, q4, ad4), I4, J4) _
      refine ⟨x6, y6, u6, w6, mm_wcm h6 ?_⟩
      rintro v τ ⟨r6, fl6, z1, z2, p6, q6, ad6, I6, J6, rfl, rfl, h6⟩
      refine mm_r1' ?_
      show mm_b _ _ _ _ _ [some (.ref 68), some (.ref 0), some (.ref 46), some (.ref 65), some (.int i), none, none] [.int r6, .int r4] ((fl6, ((n1 - x4) - x6), ((n2 - y4) - y6), p6, q6, ad6), I6, J6)
      show (r4 = r6 → _) ∧ (¬ r4 = r6 → _)
      refine ⟨fun c2 => ?_, fun c2 => ?_⟩
      · exact (h6.1 c2)
      · show mm_b _ _ _ _ _ [some (.ref 68), some (.ref 0), some (.ref 46), some (.ref 65), some (.int i), none, none] [] ((fl6, ((n1 - x4) - x6), ((n2 - y4) - y6), p6, q6, ad6), I6, J6)
        show (((nI 0) : Int32) = 0 ∨ ((nI 0) : Int32) = 1) ∧ _
        refine ⟨(by decide), ?_⟩
        exact (h6.2 c2)
theorem lx_575 {d : Nat} {i : Int32} {fl : Nat → Bool} {n1 n2 : Nat} {p q : Bool} {ad : Nat → Nat} {I : mmI} {J : mmJ} {Q : mmQ} (h : ∃ x1 y1, x1 ≤ n1 ∧ y1 ≤ n2 ∧ mm_wc d 122 [.ref 0] ((fl, x1, y1, p, q, ad), I, J) (fun v τ => ∃ r1 fl1 z1 z2 p1 q1 ad1 I1 J1, v = some (.int r1) ∧ τ = ((fl1, z1, z2, p1, q1, ad1), I1, J1) ∧ ∃ x2 y2, x2 ≤ (n1 - x1) ∧ y2 ≤ (n2 - y1) ∧ mm_wc d 222 [.ref 46] ((fl1, x2, y2, p1, q1, ad1), I1, J1) (fun v τ => ∃ r2 fl2 z1 z2 p2 q2 ad2 I2 J2, v = some (.int r2) ∧ τ = ((fl2, z1, z2, p2, q2, ad2), I2, J2) ∧ ((r1 = r2 → mm_w Q (mm_wc d) bk_law 1331 [some (.ref 68), some (.ref 0), some (.ref 46), some (.ref 65), some (.int i), none, none] [] ((fl2, ((n1 - x1) - x2), ((n2 - y1) - y2), p2, q2, ad2), I2, J2)) ∧ (¬ r1 = r2 → Q (some (.int (nI 0))) ((fl2, ((n1 - x1) - x2), ((n2 - y1) - y2), p2, q2, ad2), I2, J2)))))) : mm_w Q (mm_wc d) bk_law 575 [some (.ref 68), some (.ref 0), some (.ref 46), some (.ref 65), some (.int i), none, none] [] ((fl, n1, n2, p, q, ad), I, J) := by
  refine mm_go [23, 1331] 90 ?_
  obtain ⟨x1, y1, u1, w1, h1⟩ := h
  show ∃ x y, x ≤ n1 ∧ y ≤ n2 ∧ mm_wc d 122 [.ref 0] ((fl, x, y, p, q, ad), I, J) _
  refine ⟨x1, y1, u1, w1, mm_wcm h1 ?_⟩
  rintro v τ ⟨r1, fl1, z1, z2, p1, q1, ad1, I1, J1, rfl, rfl, h1⟩
  refine mm_r1' ?_
  show mm_b _ _ _ _ _ [some (.ref 68), some (.ref 0), some (.ref 46), some (.ref 65), some (.int i), none, none] [.int r1] ((fl1, (n1 - x1), (n2 - y1), p1, q1, ad1), I1, J1)
  obtain ⟨x2, y2, u2, w2, h2⟩ := h1
  show ∃ x y, x ≤ (n1 - x1) ∧ y ≤ (n2 - y1) ∧ mm_wc d 222 [.ref 46] ((fl1, x, y, p1, q1, ad1), I1, J1) _
  refine ⟨x2, y2, u2, w2, mm_wcm h2 ?_⟩
  rintro v τ ⟨r2, fl2, z1, z2, p2, q2, ad2, I2, J2, rfl, rfl, h2⟩
  refine mm_r1' ?_
  show mm_b _ _ _ _ _ [some (.ref 68), some (.ref 0), some (.ref 46), some (.ref 65), some (.int i), none, none] [.int r2, .int r1] ((fl2, ((n1 - x1) - x2), ((n2 - y1) - y2), p2, q2, ad2), I2, J2)
  show (r1 = r2 → _) ∧ (¬ r1 = r2 → _)
  refine ⟨fun c0 => ?_, fun c0 => ?_⟩
  · exact (h2.1 c0)
  · show mm_b _ _ _ _ _ [some (.ref 68), some (.ref 0), some (.ref 46), some (.ref 65), some (.int i), none, none] [] ((fl2, ((n1 - x1) - x2), ((n2 - y1) - y2), p2, q2, ad2), I2, J2)
    show (((nI 0) : Int32) = 0 ∨ ((nI 0) : Int32) = 1) ∧ _
    refine ⟨(by decide), ?_⟩
    exact (h2.2 c0)
theorem lx_588 {d : Nat} {i : Int32} {fl : Nat → Bool} {n1 n2 : Nat} {p q : Bool} {ad : Nat → Nat} {I : mmI} {J : mmJ} {Q : mmQ} (h : ∃ x1 y1, x1 ≤ n1 ∧ y1 ≤ n2 ∧ mm_wc d 123 [.ref 0] ((fl, x1, y1, p, q, ad), I, J) (fun v τ => ∃ r1 fl1 z1 z2 p1 q1 ad1 I1 J1, v = some (.int r1) ∧ τ = ((fl1, z1, z2, p1, q1, ad1), I1, J1) ∧ ∃ x2 y2, x2 ≤ (n1 - x1) ∧ y2 ≤ (n2 - y1) ∧ mm_wc d 223 [.ref 46] ((fl1, x2, y2, p1, q1, ad1), I1, J1) (fun v τ => ∃ r2 fl2 z1 z2 p2 q2 ad2 I2 J2, v = some (.int r2) ∧ τ = ((fl2, z1, z2, p2, q2, ad2), I2, J2) ∧ ((r1 = r2 → mm_w Q (mm_wc d) bk_law 1331 [some (.ref 68), some (.ref 0), some (.ref 46), some (.ref 65), some (.int i), none, none] [] ((fl2, ((n1 - x1) - x2), ((n2 - y1) - y2), p2, q2, ad2), I2, J2)) ∧ (¬ r1 = r2 → Q (some (.int (nI 0))) ((fl2, ((n1 - x1) - x2), ((n2 - y1) - y2), p2, q2, ad2), I2, J2)))))) : mm_w Q (mm_wc d) bk_law 588 [some (.ref 68), some (.ref 0), some (.ref 46), some (.ref 65), some (.int i), none, none] [] ((fl, n1, n2, p, q, ad), I, J) := by
  refine mm_go [23, 1331] 90 ?_
  obtain ⟨x1, y1, u1, w1, h1⟩ := h
  show ∃ x y, x ≤ n1 ∧ y ≤ n2 ∧ mm_wc d 123 [.ref 0] ((fl, x, y, p, q, ad), I, J) _
  refine ⟨x1, y1, u1, w1, mm_wcm h1 ?_⟩
  rintro v τ ⟨r1, fl1, z1, z2, p1, q1, ad1, I1, J1, rfl, rfl, h1⟩
  refine mm_r1' ?_
  show mm_b _ _ _ _ _ [some (.ref 68), some (.ref 0), some (.ref 46), some (.ref 65), some (.int i), none, none] [.int r1] ((fl1, (n1 - x1), (n2 - y1), p1, q1, ad1), I1, J1)
  obtain ⟨x2, y2, u2, w2, h2⟩ := h1
  show ∃ x y, x ≤ (n1 - x1) ∧ y ≤ (n2 - y1) ∧ mm_wc d 223 [.ref 46] ((fl1, x, y, p1, q1, ad1), I1, J1) _
  refine ⟨x2, y2, u2, w2, mm_wcm h2 ?_⟩
  rintro v τ ⟨r2, fl2, z1, z2, p2, q2, ad2, I2, J2, rfl, rfl, h2⟩
  refine mm_r1' ?_
  show mm_b _ _ _ _ _ [some (.ref 68), some (.ref 0), some (.ref 46), some (.ref 65), some (.int i), none, none] [.int r2, .int r1] ((fl2, ((n1 - x1) - x2), ((n2 - y1) - y2), p2, q2, ad2), I2, J2)
  show (r1 = r2 → _) ∧ (¬ r1 = r2 → _)
  refine ⟨fun c0 => ?_, fun c0 => ?_⟩
  · exact (h2.1 c0)
  · show mm_b _ _ _ _ _ [some (.ref 68), some (.ref 0), some (.ref 46), some (.ref 65), some (.int i), none, none] [] ((fl2, ((n1 - x1) - x2), ((n2 - y1) - y2), p2, q2, ad2), I2, J2)
    show (((nI 0) : Int32) = 0 ∨ ((nI 0) : Int32) = 1) ∧ _
    refine ⟨(by decide), ?_⟩
    exact (h2.2 c0)
theorem lx_601 {d : Nat} {i : Int32} {fl : Nat → Bool} {n1 n2 : Nat} {p q : Bool} {ad : Nat → Nat} {I : mmI} {J : mmJ} {Q : mmQ} (h : (vp_in (i + (nI 1)) ((I 69 0)).toNatClampNeg ∧ ∃ x1 y1, x1 ≤ n1 ∧ y1 ≤ n2 ∧ mm_wc d 124 [.ref 0, .int (I 68 ((i + (nI 1))).toNatClampNeg)] ((fl, x1, y1, p, q, ad), I, J) (fun v τ => ∃ r1 fl1 z1 z2 p1 q1 ad1 I1 J1, v = some (.int r1) ∧ τ = ((fl1, z1, z2, p1, q1, ad1), I1, J1) ∧ (vp_in (i + (nI 1)) ((I1 69 0)).toNatClampNeg ∧ ∃ x2 y2, x2 ≤ (n1 - x1) ∧ y2 ≤ (n2 - y1) ∧ mm_wc d 226 [.ref 46, .int (I1 68 ((i + (nI 1))).toNatClampNeg)] ((fl1, x2, y2, p1, q1, ad1), I1, J1) (fun v τ => ∃ r2 fl2 z1 z2 p2 q2 ad2 I2 J2, v = some (.int r2) ∧ τ = ((fl2, z1, z2, p2, q2, ad2), I2, J2) ∧ ((r1 = r2 → mm_w Q (mm_wc d) bk_law 1331 [some (.ref 68), some (.ref 0), some (.ref 46), some (.ref 65), some (.int i), none, none] [] ((fl2, ((n1 - x1) - x2), ((n2 - y1) - y2), p2, q2, ad2), I2, J2)) ∧ (¬ r1 = r2 → Q (some (.int (nI 0))) ((fl2, ((n1 - x1) - x2), ((n2 - y1) - y2), p2, q2, ad2), I2, J2)))))))) : mm_w Q (mm_wc d) bk_law 601 [some (.ref 68), some (.ref 0), some (.ref 46), some (.ref 65), some (.int i), none, none] [] ((fl, n1, n2, p, q, ad), I, J) := by
  refine mm_go [23, 1331] 90 ?_
  show vp_in (i + (nI 1)) ((I 69 0)).toNatClampNeg ∧ _
  refine ⟨h.1, ?_⟩
  show mm_b _ _ _ _ _ [some (.ref 68), some (.ref 0), some (.ref 46), some (.ref 65), some (.int i), none, none] [.int (I 68 ((i + (nI 1))).toNatClampNeg), .ref 0] ((fl, n1, n2, p, q, ad), I, J)
  obtain ⟨x1, y1, u1, w1, h1⟩ := h.2
  show ∃ x y, x ≤ n1 ∧ y ≤ n2 ∧ mm_wc d 124 [.ref 0, .int (I 68 ((i + (nI 1))).toNatClampNeg)] ((fl, x, y, p, q, ad), I, J) _
  refine ⟨x1, y1, u1, w1, mm_wcm h1 ?_⟩
  rintro v τ ⟨r1, fl1, z1, z2, p1, q1, ad1, I1, J1, rfl, rfl, h1⟩
  refine mm_r1' ?_
  show mm_b _ _ _ _ _ [some (.ref 68), some (.ref 0), some (.ref 46), some (.ref 65), some (.int i), none, none] [.int r1] ((fl1, (n1 - x1), (n2 - y1), p1, q1, ad1), I1, J1)
  show vp_in (i + (nI 1)) ((I1 69 0)).toNatClampNeg ∧ _
  refine ⟨h1.1, ?_⟩
  show mm_b _ _ _ _ _ [some (.ref 68), some (.ref 0), some (.ref 46), some (.ref 65), some (.int i), none, none] [.int (I1 68 ((i + (nI 1))).toNatClampNeg), .ref 46, .int r1] ((fl1, (n1 - x1), (n2 - y1), p1, q1, ad1), I1, J1)
  obtain ⟨x2, y2, u2, w2, h2⟩ := h1.2
  show ∃ x y, x ≤ (n1 - x1) ∧ y ≤ (n2 - y1) ∧ mm_wc d 226 [.ref 46, .int (I1 68 ((i + (nI 1))).toNatClampNeg)] ((fl1, x, y, p1, q1, ad1), I1, J1) _
  refine ⟨x2, y2, u2, w2, mm_wcm h2 ?_⟩
  rintro v τ ⟨r2, fl2, z1, z2, p2, q2, ad2, I2, J2, rfl, rfl, h2⟩
  refine mm_r1' ?_
  show mm_b _ _ _ _ _ [some (.ref 68), some (.ref 0), some (.ref 46), some (.ref 65), some (.int i), none, none] [.int r2, .int r1] ((fl2, ((n1 - x1) - x2), ((n2 - y1) - y2), p2, q2, ad2), I2, J2)
  show (r1 = r2 → _) ∧ (¬ r1 = r2 → _)
  refine ⟨fun c0 => ?_, fun c0 => ?_⟩
  · exact (h2.1 c0)
  · show mm_b _ _ _ _ _ [some (.ref 68), some (.ref 0), some (.ref 46), some (.ref 65), some (.int i), none, none] [] ((fl2, ((n1 - x1) - x2), ((n2 - y1) - y2), p2, q2, ad2), I2, J2)
    show (((nI 0) : Int32) = 0 ∨ ((nI 0) : Int32) = 1) ∧ _
    refine ⟨(by decide), ?_⟩
    exact (h2.2 c0)
theorem lx_626 {d : Nat} {i : Int32} {fl : Nat → Bool} {n1 n2 : Nat} {p q : Bool} {ad : Nat → Nat} {I : mmI} {J : mmJ} {Q : mmQ} (h : ∃ x1 y1, x1 ≤ n1 ∧ y1 ≤ n2 ∧ mm_wc d 125 [.ref 0] ((fl, x1, y1, p, q, ad), I, J) (fun v τ => ∃ r1 fl1 z1 z2 p1 q1 ad1 I1 J1, v = some (.int r1) ∧ τ = ((fl1, z1, z2, p1, q1, ad1), I1, J1) ∧ ∃ x2 y2, x2 ≤ (n1 - x1) ∧ y2 ≤ (n2 - y1) ∧ mm_wc d 228 [.ref 46] ((fl1, x2, y2, p1, q1, ad1), I1, J1) (fun v τ => ∃ r2 fl2 z1 z2 p2 q2 ad2 I2 J2, v = some (.int r2) ∧ τ = ((fl2, z1, z2, p2, q2, ad2), I2, J2) ∧ ((r1 = r2 → mm_w Q (mm_wc d) bk_law 1331 [some (.ref 68), some (.ref 0), some (.ref 46), some (.ref 65), some (.int i), none, none] [] ((fl2, ((n1 - x1) - x2), ((n2 - y1) - y2), p2, q2, ad2), I2, J2)) ∧ (¬ r1 = r2 → Q (some (.int (nI 0))) ((fl2, ((n1 - x1) - x2), ((n2 - y1) - y2), p2, q2, ad2), I2, J2)))))) : mm_w Q (mm_wc d) bk_law 626 [some (.ref 68), some (.ref 0), some (.ref 46), some (.ref 65), some (.int i), none, none] [] ((fl, n1, n2, p, q, ad), I, J) := by
  refine mm_go [23, 1331] 90 ?_
  obtain ⟨x1, y1, u1, w1, h1⟩ := h
  show ∃ x y, x ≤ n1 ∧ y ≤ n2 ∧ mm_wc d 125 [.ref 0] ((fl, x, y, p, q, ad), I, J) _
  refine ⟨x1, y1, u1, w1, mm_wcm h1 ?_⟩
  rintro v τ ⟨r1, fl1, z1, z2, p1, q1, ad1, I1, J1, rfl, rfl, h1⟩
  refine mm_r1' ?_
  show mm_b _ _ _ _ _ [some (.ref 68), some (.ref 0), some (.ref 46), some (.ref 65), some (.int i), none, none] [.int r1] ((fl1, (n1 - x1), (n2 - y1), p1, q1, ad1), I1, J1)
  obtain ⟨x2, y2, u2, w2, h2⟩ := h1
  show ∃ x y, x ≤ (n1 - x1) ∧ y ≤ (n2 - y1) ∧ mm_wc d 228 [.ref 46] ((fl1, x, y, p1, q1, ad1), I1, J1) _
  refine ⟨x2, y2, u2, w2, mm_wcm h2 ?_⟩
  rintro v τ ⟨r2, fl2, z1, z2, p2, q2, ad2, I2, J2, rfl, rfl, h2⟩
  refine mm_r1' ?_
  show mm_b _ _ _ _ _ [some (.ref 68), some (.ref 0), some (.ref 46), some (.ref 65), some (.int i), none, none] [.int r2, .int r1] ((fl2, ((n1 - x1) - x2), ((n2 - y1) - y2), p2, q2, ad2), I2, J2)
  show (r1 = r2 → _) ∧ (¬ r1 = r2 → _)
  refine ⟨fun c0 => ?_, fun c0 => ?_⟩
  · exact (h2.1 c0)
  · show mm_b _ _ _ _ _ [some (.ref 68), some (.ref 0), some (.ref 46), some (.ref 65), some (.int i), none, none] [] ((fl2, ((n1 - x1) - x2), ((n2 - y1) - y2), p2, q2, ad2), I2, J2)
    show (((nI 0) : Int32) = 0 ∨ ((nI 0) : Int32) = 1) ∧ _
    refine ⟨(by decide), ?_⟩
    exact (h2.2 c0)
theorem lx_639 {d : Nat} {i : Int32} {fl : Nat → Bool} {n1 n2 : Nat} {p q : Bool} {ad : Nat → Nat} {I : mmI} {J : mmJ} {Q : mmQ} (h : (vp_in (i + (nI 1)) ((I 69 0)).toNatClampNeg ∧ ∃ x1 y1, x1 ≤ n1 ∧ y1 ≤ n2 ∧ mm_wc d 126 [.ref 0, .int (I 68 ((i + (nI 1))).toNatClampNeg)] ((fl, x1, y1, p, q, ad), I, J) (fun v τ => ∃ r1 fl1 z1 z2 p1 q1 ad1 I1 J1, v = some (.int r1) ∧ τ = ((fl1, z1, z2, p1, q1, ad1), I1, J1) ∧ (vp_in (i + (nI 1)) ((I1 69 0)).toNatClampNeg ∧ ∃ x2 y2, x2 ≤ (n1 - x1) ∧ y2 ≤ (n2 - y1) ∧ mm_wc d 230 [.ref 46, .int (I1 68 ((i + (nI 1))).toNatClampNeg)] ((fl1, x2, y2, p1, q1, ad1), I1, J1) (fun v τ => ∃ r2 fl2 z1 z2 p2 q2 ad2 I2 J2, v = some (.int r2) ∧ τ = ((fl2, z1, z2, p2, q2, ad2), I2, J2) ∧ ((r1 = r2 → mm_w Q (mm_wc d) bk_law 1331 [some (.ref 68), some (.ref 0), some (.ref 46), some (.ref 65), some (.int i), none, none] [] ((fl2, ((n1 - x1) - x2), ((n2 - y1) - y2), p2, q2, ad2), I2, J2)) ∧ (¬ r1 = r2 → Q (some (.int (nI 0))) ((fl2, ((n1 - x1) - x2), ((n2 - y1) - y2), p2, q2, ad2), I2, J2)))))))) : mm_w Q (mm_wc d) bk_law 639 [some (.ref 68), some (.ref 0), some (.ref 46), some (.ref 65), some (.int i), none, none] [] ((fl, n1, n2, p, q, ad), I, J) := by
  refine mm_go [23, 1331] 90 ?_
  show vp_in (i + (nI 1)) ((I 69 0)).toNatClampNeg ∧ _
  refine ⟨h.1, ?_⟩
  show mm_b _ _ _ _ _ [some (.ref 68), some (.ref 0), some (.ref 46), some (.ref 65), some (.int i), none, none] [.int (I 68 ((i + (nI 1))).toNatClampNeg), .ref 0] ((fl, n1, n2, p, q, ad), I, J)
  obtain ⟨x1, y1, u1, w1, h1⟩ := h.2
  show ∃ x y, x ≤ n1 ∧ y ≤ n2 ∧ mm_wc d 126 [.ref 0, .int (I 68 ((i + (nI 1))).toNatClampNeg)] ((fl, x, y, p, q, ad), I, J) _
  refine ⟨x1, y1, u1, w1, mm_wcm h1 ?_⟩
  rintro v τ ⟨r1, fl1, z1, z2, p1, q1, ad1, I1, J1, rfl, rfl, h1⟩
  refine mm_r1' ?_
  show mm_b _ _ _ _ _ [some (.ref 68), some (.ref 0), some (.ref 46), some (.ref 65), some (.int i), none, none] [.int r1] ((fl1, (n1 - x1), (n2 - y1), p1, q1, ad1), I1, J1)
  show vp_in (i + (nI 1)) ((I1 69 0)).toNatClampNeg ∧ _
  refine ⟨h1.1, ?_⟩
  show mm_b _ _ _ _ _ [some (.ref 68), some (.ref 0), some (.ref 46), some (.ref 65), some (.int i), none, none] [.int (I1 68 ((i + (nI 1))).toNatClampNeg), .ref 46, .int r1] ((fl1, (n1 - x1), (n2 - y1), p1, q1, ad1), I1, J1)
  obtain ⟨x2, y2, u2, w2, h2⟩ := h1.2
  show ∃ x y, x ≤ (n1 - x1) ∧ y ≤ (n2 - y1) ∧ mm_wc d 230 [.ref 46, .int (I1 68 ((i + (nI 1))).toNatClampNeg)] ((fl1, x, y, p1, q1, ad1), I1, J1) _
  refine ⟨x2, y2, u2, w2, mm_wcm h2 ?_⟩
  rintro v τ ⟨r2, fl2, z1, z2, p2, q2, ad2, I2, J2, rfl, rfl, h2⟩
  refine mm_r1' ?_
  show mm_b _ _ _ _ _ [some (.ref 68), some (.ref 0), some (.ref 46), some (.ref 65), some (.int i), none, none] [.int r2, .int r1] ((fl2, ((n1 - x1) - x2), ((n2 - y1) - y2), p2, q2, ad2), I2, J2)
  show (r1 = r2 → _) ∧ (¬ r1 = r2 → _)
  refine ⟨fun c0 => ?_, fun c0 => ?_⟩
  · exact (h2.1 c0)
  · show mm_b _ _ _ _ _ [some (.ref 68), some (.ref 0), some (.ref 46), some (.ref 65), some (.int i), none, none] [] ((fl2, ((n1 - x1) - x2), ((n2 - y1) - y2), p2, q2, ad2), I2, J2)
    show (((nI 0) : Int32) = 0 ∨ ((nI 0) : Int32) = 1) ∧ _
    refine ⟨(by decide), ?_⟩
    exact (h2.2 c0)
theorem lx_664 {d : Nat} {i : Int32} {fl : Nat → Bool} {n1 n2 : Nat} {p q : Bool} {ad : Nat → Nat} {I : mmI} {J : mmJ} {Q : mmQ} (h : (vp_in (i + (nI 1)) ((I 69 0)).toNatClampNeg ∧ ∃ x1 y1, x1 ≤ n1 ∧ y1 ≤ n2 ∧ mm_wc d 127 [.ref 0, .int (I 68 ((i + (nI 1))).toNatClampNeg)] ((fl, x1, y1, p, q, ad), I, J) (fun v τ => ∃ r1 fl1 z1 z2 p1 q1 ad1 I1 J1, v = some (.int r1) ∧ τ = ((fl1, z1, z2, p1, q1, ad1), I1, J1) ∧ (vp_in (i + (nI 1)) ((I1 69 0)).toNatClampNeg ∧ ∃ x2 y2, x2 ≤ (n1 - x1) ∧ y2 ≤ (n2 - y1) ∧ mm_wc d 231 [.ref 46, .int (I1 68 ((i + (nI 1))).toNatClampNeg)] ((fl1, x2, y2, p1, q1, ad1), I1, J1) (fun v τ => ∃ r2 fl2 z1 z2 p2 q2 ad2 I2 J2, v = some (.int r2) ∧ τ = ((fl2, z1, z2, p2, q2, ad2), I2, J2) ∧ ((r1 = r2 → mm_w Q (mm_wc d) bk_law 1331 [some (.ref 68), some (.ref 0), some (.ref 46), some (.ref 65), some (.int i), none, none] [] ((fl2, ((n1 - x1) - x2), ((n2 - y1) - y2), p2, q2, ad2), I2, J2)) ∧ (¬ r1 = r2 → Q (some (.int (nI 0))) ((fl2, ((n1 - x1) - x2), ((n2 - y1) - y2), p2, q2, ad2), I2, J2)))))))) : mm_w Q (mm_wc d) bk_law 664 [some (.ref 68), some (.ref 0), some (.ref 46), some (.ref 65), some (.int i), none, none] [] ((fl, n1, n2, p, q, ad), I, J) := by
  refine mm_go [23, 1331] 90 ?_
  show vp_in (i + (nI 1)) ((I 69 0)).toNatClampNeg ∧ _
  refine ⟨h.1, ?_⟩
  show mm_b _ _ _ _ _ [some (.ref 68), some (.ref 0), some (.ref 46), some (.ref 65), some (.int i), none, none] [.int (I 68 ((i + (nI 1))).toNatClampNeg), .ref 0] ((fl, n1, n2, p, q, ad), I, J)
  obtain ⟨x1, y1, u1, w1, h1⟩ := h.2
  show ∃ x y, x ≤ n1 ∧ y ≤ n2 ∧ mm_wc d 127 [.ref 0, .int (I 68 ((i + (nI 1))).toNatClampNeg)] ((fl, x, y, p, q, ad), I, J) _
  refine ⟨x1, y1, u1, w1, mm_wcm h1 ?_⟩
  rintro v τ ⟨r1, fl1, z1, z2, p1, q1, ad1, I1, J1, rfl, rfl, h1⟩
  refine mm_r1' ?_
  show mm_b _ _ _ _ _ [some (.ref 68), some (.ref 0), some (.ref 46), some (.ref 65), some (.int i), none, none] [.int r1] ((fl1, (n1 - x1), (n2 - y1), p1, q1, ad1), I1, J1)
  show vp_in (i + (nI 1)) ((I1 69 0)).toNatClampNeg ∧ _
  refine ⟨h1.1, ?_⟩
  show mm_b _ _ _ _ _ [some (.ref 68), some (.ref 0), some (.ref 46), some (.ref 65), some (.int i), none, none] [.int (I1 68 ((i + (nI 1))).toNatClampNeg), .ref 46, .int r1] ((fl1, (n1 - x1), (n2 - y1), p1, q1, ad1), I1, J1)
  obtain ⟨x2, y2, u2, w2, h2⟩ := h1.2
  show ∃ x y, x ≤ (n1 - x1) ∧ y ≤ (n2 - y1) ∧ mm_wc d 231 [.ref 46, .int (I1 68 ((i + (nI 1))).toNatClampNeg)] ((fl1, x, y, p1, q1, ad1), I1, J1) _
  refine ⟨x2, y2, u2, w2, mm_wcm h2 ?_⟩
  rintro v τ ⟨r2, fl2, z1, z2, p2, q2, ad2, I2, J2, rfl, rfl, h2⟩
  refine mm_r1' ?_
  show mm_b _ _ _ _ _ [some (.ref 68), some (.ref 0), some (.ref 46), some (.ref 65), some (.int i), none, none] [.int r2, .int r1] ((fl2, ((n1 - x1) - x2), ((n2 - y1) - y2), p2, q2, ad2), I2, J2)
  show (r1 = r2 → _) ∧ (¬ r1 = r2 → _)
  refine ⟨fun c0 => ?_, fun c0 => ?_⟩
  · exact (h2.1 c0)
  · show mm_b _ _ _ _ _ [some (.ref 68), some (.ref 0), some (.ref 46), some (.ref 65), some (.int i), none, none] [] ((fl2, ((n1 - x1) - x2), ((n2 - y1) - y2), p2, q2, ad2), I2, J2)
    show (((nI 0) : Int32) = 0 ∨ ((nI 0) : Int32) = 1) ∧ _
    refine ⟨(by decide), ?_⟩
    exact (h2.2 c0)
theorem lx_689 {d : Nat} {i : Int32} {fl : Nat → Bool} {n1 n2 : Nat} {p q : Bool} {ad : Nat → Nat} {I : mmI} {J : mmJ} {Q : mmQ} (h : ∃ x1 y1, x1 ≤ n1 ∧ y1 ≤ n2 ∧ mm_wc d 128 [.ref 0] ((fl, x1, y1, p, q, ad), I, J) (fun v τ => ∃ r1 fl1 z1 z2 p1 q1 ad1 I1 J1, v = some (.int r1) ∧ τ = ((fl1, z1, z2, p1, q1, ad1), I1, J1) ∧ ∃ x2 y2, x2 ≤ (n1 - x1) ∧ y2 ≤ (n2 - y1) ∧ mm_wc d 232 [.ref 46] ((fl1, x2, y2, p1, q1, ad1), I1, J1) (fun v τ => ∃ r2 fl2 z1 z2 p2 q2 ad2 I2 J2, v = some (.int r2) ∧ τ = ((fl2, z1, z2, p2, q2, ad2), I2, J2) ∧ ((r1 = r2 → mm_w Q (mm_wc d) bk_law 1331 [some (.ref 68), some (.ref 0), some (.ref 46), some (.ref 65), some (.int i), none, none] [] ((fl2, ((n1 - x1) - x2), ((n2 - y1) - y2), p2, q2, ad2), I2, J2)) ∧ (¬ r1 = r2 → Q (some (.int (nI 0))) ((fl2, ((n1 - x1) - x2), ((n2 - y1) - y2), p2, q2, ad2), I2, J2)))))) : mm_w Q (mm_wc d) bk_law 689 [some (.ref 68), some (.ref 0), some (.ref 46), some (.ref 65), some (.int i), none, none] [] ((fl, n1, n2, p, q, ad), I, J) := by
  refine mm_go [23, 1331] 90 ?_
  obtain ⟨x1, y1, u1, w1, h1⟩ := h
  show ∃ x y, x ≤ n1 ∧ y ≤ n2 ∧ mm_wc d 128 [.ref 0] ((fl, x, y, p, q, ad), I, J) _
  refine ⟨x1, y1, u1, w1, mm_wcm h1 ?_⟩
  rintro v τ ⟨r1, fl1, z1, z2, p1, q1, ad1, I1, J1, rfl, rfl, h1⟩
  refine mm_r1' ?_
  show mm_b _ _ _ _ _ [some (.ref 68), some (.ref 0), some (.ref 46), some (.ref 65), some (.int i), none, none] [.int r1] ((fl1, (n1 - x1), (n2 - y1), p1, q1, ad1), I1, J1)
  obtain ⟨x2, y2, u2, w2, h2⟩ := h1
  show ∃ x y, x ≤ (n1 - x1) ∧ y ≤ (n2 - y1) ∧ mm_wc d 232 [.ref 46] ((fl1, x, y, p1, q1, ad1), I1, J1) _
  refine ⟨x2, y2, u2, w2, mm_wcm h2 ?_⟩
  rintro v τ ⟨r2, fl2, z1, z2, p2, q2, ad2, I2, J2, rfl, rfl, h2⟩
  refine mm_r1' ?_
  show mm_b _ _ _ _ _ [some (.ref 68), some (.ref 0), some (.ref 46), some (.ref 65), some (.int i), none, none] [.int r2, .int r1] ((fl2, ((n1 - x1) - x2), ((n2 - y1) - y2), p2, q2, ad2), I2, J2)
  show (r1 = r2 → _) ∧ (¬ r1 = r2 → _)
  refine ⟨fun c0 => ?_, fun c0 => ?_⟩
  · exact (h2.1 c0)
  · show mm_b _ _ _ _ _ [some (.ref 68), some (.ref 0), some (.ref 46), some (.ref 65), some (.int i), none, none] [] ((fl2, ((n1 - x1) - x2), ((n2 - y1) - y2), p2, q2, ad2), I2, J2)
    show (((nI 0) : Int32) = 0 ∨ ((nI 0) : Int32) = 1) ∧ _
    refine ⟨(by decide), ?_⟩
    exact (h2.2 c0)
theorem lx_702 {d : Nat} {i : Int32} {fl : Nat → Bool} {n1 n2 : Nat} {p q : Bool} {ad : Nat → Nat} {I : mmI} {J : mmJ} {Q : mmQ} (h : ∃ x1 y1, x1 ≤ n1 ∧ y1 ≤ n2 ∧ mm_wc d 129 [.ref 0] ((fl, x1, y1, p, q, ad), I, J) (fun v τ => ∃ r1 fl1 z1 z2 p1 q1 ad1 I1 J1, v = some (.int r1) ∧ τ = ((fl1, z1, z2, p1, q1, ad1), I1, J1) ∧ ∃ x2 y2, x2 ≤ (n1 - x1) ∧ y2 ≤ (n2 - y1) ∧ mm_wc d 233 [.ref 46] ((fl1, x2, y2, p1, q1, ad1), I1, J1) (fun v τ => ∃ r2 fl2 z1 z2 p2 q2 ad2 I2 J2, v = some (.int r2) ∧ τ = ((fl2, z1, z2, p2, q2, ad2), I2, J2) ∧ ((r1 = r2 → mm_w Q (mm_wc d) bk_law 1331 [some (.ref 68), some (.ref 0), some (.ref 46), some (.ref 65), some (.int i), none, none] [] ((fl2, ((n1 - x1) - x2), ((n2 - y1) - y2), p2, q2, ad2), I2, J2)) ∧ (¬ r1 = r2 → Q (some (.int (nI 0))) ((fl2, ((n1 - x1) - x2), ((n2 - y1) - y2), p2, q2, ad2), I2, J2)))))) : mm_w Q (mm_wc d) bk_law 702 [some (.ref 68), some (.ref 0), some (.ref 46), some (.ref 65), some (.int i), none, none] [] ((fl, n1, n2, p, q, ad), I, J) := by
  refine mm_go [23, 1331] 90 ?_
  obtain ⟨x1, y1, u1, w1, h1⟩ := h
  show ∃ x y, x ≤ n1 ∧ y ≤ n2 ∧ mm_wc d 129 [.ref 0] ((fl, x, y, p, q, ad), I, J) _
  refine ⟨x1, y1, u1, w1, mm_wcm h1 ?_⟩
  rintro v τ ⟨r1, fl1, z1, z2, p1, q1, ad1, I1, J1, rfl, rfl, h1⟩
  refine mm_r1' ?_
  show mm_b _ _ _ _ _ [some (.ref 68), some (.ref 0), some (.ref 46), some (.ref 65), some (.int i), none, none] [.int r1] ((fl1, (n1 - x1), (n2 - y1), p1, q1, ad1), I1, J1)
  obtain ⟨x2, y2, u2, w2, h2⟩ := h1
  show ∃ x y, x ≤ (n1 - x1) ∧ y ≤ (n2 - y1) ∧ mm_wc d 233 [.ref 46] ((fl1, x, y, p1, q1, ad1), I1, J1) _
  refine ⟨x2, y2, u2, w2, mm_wcm h2 ?_⟩
  rintro v τ ⟨r2, fl2, z1, z2, p2, q2, ad2, I2, J2, rfl, rfl, h2⟩
  refine mm_r1' ?_
  show mm_b _ _ _ _ _ [some (.ref 68), some (.ref 0), some (.ref 46), some (.ref 65), some (.int i), none, none] [.int r2, .int r1] ((fl2, ((n1 - x1) - x2), ((n2 - y1) - y2), p2, q2, ad2), I2, J2)
  show (r1 = r2 → _) ∧ (¬ r1 = r2 → _)
  refine ⟨fun c0 => ?_, fun c0 => ?_⟩
  · exact (h2.1 c0)
  · show mm_b _ _ _ _ _ [some (.ref 68), some (.ref 0), some (.ref 46), some (.ref 65), some (.int i), none, none] [] ((fl2, ((n1 - x1) - x2), ((n2 - y1) - y2), p2, q2, ad2), I2, J2)
    show (((nI 0) : Int32) = 0 ∨ ((nI 0) : Int32) = 1) ∧ _
    refine ⟨(by decide), ?_⟩
    exact (h2.2 c0)
theorem lx_715 {d : Nat} {i : Int32} {fl : Nat → Bool} {n1 n2 : Nat} {p q : Bool} {ad : Nat → Nat} {I : mmI} {J : mmJ} {Q : mmQ} (h : ∃ x1 y1, x1 ≤ n1 ∧ y1 ≤ n2 ∧ mm_wc d 130 [.ref 0] ((fl, x1, y1, p, q, ad), I, J) (fun v τ => ∃ r1 fl1 z1 z2 p1 q1 ad1 I1 J1, v = some (.int r1) ∧ τ = ((fl1, z1, z2, p1, q1, ad1), I1, J1) ∧ ∃ x2 y2, x2 ≤ (n1 - x1) ∧ y2 ≤ (n2 - y1) ∧ mm_wc d 241 [.ref 46] ((fl1, x2, y2, p1, q1, ad1), I1, J1) (fun v τ => ∃ r2 fl2 z1 z2 p2 q2 ad2 I2 J2, v = some (.int r2) ∧ τ = ((fl2, z1, z2, p2, q2, ad2), I2, J2) ∧ ((r1 = r2 → mm_w Q (mm_wc d) bk_law 1331 [some (.ref 68), some (.ref 0), some (.ref 46), some (.ref 65), some (.int i), none, none] [] ((fl2, ((n1 - x1) - x2), ((n2 - y1) - y2), p2, q2, ad2), I2, J2)) ∧ (¬ r1 = r2 → Q (some (.int (nI 0))) ((fl2, ((n1 - x1) - x2), ((n2 - y1) - y2), p2, q2, ad2), I2, J2)))))) : mm_w Q (mm_wc d) bk_law 715 [some (.ref 68), some (.ref 0), some (.ref 46), some (.ref 65), some (.int i), none, none] [] ((fl, n1, n2, p, q, ad), I, J) := by
  refine mm_go [23, 1331] 90 ?_
  obtain ⟨x1, y1, u1, w1, h1⟩ := h
  show ∃ x y, x ≤ n1 ∧ y ≤ n2 ∧ mm_wc d 130 [.ref 0] ((fl, x, y, p, q, ad), I, J) _
  refine ⟨x1, y1, u1, w1, mm_wcm h1 ?_⟩
  rintro v τ ⟨r1, fl1, z1, z2, p1, q1, ad1, I1, J1, rfl, rfl, h1⟩
  refine mm_r1' ?_
  show mm_b _ _ _ _ _ [some (.ref 68), some (.ref 0), some (.ref 46), some (.ref 65), some (.int i), none, none] [.int r1] ((fl1, (n1 - x1), (n2 - y1), p1, q1, ad1), I1, J1)
  obtain ⟨x2, y2, u2, w2, h2⟩ := h1
  show ∃ x y, x ≤ (n1 - x1) ∧ y ≤ (n2 - y1) ∧ mm_wc d 241 [.ref 46] ((fl1, x, y, p1, q1, ad1), I1, J1) _
  refine ⟨x2, y2, u2, w2, mm_wcm h2 ?_⟩
  rintro v τ ⟨r2, fl2, z1, z2, p2, q2, ad2, I2, J2, rfl, rfl, h2⟩
  refine mm_r1' ?_
  show mm_b _ _ _ _ _ [some (.ref 68), some (.ref 0), some (.ref 46), some (.ref 65), some (.int i), none, none] [.int r2, .int r1] ((fl2, ((n1 - x1) - x2), ((n2 - y1) - y2), p2, q2, ad2), I2, J2)
  show (r1 = r2 → _) ∧ (¬ r1 = r2 → _)
  refine ⟨fun c0 => ?_, fun c0 => ?_⟩
  · exact (h2.1 c0)
  · show mm_b _ _ _ _ _ [some (.ref 68), some (.ref 0), some (.ref 46), some (.ref 65), some (.int i), none, none] [] ((fl2, ((n1 - x1) - x2), ((n2 - y1) - y2), p2, q2, ad2), I2, J2)
    show (((nI 0) : Int32) = 0 ∨ ((nI 0) : Int32) = 1) ∧ _
    refine ⟨(by decide), ?_⟩
    exact (h2.2 c0)
theorem lx_728 {d : Nat} {i : Int32} {fl : Nat → Bool} {n1 n2 : Nat} {p q : Bool} {ad : Nat → Nat} {I : mmI} {J : mmJ} {Q : mmQ} (h : (vp_in (i + (nI 1)) ((I 69 0)).toNatClampNeg ∧ ∃ x1 y1, x1 ≤ n1 ∧ y1 ≤ n2 ∧ mm_wc d 131 [.ref 0, .int (I 68 ((i + (nI 1))).toNatClampNeg)] ((fl, x1, y1, p, q, ad), I, J) (fun v τ => ∃ r1 fl1 z1 z2 p1 q1 ad1 I1 J1, v = some (.int r1) ∧ τ = ((fl1, z1, z2, p1, q1, ad1), I1, J1) ∧ (vp_in (i + (nI 1)) ((I1 69 0)).toNatClampNeg ∧ ∃ x2 y2, x2 ≤ (n1 - x1) ∧ y2 ≤ (n2 - y1) ∧ mm_wc d 242 [.ref 46, .int (I1 68 ((i + (nI 1))).toNatClampNeg)] ((fl1, x2, y2, p1, q1, ad1), I1, J1) (fun v τ => ∃ r2 fl2 z1 z2 p2 q2 ad2 I2 J2, v = some (.int r2) ∧ τ = ((fl2, z1, z2, p2, q2, ad2), I2, J2) ∧ ((r1 = r2 → mm_w Q (mm_wc d) bk_law 1331 [some (.ref 68), some (.ref 0), some (.ref 46), some (.ref 65), some (.int i), none, none] [] ((fl2, ((n1 - x1) - x2), ((n2 - y1) - y2), p2, q2, ad2), I2, J2)) ∧ (¬ r1 = r2 → Q (some (.int (nI 0))) ((fl2, ((n1 - x1) - x2), ((n2 - y1) - y2), p2, q2, ad2), I2, J2)))))))) : mm_w Q (mm_wc d) bk_law 728 [some (.ref 68), some (.ref 0), some (.ref 46), some (.ref 65), some (.int i), none, none] [] ((fl, n1, n2, p, q, ad), I, J) := by
  refine mm_go [23, 1331] 90 ?_
  show vp_in (i + (nI 1)) ((I 69 0)).toNatClampNeg ∧ _
  refine ⟨h.1, ?_⟩
  show mm_b _ _ _ _ _ [some (.ref 68), some (.ref 0), some (.ref 46), some (.ref 65), some (.int i), none, none] [.int (I 68 ((i + (nI 1))).toNatClampNeg), .ref 0] ((fl, n1, n2, p, q, ad), I, J)
  obtain ⟨x1, y1, u1, w1, h1⟩ := h.2
  show ∃ x y, x ≤ n1 ∧ y ≤ n2 ∧ mm_wc d 131 [.ref 0, .int (I 68 ((i + (nI 1))).toNatClampNeg)] ((fl, x, y, p, q, ad), I, J) _
  refine ⟨x1, y1, u1, w1, mm_wcm h1 ?_⟩
  rintro v τ ⟨r1, fl1, z1, z2, p1, q1, ad1, I1, J1, rfl, rfl, h1⟩
  refine mm_r1' ?_
  show mm_b _ _ _ _ _ [some (.ref 68), some (.ref 0), some (.ref 46), some (.ref 65), some (.int i), none, none] [.int r1] ((fl1, (n1 - x1), (n2 - y1), p1, q1, ad1), I1, J1)
  show vp_in (i + (nI 1)) ((I1 69 0)).toNatClampNeg ∧ _
  refine ⟨h1.1, ?_⟩
  show mm_b _ _ _ _ _ [some (.ref 68), some (.ref 0), some (.ref 46), some (.ref 65), some (.int i), none, none] [.int (I1 68 ((i + (nI 1))).toNatClampNeg), .ref 46, .int r1] ((fl1, (n1 - x1), (n2 - y1), p1, q1, ad1), I1, J1)
  obtain ⟨x2, y2, u2, w2, h2⟩ := h1.2
  show ∃ x y, x ≤ (n1 - x1) ∧ y ≤ (n2 - y1) ∧ mm_wc d 242 [.ref 46, .int (I1 68 ((i + (nI 1))).toNatClampNeg)] ((fl1, x, y, p1, q1, ad1), I1, J1) _
  refine ⟨x2, y2, u2, w2, mm_wcm h2 ?_⟩
  rintro v τ ⟨r2, fl2, z1, z2, p2, q2, ad2, I2, J2, rfl, rfl, h2⟩
  refine mm_r1' ?_
  show mm_b _ _ _ _ _ [some (.ref 68), some (.ref 0), some (.ref 46), some (.ref 65), some (.int i), none, none] [.int r2, .int r1] ((fl2, ((n1 - x1) - x2), ((n2 - y1) - y2), p2, q2, ad2), I2, J2)
  show (r1 = r2 → _) ∧ (¬ r1 = r2 → _)
  refine ⟨fun c0 => ?_, fun c0 => ?_⟩
  · exact (h2.1 c0)
  · show mm_b _ _ _ _ _ [some (.ref 68), some (.ref 0), some (.ref 46), some (.ref 65), some (.int i), none, none] [] ((fl2, ((n1 - x1) - x2), ((n2 - y1) - y2), p2, q2, ad2), I2, J2)
    show (((nI 0) : Int32) = 0 ∨ ((nI 0) : Int32) = 1) ∧ _
    refine ⟨(by decide), ?_⟩
    exact (h2.2 c0)
theorem lx_753 {d : Nat} {i : Int32} {fl : Nat → Bool} {n1 n2 : Nat} {p q : Bool} {ad : Nat → Nat} {I : mmI} {J : mmJ} {Q : mmQ} (h : (vp_in (i + (nI 1)) ((I 69 0)).toNatClampNeg ∧ ∃ x1 y1, x1 ≤ n1 ∧ y1 ≤ n2 ∧ mm_wc d 132 [.ref 0, .int (I 68 ((i + (nI 1))).toNatClampNeg)] ((fl, x1, y1, p, q, ad), I, J) (fun v τ => ∃ r1 fl1 z1 z2 p1 q1 ad1 I1 J1, v = some (.int r1) ∧ τ = ((fl1, z1, z2, p1, q1, ad1), I1, J1) ∧ (vp_in (i + (nI 1)) ((I1 69 0)).toNatClampNeg ∧ ∃ x2 y2, x2 ≤ (n1 - x1) ∧ y2 ≤ (n2 - y1) ∧ mm_wc d 244 [.ref 46, .int (I1 68 ((i + (nI 1))).toNatClampNeg)] ((fl1, x2, y2, p1, q1, ad1), I1, J1) (fun v τ => ∃ r2 fl2 z1 z2 p2 q2 ad2 I2 J2, v = some (.int r2) ∧ τ = ((fl2, z1, z2, p2, q2, ad2), I2, J2) ∧ ((r1 = r2 → mm_w Q (mm_wc d) bk_law 1331 [some (.ref 68), some (.ref 0), some (.ref 46), some (.ref 65), some (.int i), none, none] [] ((fl2, ((n1 - x1) - x2), ((n2 - y1) - y2), p2, q2, ad2), I2, J2)) ∧ (¬ r1 = r2 → Q (some (.int (nI 0))) ((fl2, ((n1 - x1) - x2), ((n2 - y1) - y2), p2, q2, ad2), I2, J2)))))))) : mm_w Q (mm_wc d) bk_law 753 [some (.ref 68), some (.ref 0), some (.ref 46), some (.ref 65), some (.int i), none, none] [] ((fl, n1, n2, p, q, ad), I, J) := by
  refine mm_go [23, 1331] 90 ?_
  show vp_in (i + (nI 1)) ((I 69 0)).toNatClampNeg ∧ _
  refine ⟨h.1, ?_⟩
  show mm_b _ _ _ _ _ [some (.ref 68), some (.ref 0), some (.ref 46), some (.ref 65), some (.int i), none, none] [.int (I 68 ((i + (nI 1))).toNatClampNeg), .ref 0] ((fl, n1, n2, p, q, ad), I, J)
  obtain ⟨x1, y1, u1, w1, h1⟩ := h.2
  show ∃ x y, x ≤ n1 ∧ y ≤ n2 ∧ mm_wc d 132 [.ref 0, .int (I 68 ((i + (nI 1))).toNatClampNeg)] ((fl, x, y, p, q, ad), I, J) _
  refine ⟨x1, y1, u1, w1, mm_wcm h1 ?_⟩
  rintro v τ ⟨r1, fl1, z1, z2, p1, q1, ad1, I1, J1, rfl, rfl, h1⟩
  refine mm_r1' ?_
  show mm_b _ _ _ _ _ [some (.ref 68), some (.ref 0), some (.ref 46), some (.ref 65), some (.int i), none, none] [.int r1] ((fl1, (n1 - x1), (n2 - y1), p1, q1, ad1), I1, J1)
  show vp_in (i + (nI 1)) ((I1 69 0)).toNatClampNeg ∧ _
  refine ⟨h1.1, ?_⟩
  show mm_b _ _ _ _ _ [some (.ref 68), some (.ref 0), some (.ref 46), some (.ref 65), some (.int i), none, none] [.int (I1 68 ((i + (nI 1))).toNatClampNeg), .ref 46, .int r1] ((fl1, (n1 - x1), (n2 - y1), p1, q1, ad1), I1, J1)
  obtain ⟨x2, y2, u2, w2, h2⟩ := h1.2
  show ∃ x y, x ≤ (n1 - x1) ∧ y ≤ (n2 - y1) ∧ mm_wc d 244 [.ref 46, .int (I1 68 ((i + (nI 1))).toNatClampNeg)] ((fl1, x, y, p1, q1, ad1), I1, J1) _
  refine ⟨x2, y2, u2, w2, mm_wcm h2 ?_⟩
  rintro v τ ⟨r2, fl2, z1, z2, p2, q2, ad2, I2, J2, rfl, rfl, h2⟩
  refine mm_r1' ?_
  show mm_b _ _ _ _ _ [some (.ref 68), some (.ref 0), some (.ref 46), some (.ref 65), some (.int i), none, none] [.int r2, .int r1] ((fl2, ((n1 - x1) - x2), ((n2 - y1) - y2), p2, q2, ad2), I2, J2)
  show (r1 = r2 → _) ∧ (¬ r1 = r2 → _)
  refine ⟨fun c0 => ?_, fun c0 => ?_⟩
  · exact (h2.1 c0)
  · show mm_b _ _ _ _ _ [some (.ref 68), some (.ref 0), some (.ref 46), some (.ref 65), some (.int i), none, none] [] ((fl2, ((n1 - x1) - x2), ((n2 - y1) - y2), p2, q2, ad2), I2, J2)
    show (((nI 0) : Int32) = 0 ∨ ((nI 0) : Int32) = 1) ∧ _
    refine ⟨(by decide), ?_⟩
    exact (h2.2 c0)
theorem lx_778 {d : Nat} {i : Int32} {fl : Nat → Bool} {n1 n2 : Nat} {p q : Bool} {ad : Nat → Nat} {I : mmI} {J : mmJ} {Q : mmQ} (h : (vp_in (i + (nI 1)) ((I 69 0)).toNatClampNeg ∧ ∃ x1 y1, x1 ≤ n1 ∧ y1 ≤ n2 ∧ mm_wc d 133 [.ref 0, .int (I 68 ((i + (nI 1))).toNatClampNeg)] ((fl, x1, y1, p, q, ad), I, J) (fun v τ => ∃ r1 fl1 z1 z2 p1 q1 ad1 I1 J1, v = some (.int r1) ∧ τ = ((fl1, z1, z2, p1, q1, ad1), I1, J1) ∧ (vp_in (i + (nI 1)) ((I1 69 0)).toNatClampNeg ∧ ∃ x2 y2, x2 ≤ (n1 - x1) ∧ y2 ≤ (n2 - y1) ∧ mm_wc d 245 [.ref 46, .int (I1 68 ((i + (nI 1))).toNatClampNeg)] ((fl1, x2, y2, p1, q1, ad1), I1, J1) (fun v τ => ∃ r2 fl2 z1 z2 p2 q2 ad2 I2 J2, v = some (.int r2) ∧ τ = ((fl2, z1, z2, p2, q2, ad2), I2, J2) ∧ ((r1 = r2 → mm_w Q (mm_wc d) bk_law 1331 [some (.ref 68), some (.ref 0), some (.ref 46), some (.ref 65), some (.int i), none, none] [] ((fl2, ((n1 - x1) - x2), ((n2 - y1) - y2), p2, q2, ad2), I2, J2)) ∧ (¬ r1 = r2 → Q (some (.int (nI 0))) ((fl2, ((n1 - x1) - x2), ((n2 - y1) - y2), p2, q2, ad2), I2, J2)))))))) : mm_w Q (mm_wc d) bk_law 778 [some (.ref 68), some (.ref 0), some (.ref 46), some (.ref 65), some (.int i), none, none] [] ((fl, n1, n2, p, q, ad), I, J) := by
  refine mm_go [23, 1331] 90 ?_
  show vp_in (i + (nI 1)) ((I 69 0)).toNatClampNeg ∧ _
  refine ⟨h.1, ?_⟩
  show mm_b _ _ _ _ _ [some (.ref 68), some (.ref 0), some (.ref 46), some (.ref 65), some (.int i), none, none] [.int (I 68 ((i + (nI 1))).toNatClampNeg), .ref 0] ((fl, n1, n2, p, q, ad), I, J)
  obtain ⟨x1, y1, u1, w1, h1⟩ := h.2
  show ∃ x y, x ≤ n1 ∧ y ≤ n2 ∧ mm_wc d 133 [.ref 0, .int (I 68 ((i + (nI 1))).toNatClampNeg)] ((fl, x, y, p, q, ad), I, J) _
  refine ⟨x1, y1, u1, w1, mm_wcm h1 ?_⟩
  rintro v τ ⟨r1, fl1, z1, z2, p1, q1, ad1, I1, J1, rfl, rfl, h1⟩
  refine mm_r1' ?_
  show mm_b _ _ _ _ _ [some (.ref 68), some (.ref 0), some (.ref 46), some (.ref 65), some (.int i), none, none] [.int r1] ((fl1, (n1 - x1), (n2 - y1), p1, q1, ad1), I1, J1)
  show vp_in (i + (nI 1)) ((I1 69 0)).toNatClampNeg ∧ _
  refine ⟨h1.1, ?_⟩
  show mm_b _ _ _ _ _ [some (.ref 68), some (.ref 0), some (.ref 46), some (.ref 65), some (.int i), none, none] [.int (I1 68 ((i + (nI 1))).toNatClampNeg), .ref 46, .int r1] ((fl1, (n1 - x1), (n2 - y1), p1, q1, ad1), I1, J1)
  obtain ⟨x2, y2, u2, w2, h2⟩ := h1.2
  show ∃ x y, x ≤ (n1 - x1) ∧ y ≤ (n2 - y1) ∧ mm_wc d 245 [.ref 46, .int (I1 68 ((i + (nI 1))).toNatClampNeg)] ((fl1, x, y, p1, q1, ad1), I1, J1) _
  refine ⟨x2, y2, u2, w2, mm_wcm h2 ?_⟩
  rintro v τ ⟨r2, fl2, z1, z2, p2, q2, ad2, I2, J2, rfl, rfl, h2⟩
  refine mm_r1' ?_
  show mm_b _ _ _ _ _ [some (.ref 68), some (.ref 0), some (.ref 46), some (.ref 65), some (.int i), none, none] [.int r2, .int r1] ((fl2, ((n1 - x1) - x2), ((n2 - y1) - y2), p2, q2, ad2), I2, J2)
  show (r1 = r2 → _) ∧ (¬ r1 = r2 → _)
  refine ⟨fun c0 => ?_, fun c0 => ?_⟩
  · exact (h2.1 c0)
  · show mm_b _ _ _ _ _ [some (.ref 68), some (.ref 0), some (.ref 46), some (.ref 65), some (.int i), none, none] [] ((fl2, ((n1 - x1) - x2), ((n2 - y1) - y2), p2, q2, ad2), I2, J2)
    show (((nI 0) : Int32) = 0 ∨ ((nI 0) : Int32) = 1) ∧ _
    refine ⟨(by decide), ?_⟩
    exact (h2.2 c0)
theorem lx_803 {d : Nat} {i : Int32} {fl : Nat → Bool} {n1 n2 : Nat} {p q : Bool} {ad : Nat → Nat} {I : mmI} {J : mmJ} {Q : mmQ} (h : ∃ x1 y1, x1 ≤ n1 ∧ y1 ≤ n2 ∧ mm_wc d 134 [.ref 0] ((fl, x1, y1, p, q, ad), I, J) (fun v τ => ∃ r1 fl1 z1 z2 p1 q1 ad1 I1 J1, v = some (.int r1) ∧ τ = ((fl1, z1, z2, p1, q1, ad1), I1, J1) ∧ ∃ x2 y2, x2 ≤ (n1 - x1) ∧ y2 ≤ (n2 - y1) ∧ mm_wc d 248 [.ref 46] ((fl1, x2, y2, p1, q1, ad1), I1, J1) (fun v τ => ∃ r2 fl2 z1 z2 p2 q2 ad2 I2 J2, v = some (.int r2) ∧ τ = ((fl2, z1, z2, p2, q2, ad2), I2, J2) ∧ ((r1 = r2 → mm_w Q (mm_wc d) bk_law 1331 [some (.ref 68), some (.ref 0), some (.ref 46), some (.ref 65), some (.int i), none, none] [] ((fl2, ((n1 - x1) - x2), ((n2 - y1) - y2), p2, q2, ad2), I2, J2)) ∧ (¬ r1 = r2 → Q (some (.int (nI 0))) ((fl2, ((n1 - x1) - x2), ((n2 - y1) - y2), p2, q2, ad2), I2, J2)))))) : mm_w Q (mm_wc d) bk_law 803 [some (.ref 68), some (.ref 0), some (.ref 46), some (.ref 65), some (.int i), none, none] [] ((fl, n1, n2, p, q, ad), I, J) := by
  refine mm_go [23, 1331] 90 ?_
  obtain ⟨x1, y1, u1, w1, h1⟩ := h
  show ∃ x y, x ≤ n1 ∧ y ≤ n2 ∧ mm_wc d 134 [.ref 0] ((fl, x, y, p, q, ad), I, J) _
  refine ⟨x1, y1, u1, w1, mm_wcm h1 ?_⟩
  rintro v τ ⟨r1, fl1, z1, z2, p1, q1, ad1, I1, J1, rfl, rfl, h1⟩
  refine mm_r1' ?_
  show mm_b _ _ _ _ _ [some (.ref 68), some (.ref 0), some (.ref 46), some (.ref 65), some (.int i), none, none] [.int r1] ((fl1, (n1 - x1), (n2 - y1), p1, q1, ad1), I1, J1)
  obtain ⟨x2, y2, u2, w2, h2⟩ := h1
  show ∃ x y, x ≤ (n1 - x1) ∧ y ≤ (n2 - y1) ∧ mm_wc d 248 [.ref 46] ((fl1, x, y, p1, q1, ad1), I1, J1) _
  refine ⟨x2, y2, u2, w2, mm_wcm h2 ?_⟩
  rintro v τ ⟨r2, fl2, z1, z2, p2, q2, ad2, I2, J2, rfl, rfl, h2⟩
  refine mm_r1' ?_
  show mm_b _ _ _ _ _ [some (.ref 68), some (.ref 0), some (.ref 46), some (.ref 65), some (.int i), none, none] [.int r2, .int r1] ((fl2, ((n1 - x1) - x2), ((n2 - y1) - y2), p2, q2, ad2), I2, J2)
  show (r1 = r2 → _) ∧ (¬ r1 = r2 → _)
  refine ⟨fun c0 => ?_, fun c0 => ?_⟩
  · exact (h2.1 c0)
  · show mm_b _ _ _ _ _ [some (.ref 68), some (.ref 0), some (.ref 46), some (.ref 65), some (.int i), none, none] [] ((fl2, ((n1 - x1) - x2), ((n2 - y1) - y2), p2, q2, ad2), I2, J2)
    show (((nI 0) : Int32) = 0 ∨ ((nI 0) : Int32) = 1) ∧ _
    refine ⟨(by decide), ?_⟩
    exact (h2.2 c0)
theorem lx_816 {d : Nat} {i : Int32} {fl : Nat → Bool} {n1 n2 : Nat} {p q : Bool} {ad : Nat → Nat} {I : mmI} {J : mmJ} {Q : mmQ} (h : (vp_in (i + (nI 1)) ((I 69 0)).toNatClampNeg ∧ (vp_in (i + (nI 2)) ((I 69 0)).toNatClampNeg ∧ ∃ x1 y1, x1 ≤ n1 ∧ y1 ≤ n2 ∧ mm_wc d 135 [.ref 0, .int (I 68 ((i + (nI 1))).toNatClampNeg), .int (I 68 ((i + (nI 2))).toNatClampNeg)] ((fl, x1, y1, p, q, ad), I, J) (fun v τ => ∃ r1 fl1 z1 z2 p1 q1 ad1 I1 J1, v = some (.int r1) ∧ τ = ((fl1, z1, z2, p1, q1, ad1), I1, J1) ∧ (vp_in (i + (nI 1)) ((I1 69 0)).toNatClampNeg ∧ (vp_in (i + (nI 2)) ((I1 69 0)).toNatClampNeg ∧ ∃ x2 y2, x2 ≤ (n1 - x1) ∧ y2 ≤ (n2 - y1) ∧ mm_wc d 250 [.ref 46, .int (I1 68 ((i + (nI 1))).toNatClampNeg), .int (I1 68 ((i + (nI 2))).toNatClampNeg)] ((fl1, x2, y2, p1, q1, ad1), I1, J1) (fun v τ => ∃ r2 fl2 z1 z2 p2 q2 ad2 I2 J2, v = some (.int r2) ∧ τ = ((fl2, z1, z2, p2, q2, ad2), I2, J2) ∧ ((r1 = r2 → mm_w Q (mm_wc d) bk_law 1331 [some (.ref 68), some (.ref 0), some (.ref 46), some (.ref 65), some (.int i), none, none] [] ((fl2, ((n1 - x1) - x2), ((n2 - y1) - y2), p2, q2, ad2), I2, J2)) ∧ (¬ r1 = r2 → Q (some (.int (nI 0))) ((fl2, ((n1 - x1) - x2), ((n2 - y1) - y2), p2, q2, ad2), I2, J2)))))))))) : mm_w Q (mm_wc d) bk_law 816 [some (.ref 68), some (.ref 0), some (.ref 46), some (.ref 65), some (.int i), none, none] [] ((fl, n1, n2, p, q, ad), I, J) := by
  refine mm_go [23, 1331] 90 ?_
  show vp_in (i + (nI 1)) ((I 69 0)).toNatClampNeg ∧ _
  refine ⟨h.1, ?_⟩
  show mm_b _ _ _ _ _ [some (.ref 68), some (.ref 0), some (.ref 46), some (.ref 65), some (.int i), none, none] [.int (I 68 ((i + (nI 1))).toNatClampNeg), .ref 0] ((fl, n1, n2, p, q, ad), I, J)
  show vp_in (i + (nI 2)) ((I 69 0)).toNatClampNeg ∧ _
  refine ⟨h.2.1, ?_⟩
  show mm_b _ _ _ _ _ [some (.ref 68), some (.ref 0), some (.ref 46), some (.ref 65), some (.int i), none, none] [.int (I 68 ((i + (nI 2))).toNatClampNeg), .int (I 68 ((i + (nI 1))).toNatClampNeg), .ref 0] ((fl, n1, n2, p, q, ad), I, J)
  obtain ⟨x1, y1, u1, w1, h1⟩ := h.2.2
  show ∃ x y, x ≤ n1 ∧ y ≤ n2 ∧ mm_wc d 135 [.ref 0, .int (I 68 ((i + (nI 1))).toNatClampNeg), .int (I 68 ((i + (nI 2))).toNatClampNeg)] ((fl, x, y, p, q, ad), I, J) _
  refine ⟨x1, y1, u1, w1, mm_wcm h1 ?_⟩
  rintro v τ ⟨r1, fl1, z1, z2, p1, q1, ad1, I1, J1, rfl, rfl, h1⟩
  refine mm_r1' ?_
  show mm_b _ _ _ _ _ [some (.ref 68), some (.ref 0), some (.ref 46), some (.ref 65), some (.int i), none, none] [.int r1] ((fl1, (n1 - x1), (n2 - y1), p1, q1, ad1), I1, J1)
  show vp_in (i + (nI 1)) ((I1 69 0)).toNatClampNeg ∧ _
  refine ⟨h1.1, ?_⟩
  show mm_b _ _ _ _ _ [some (.ref 68), some (.ref 0), some (.ref 46), some (.ref 65), some (.int i), none, none] [.int (I1 68 ((i + (nI 1))).toNatClampNeg), .ref 46, .int r1] ((fl1, (n1 - x1), (n2 - y1), p1, q1, ad1), I1, J1)
  show vp_in (i + (nI 2)) ((I1 69 0)).toNatClampNeg ∧ _
  refine ⟨h1.2.1, ?_⟩
  show mm_b _ _ _ _ _ [some (.ref 68), some (.ref 0), some (.ref 46), some (.ref 65), some (.int i), none, none] [.int (I1 68 ((i + (nI 2))).toNatClampNeg), .int (I1 68 ((i + (nI 1))).toNatClampNeg), .ref 46, .int r1] ((fl1, (n1 - x1), (n2 - y1), p1, q1, ad1), I1, J1)
  obtain ⟨x2, y2, u2, w2, h2⟩ := h1.2.2
  show ∃ x y, x ≤ (n1 - x1) ∧ y ≤ (n2 - y1) ∧ mm_wc d 250 [.ref 46, .int (I1 68 ((i + (nI 1))).toNatClampNeg), .int (I1 68 ((i + (nI 2))).toNatClampNeg)] ((fl1, x, y, p1, q1, ad1), I1, J1) _
  refine ⟨x2, y2, u2, w2, mm_wcm h2 ?_⟩
  rintro v τ ⟨r2, fl2, z1, z2, p2, q2, ad2, I2, J2, rfl, rfl, h2⟩
  refine mm_r1' ?_
  show mm_b _ _ _ _ _ [some (.ref 68), some (.ref 0), some (.ref 46), some (.ref 65), some (.int i), none, none] [.int r2, .int r1] ((fl2, ((n1 - x1) - x2), ((n2 - y1) - y2), p2, q2, ad2), I2, J2)
  show (r1 = r2 → _) ∧ (¬ r1 = r2 → _)
  refine ⟨fun c0 => ?_, fun c0 => ?_⟩
  · exact (h2.1 c0)
  · show mm_b _ _ _ _ _ [some (.ref 68), some (.ref 0), some (.ref 46), some (.ref 65), some (.int i), none, none] [] ((fl2, ((n1 - x1) - x2), ((n2 - y1) - y2), p2, q2, ad2), I2, J2)
    show (((nI 0) : Int32) = 0 ∨ ((nI 0) : Int32) = 1) ∧ _
    refine ⟨(by decide), ?_⟩
    exact (h2.2 c0)
theorem lx_853 {d : Nat} {i : Int32} {fl : Nat → Bool} {n1 n2 : Nat} {p q : Bool} {ad : Nat → Nat} {I : mmI} {J : mmJ} {Q : mmQ} (h : ∃ x1 y1, x1 ≤ n1 ∧ y1 ≤ n2 ∧ mm_wc d 136 [.ref 0] ((fl, x1, y1, p, q, ad), I, J) (fun v τ => ∃ r1 fl1 z1 z2 p1 q1 ad1 I1 J1, v = some (.int r1) ∧ τ = ((fl1, z1, z2, p1, q1, ad1), I1, J1) ∧ ∃ x2 y2, x2 ≤ (n1 - x1) ∧ y2 ≤ (n2 - y1) ∧ mm_wc d 252 [.ref 46] ((fl1, x2, y2, p1, q1, ad1), I1, J1) (fun v τ => ∃ r2 fl2 z1 z2 p2 q2 ad2 I2 J2, v = some (.int r2) ∧ τ = ((fl2, z1, z2, p2, q2, ad2), I2, J2) ∧ ((r1 = r2 → mm_w Q (mm_wc d) bk_law 1331 [some (.ref 68), some (.ref 0), some (.ref 46), some (.ref 65), some (.int i), none, none] [] ((fl2, ((n1 - x1) - x2), ((n2 - y1) - y2), p2, q2, ad2), I2, J2)) ∧ (¬ r1 = r2 → Q (some (.int (nI 0))) ((fl2, ((n1 - x1) - x2), ((n2 - y1) - y2), p2, q2, ad2), I2, J2)))))) : mm_w Q (mm_wc d) bk_law 853 [some (.ref 68), some (.ref 0), some (.ref 46), some (.ref 65), some (.int i), none, none] [] ((fl, n1, n2, p, q, ad), I, J) := by
  refine mm_go [23, 1331] 90 ?_
  obtain ⟨x1, y1, u1, w1, h1⟩ := h
  show ∃ x y, x ≤ n1 ∧ y ≤ n2 ∧ mm_wc d 136 [.ref 0] ((fl, x, y, p, q, ad), I, J) _
  refine ⟨x1, y1, u1, w1, mm_wcm h1 ?_⟩
  rintro v τ ⟨r1, fl1, z1, z2, p1, q1, ad1, I1, J1, rfl, rfl, h1⟩
  refine mm_r1' ?_
  show mm_b _ _ _ _ _ [some (.ref 68), some (.ref 0), some (.ref 46), some (.ref 65), some (.int i), none, none] [.int r1] ((fl1, (n1 - x1), (n2 - y1), p1, q1, ad1), I1, J1)
  obtain ⟨x2, y2, u2, w2, h2⟩ := h1
  show ∃ x y, x ≤ (n1 - x1) ∧ y ≤ (n2 - y1) ∧ mm_wc d 252 [.ref 46] ((fl1, x, y, p1, q1, ad1), I1, J1) _
  refine ⟨x2, y2, u2, w2, mm_wcm h2 ?_⟩
  rintro v τ ⟨r2, fl2, z1, z2, p2, q2, ad2, I2, J2, rfl, rfl, h2⟩
  refine mm_r1' ?_
  show mm_b _ _ _ _ _ [some (.ref 68), some (.ref 0), some (.ref 46), some (.ref 65), some (.int i), none, none] [.int r2, .int r1] ((fl2, ((n1 - x1) - x2), ((n2 - y1) - y2), p2, q2, ad2), I2, J2)
  show (r1 = r2 → _) ∧ (¬ r1 = r2 → _)
  refine ⟨fun c0 => ?_, fun c0 => ?_⟩
  · exact (h2.1 c0)
  · show mm_b _ _ _ _ _ [some (.ref 68), some (.ref 0), some (.ref 46), some (.ref 65), some (.int i), none, none] [] ((fl2, ((n1 - x1) - x2), ((n2 - y1) - y2), p2, q2, ad2), I2, J2)
    show (((nI 0) : Int32) = 0 ∨ ((nI 0) : Int32) = 1) ∧ _
    refine ⟨(by decide), ?_⟩
    exact (h2.2 c0)
theorem lx_866 {d : Nat} {i : Int32} {fl : Nat → Bool} {n1 n2 : Nat} {p q : Bool} {ad : Nat → Nat} {I : mmI} {J : mmJ} {Q : mmQ} (h : ∃ x1 y1, x1 ≤ n1 ∧ y1 ≤ n2 ∧ mm_wc d 137 [.ref 0] ((fl, x1, y1, p, q, ad), I, J) (fun v τ => ∃ r1 fl1 z1 z2 p1 q1 ad1 I1 J1, v = some (.int r1) ∧ τ = ((fl1, z1, z2, p1, q1, ad1), I1, J1) ∧ ∃ x2 y2, x2 ≤ (n1 - x1) ∧ y2 ≤ (n2 - y1) ∧ mm_wc d 253 [.ref 46] ((fl1, x2, y2, p1, q1, ad1), I1, J1) (fun v τ => ∃ r2 fl2 z1 z2 p2 q2 ad2 I2 J2, v = some (.int r2) ∧ τ = ((fl2, z1, z2, p2, q2, ad2), I2, J2) ∧ ((r1 = r2 → mm_w Q (mm_wc d) bk_law 1331 [some (.ref 68), some (.ref 0), some (.ref 46), some (.ref 65), some (.int i), none, none] [] ((fl2, ((n1 - x1) - x2), ((n2 - y1) - y2), p2, q2, ad2), I2, J2)) ∧ (¬ r1 = r2 → Q (some (.int (nI 0))) ((fl2, ((n1 - x1) - x2), ((n2 - y1) - y2), p2, q2, ad2), I2, J2)))))) : mm_w Q (mm_wc d) bk_law 866 [some (.ref 68), some (.ref 0), some (.ref 46), some (.ref 65), some (.int i), none, none] [] ((fl, n1, n2, p, q, ad), I, J) := by
  refine mm_go [23, 1331] 90 ?_
  obtain ⟨x1, y1, u1, w1, h1⟩ := h
  show ∃ x y, x ≤ n1 ∧ y ≤ n2 ∧ mm_wc d 137 [.ref 0] ((fl, x, y, p, q, ad), I, J) _
  refine ⟨x1, y1, u1, w1, mm_wcm h1 ?_⟩
  rintro v τ ⟨r1, fl1, z1, z2, p1, q1, ad1, I1, J1, rfl, rfl, h1⟩
  refine mm_r1' ?_
  show mm_b _ _ _ _ _ [some (.ref 68), some (.ref 0), some (.ref 46), some (.ref 65), some (.int i), none, none] [.int r1] ((fl1, (n1 - x1), (n2 - y1), p1, q1, ad1), I1, J1)
  obtain ⟨x2, y2, u2, w2, h2⟩ := h1
  show ∃ x y, x ≤ (n1 - x1) ∧ y ≤ (n2 - y1) ∧ mm_wc d 253 [.ref 46] ((fl1, x, y, p1, q1, ad1), I1, J1) _
  refine ⟨x2, y2, u2, w2, mm_wcm h2 ?_⟩
  rintro v τ ⟨r2, fl2, z1, z2, p2, q2, ad2, I2, J2, rfl, rfl, h2⟩
  refine mm_r1' ?_
  show mm_b _ _ _ _ _ [some (.ref 68), some (.ref 0), some (.ref 46), some (.ref 65), some (.int i), none, none] [.int r2, .int r1] ((fl2, ((n1 - x1) - x2), ((n2 - y1) - y2), p2, q2, ad2), I2, J2)
  show (r1 = r2 → _) ∧ (¬ r1 = r2 → _)
  refine ⟨fun c0 => ?_, fun c0 => ?_⟩
  · exact (h2.1 c0)
  · show mm_b _ _ _ _ _ [some (.ref 68), some (.ref 0), some (.ref 46), some (.ref 65), some (.int i), none, none] [] ((fl2, ((n1 - x1) - x2), ((n2 - y1) - y2), p2, q2, ad2), I2, J2)
    show (((nI 0) : Int32) = 0 ∨ ((nI 0) : Int32) = 1) ∧ _
    refine ⟨(by decide), ?_⟩
    exact (h2.2 c0)
theorem lx_879 {d : Nat} {i : Int32} {fl : Nat → Bool} {n1 n2 : Nat} {p q : Bool} {ad : Nat → Nat} {I : mmI} {J : mmJ} {Q : mmQ} (h : ∃ x1 y1, x1 ≤ n1 ∧ y1 ≤ n2 ∧ mm_wc d 138 [.ref 0] ((fl, x1, y1, p, q, ad), I, J) (fun v τ => ∃ r1 fl1 z1 z2 p1 q1 ad1 I1 J1, v = some (.int r1) ∧ τ = ((fl1, z1, z2, p1, q1, ad1), I1, J1) ∧ ∃ x2 y2, x2 ≤ (n1 - x1) ∧ y2 ≤ (n2 - y1) ∧ mm_wc d 254 [.ref 46] ((fl1, x2, y2, p1, q1, ad1), I1, J1) (fun v τ => ∃ r2 fl2 z1 z2 p2 q2 ad2 I2 J2, v = some (.int r2) ∧ τ = ((fl2, z1, z2, p2, q2, ad2), I2, J2) ∧ ((r1 = r2 → mm_w Q (mm_wc d) bk_law 1331 [some (.ref 68), some (.ref 0), some (.ref 46), some (.ref 65), some (.int i), none, none] [] ((fl2, ((n1 - x1) - x2), ((n2 - y1) - y2), p2, q2, ad2), I2, J2)) ∧ (¬ r1 = r2 → Q (some (.int (nI 0))) ((fl2, ((n1 - x1) - x2), ((n2 - y1) - y2), p2, q2, ad2), I2, J2)))))) : mm_w Q (mm_wc d) bk_law 879 [some (.ref 68), some (.ref 0), some (.ref 46), some (.ref 65), some (.int i), none, none] [] ((fl, n1, n2, p, q, ad), I, J) := by
  refine mm_go [23, 1331] 90 ?_
  obtain ⟨x1, y1, u1, w1, h1⟩ := h
  show ∃ x y, x ≤ n1 ∧ y ≤ n2 ∧ mm_wc d 138 [.ref 0] ((fl, x, y, p, q, ad), I, J) _
  refine ⟨x1, y1, u1, w1, mm_wcm h1 ?_⟩
  rintro v τ ⟨r1, fl1, z1, z2, p1, q1, ad1, I1, J1, rfl, rfl, h1⟩
  refine mm_r1' ?_
  show mm_b _ _ _ _ _ [some (.ref 68), some (.ref 0), some (.ref 46), some (.ref 65), some (.int i), none, none] [.int r1] ((fl1, (n1 - x1), (n2 - y1), p1, q1, ad1), I1, J1)
  obtain ⟨x2, y2, u2, w2, h2⟩ := h1
  show ∃ x y, x ≤ (n1 - x1) ∧ y ≤ (n2 - y1) ∧ mm_wc d 254 [.ref 46] ((fl1, x, y, p1, q1, ad1), I1, J1) _
  refine ⟨x2, y2, u2, w2, mm_wcm h2 ?_⟩
  rintro v τ ⟨r2, fl2, z1, z2, p2, q2, ad2, I2, J2, rfl, rfl, h2⟩
  refine mm_r1' ?_
  show mm_b _ _ _ _ _ [some (.ref 68), some (.ref 0), some (.ref 46), some (.ref 65), some (.int i), none, none] [.int r2, .int r1] ((fl2, ((n1 - x1) - x2), ((n2 - y1) - y2), p2, q2, ad2), I2, J2)
  show (r1 = r2 → _) ∧ (¬ r1 = r2 → _)
  refine ⟨fun c0 => ?_, fun c0 => ?_⟩
  · exact (h2.1 c0)
  · show mm_b _ _ _ _ _ [some (.ref 68), some (.ref 0), some (.ref 46), some (.ref 65), some (.int i), none, none] [] ((fl2, ((n1 - x1) - x2), ((n2 - y1) - y2), p2, q2, ad2), I2, J2)
    show (((nI 0) : Int32) = 0 ∨ ((nI 0) : Int32) = 1) ∧ _
    refine ⟨(by decide), ?_⟩
    exact (h2.2 c0)
theorem lx_892 {d : Nat} {i : Int32} {fl : Nat → Bool} {n1 n2 : Nat} {p q : Bool} {ad : Nat → Nat} {I : mmI} {J : mmJ} {Q : mmQ} (h : (vp_in (i + (nI 1)) ((I 69 0)).toNatClampNeg ∧ ∃ x1 y1, x1 ≤ n1 ∧ y1 ≤ n2 ∧ mm_wc d 139 [.ref 0, .int (I 68 ((i + (nI 1))).toNatClampNeg)] ((fl, x1, y1, p, q, ad), I, J) (fun v τ => ∃ r1 fl1 z1 z2 p1 q1 ad1 I1 J1, v = some (.int r1) ∧ τ = ((fl1, z1, z2, p1, q1, ad1), I1, J1) ∧ (vp_in (i + (nI 1)) ((I1 69 0)).toNatClampNeg ∧ ∃ x2 y2, x2 ≤ (n1 - x1) ∧ y2 ≤ (n2 - y1) ∧ mm_wc d 246 [.ref 46, .int (I1 68 ((i + (nI 1))).toNatClampNeg)] ((fl1, x2, y2, p1, q1, ad1), I1, J1) (fun v τ => ∃ r2 fl2 z1 z2 p2 q2 ad2 I2 J2, v = some (.int r2) ∧ τ = ((fl2, z1, z2, p2, q2, ad2), I2, J2) ∧ ((r1 = r2 → mm_w Q (mm_wc d) bk_law 1331 [some (.ref 68), some (.ref 0), some (.ref 46), some (.ref 65), some (.int i), none, none] [] ((fl2, ((n1 - x1) - x2), ((n2 - y1) - y2), p2, q2, ad2), I2, J2)) ∧ (¬ r1 = r2 → Q (some (.int (nI 0))) ((fl2, ((n1 - x1) - x2), ((n2 - y1) - y2), p2, q2, ad2), I2, J2)))))))) : mm_w Q (mm_wc d) bk_law 892 [some (.ref 68), some (.ref 0), some (.ref 46), some (.ref 65), some (.int i), none, none] [] ((fl, n1, n2, p, q, ad), I, J) := by
  refine mm_go [23, 1331] 90 ?_
  show vp_in (i + (nI 1)) ((I 69 0)).toNatClampNeg ∧ _
  refine ⟨h.1, ?_⟩
  show mm_b _ _ _ _ _ [some (.ref 68), some (.ref 0), some (.ref 46), some (.ref 65), some (.int i), none, none] [.int (I 68 ((i + (nI 1))).toNatClampNeg), .ref 0] ((fl, n1, n2, p, q, ad), I, J)
  obtain ⟨x1, y1, u1, w1, h1⟩ := h.2
  show ∃ x y, x ≤ n1 ∧ y ≤ n2 ∧ mm_wc d 139 [.ref 0, .int (I 68 ((i + (nI 1))).toNatClampNeg)] ((fl, x, y, p, q, ad), I, J) _
  refine ⟨x1, y1, u1, w1, mm_wcm h1 ?_⟩
  rintro v τ ⟨r1, fl1, z1, z2, p1, q1, ad1, I1, J1, rfl, rfl, h1⟩
  refine mm_r1' ?_
  show mm_b _ _ _ _ _ [some (.ref 68), some (.ref 0), some (.ref 46), some (.ref 65), some (.int i), none, none] [.int r1] ((fl1, (n1 - x1), (n2 - y1), p1, q1, ad1), I1, J1)
  show vp_in (i + (nI 1)) ((I1 69 0)).toNatClampNeg ∧ _
  refine ⟨h1.1, ?_⟩
  show mm_b _ _ _ _ _ [some (.ref 68), some (.ref 0), some (.ref 46), some (.ref 65), some (.int i), none, none] [.int (I1 68 ((i + (nI 1))).toNatClampNeg), .ref 46, .int r1] ((fl1, (n1 - x1), (n2 - y1), p1, q1, ad1), I1, J1)
  obtain ⟨x2, y2, u2, w2, h2⟩ := h1.2
  show ∃ x y, x ≤ (n1 - x1) ∧ y ≤ (n2 - y1) ∧ mm_wc d 246 [.ref 46, .int (I1 68 ((i + (nI 1))).toNatClampNeg)] ((fl1, x, y, p1, q1, ad1), I1, J1) _
  refine ⟨x2, y2, u2, w2, mm_wcm h2 ?_⟩
  rintro v τ ⟨r2, fl2, z1, z2, p2, q2, ad2, I2, J2, rfl, rfl, h2⟩
  refine mm_r1' ?_
  show mm_b _ _ _ _ _ [some (.ref 68), some (.ref 0), some (.ref 46), some (.ref 65), some (.int i), none, none] [.int r2, .int r1] ((fl2, ((n1 - x1) - x2), ((n2 - y1) - y2), p2, q2, ad2), I2, J2)
  show (r1 = r2 → _) ∧ (¬ r1 = r2 → _)
  refine ⟨fun c0 => ?_, fun c0 => ?_⟩
  · exact (h2.1 c0)
  · show mm_b _ _ _ _ _ [some (.ref 68), some (.ref 0), some (.ref 46), some (.ref 65), some (.int i), none, none] [] ((fl2, ((n1 - x1) - x2), ((n2 - y1) - y2), p2, q2, ad2), I2, J2)
    show (((nI 0) : Int32) = 0 ∨ ((nI 0) : Int32) = 1) ∧ _
    refine ⟨(by decide), ?_⟩
    exact (h2.2 c0)
theorem lx_917 {d : Nat} {i : Int32} {fl : Nat → Bool} {n1 n2 : Nat} {p q : Bool} {ad : Nat → Nat} {I : mmI} {J : mmJ} {Q : mmQ} (h : (vp_in (i + (nI 1)) ((I 69 0)).toNatClampNeg ∧ ∃ x1 y1, x1 ≤ n1 ∧ y1 ≤ n2 ∧ mm_wc d 140 [.ref 0, .int (I 68 ((i + (nI 1))).toNatClampNeg)] ((fl, x1, y1, p, q, ad), I, J) (fun v τ => ∃ r1 fl1 z1 z2 p1 q1 ad1 I1 J1, v = some (.int r1) ∧ τ = ((fl1, z1, z2, p1, q1, ad1), I1, J1) ∧ (vp_in (i + (nI 1)) ((I1 69 0)).toNatClampNeg ∧ ∃ x2 y2, x2 ≤ (n1 - x1) ∧ y2 ≤ (n2 - y1) ∧ mm_wc d 247 [.ref 46, .int (I1 68 ((i + (nI 1))).toNatClampNeg)] ((fl1, x2, y2, p1, q1, ad1), I1, J1) (fun v τ => ∃ r2 fl2 z1 z2 p2 q2 ad2 I2 J2, v = some (.int r2) ∧ τ = ((fl2, z1, z2, p2, q2, ad2), I2, J2) ∧ ((r1 = r2 → mm_w Q (mm_wc d) bk_law 1331 [some (.ref 68), some (.ref 0), some (.ref 46), some (.ref 65), some (.int i), none, none] [] ((fl2, ((n1 - x1) - x2), ((n2 - y1) - y2), p2, q2, ad2), I2, J2)) ∧ (¬ r1 = r2 → Q (some (.int (nI 0))) ((fl2, ((n1 - x1) - x2), ((n2 - y1) - y2), p2, q2, ad2), I2, J2)))))))) : mm_w Q (mm_wc d) bk_law 917 [some (.ref 68), some (.ref 0), some (.ref 46), some (.ref 65), some (.int i), none, none] [] ((fl, n1, n2, p, q, ad), I, J) := by
  refine mm_go [23, 1331] 90 ?_
  show vp_in (i + (nI 1)) ((I 69 0)).toNatClampNeg ∧ _
  refine ⟨h.1, ?_⟩
  show mm_b _ _ _ _ _ [some (.ref 68), some (.ref 0), some (.ref 46), some (.ref 65), some (.int i), none, none] [.int (I 68 ((i + (nI 1))).toNatClampNeg), .ref 0] ((fl, n1, n2, p, q, ad), I, J)
  obtain ⟨x1, y1, u1, w1, h1⟩ := h.2
  show ∃ x y, x ≤ n1 ∧ y ≤ n2 ∧ mm_wc d 140 [.ref 0, .int (I 68 ((i + (nI 1))).toNatClampNeg)] ((fl, x, y, p, q, ad), I, J) _
  refine ⟨x1, y1, u1, w1, mm_wcm h1 ?_⟩
  rintro v τ ⟨r1, fl1, z1, z2, p1, q1, ad1, I1, J1, rfl, rfl, h1⟩
  refine mm_r1' ?_
  show mm_b _ _ _ _ _ [some (.ref 68), some (.ref 0), some (.ref 46), some (.ref 65), some (.int i), none, none] [.int r1] ((fl1, (n1 - x1), (n2 - y1), p1, q1, ad1), I1, J1)
  show vp_in (i + (nI 1)) ((I1 69 0)).toNatClampNeg ∧ _
  refine ⟨h1.1, ?_⟩
  show mm_b _ _ _ _ _ [some (.ref 68), some (.ref 0), some (.ref 46), some (.ref 65), some (.int i), none, none] [.int (I1 68 ((i + (nI 1))).toNatClampNeg), .ref 46, .int r1] ((fl1, (n1 - x1), (n2 - y1), p1, q1, ad1), I1, J1)
  obtain ⟨x2, y2, u2, w2, h2⟩ := h1.2
  show ∃ x y, x ≤ (n1 - x1) ∧ y ≤ (n2 - y1) ∧ mm_wc d 247 [.ref 46, .int (I1 68 ((i + (nI 1))).toNatClampNeg)] ((fl1, x, y, p1, q1, ad1), I1, J1) _
  refine ⟨x2, y2, u2, w2, mm_wcm h2 ?_⟩
  rintro v τ ⟨r2, fl2, z1, z2, p2, q2, ad2, I2, J2, rfl, rfl, h2⟩
  refine mm_r1' ?_
  show mm_b _ _ _ _ _ [some (.ref 68), some (.ref 0), some (.ref 46), some (.ref 65), some (.int i), none, none] [.int r2, .int r1] ((fl2, ((n1 - x1) - x2), ((n2 - y1) - y2), p2, q2, ad2), I2, J2)
  show (r1 = r2 → _) ∧ (¬ r1 = r2 → _)
  refine ⟨fun c0 => ?_, fun c0 => ?_⟩
  · exact (h2.1 c0)
  · show mm_b _ _ _ _ _ [some (.ref 68), some (.ref 0), some (.ref 46), some (.ref 65), some (.int i), none, none] [] ((fl2, ((n1 - x1) - x2), ((n2 - y1) - y2), p2, q2, ad2), I2, J2)
    show (((nI 0) : Int32) = 0 ∨ ((nI 0) : Int32) = 1) ∧ _
    refine ⟨(by decide), ?_⟩
    exact (h2.2 c0)
theorem lx_942 {d : Nat} {i : Int32} {fl : Nat → Bool} {n1 n2 : Nat} {p q : Bool} {ad : Nat → Nat} {I : mmI} {J : mmJ} {Q : mmQ} (h : (vp_in (i + (nI 1)) ((I 69 0)).toNatClampNeg ∧ (vp_in (i + (nI 2)) ((I 69 0)).toNatClampNeg ∧ (((I 68 ((i + (nI 2))).toNatClampNeg) = (nI 0) → ∃ x1 y1, x1 ≤ n1 ∧ y1 ≤ n2 ∧ mm_wc d 141 [.ref 0, .int (I 68 ((i + (nI 1))).toNatClampNeg), .int (nI 0)] ((fl, x1, y1, p, q, ad), I, J) (fun v τ => ∃ r1 fl1 z1 z2 p1 q1 ad1 I1 J1, v = some (.long r1) ∧ τ = ((fl1, z1, z2, p1, q1, ad1), I1, J1) ∧ (vp_in (i + (nI 1)) ((I1 69 0)).toNatClampNeg ∧ (vp_in (i + (nI 2)) ((I1 69 0)).toNatClampNeg ∧ (((I1 68 ((i + (nI 2))).toNatClampNeg) = (nI 0) → ∃ x2 y2, x2 ≤ (n1 - x1) ∧ y2 ≤ (n2 - y1) ∧ mm_wc d 262 [.ref 46, .int (I1 68 ((i + (nI 1))).toNatClampNeg), .int (nI 0)] ((fl1, x2, y2, p1, q1, ad1), I1, J1) (fun v τ => ∃ r2 fl2 z1 z2 p2 q2 ad2 I2 J2, v = some (.long r2) ∧ τ = ((fl2, z1, z2, p2, q2, ad2), I2, J2) ∧ (((lg_cmp r1 r2) = (nI 0) → mm_w Q (mm_wc d) bk_law 1331 [some (.ref 68), some (.ref 0), some (.ref 46), some (.ref 65), some (.int i), none, none] [] ((fl2, ((n1 - x1) - x2), ((n2 - y1) - y2), p2, q2, ad2), I2, J2)) ∧ (¬ (lg_cmp r1 r2) = (nI 0) → Q (some (.int (nI 0))) ((fl2, ((n1 - x1) - x2), ((n2 - y1) - y2), p2, q2, ad2), I2, J2))))) ∧ (¬ (I1 68 ((i + (nI 2))).toNatClampNeg) = (nI 0) → ∃ x3 y3, x3 ≤ (n1 - x1) ∧ y3 ≤ (n2 - y1) ∧ mm_wc d 262 [.ref 46, .int (I1 68 ((i + (nI 1))).toNatClampNeg), .int (nI 1)] ((fl1, x3, y3, p1, q1, ad1), I1, J1) (fun v τ => ∃ r3 fl3 z1 z2 p3 q3 ad3 I3 J3, v = some (.long r3) ∧ τ = ((fl3, z1, z2, p3, q3, ad3), I3, J3) ∧ (((lg_cmp r1 r3) = (nI 0) → mm_w Q (mm_wc d) bk_law 1331 [some (.ref 68), some (.ref 0), some (.ref 46), some (.ref 65), some (.int i), none, none] [] ((fl3, ((n1 - x1) - x3), ((n2 - y1) - y3), p3, q3, ad3), I3, J3)) ∧ (¬ (lg_cmp r1 r3) = (nI 0) → Q (some (.int (nI 0))) ((fl3, ((n1 - x1) - x3), ((n2 - y1) - y3), p3, q3, ad3), I3, J3)))))))))) ∧ (¬ (I 68 ((i + (nI 2))).toNatClampNeg) = (nI 0) → ∃ x4 y4, x4 ≤ n1 ∧ y4 ≤ n2 ∧ mm_wc d 141 [.ref 0, .int (I 68 ((i + (nI 1))).toNatClampNeg), .int (nI 1)] ((fl, x4, y4, p, q, ad), I, J) (fun v τ => ∃ r4 fl4 z1 z2 p4 q4 ad4 I4 J4, v = some (.long r4) ∧ τ = ((fl4, z1, z2, p4, q4, ad4), I4, J4) ∧ (vp_in (i + (nI 1)) ((I4 69 0)).toNatClampNeg ∧ (vp_in (i + (nI 2)) ((I4 69 0)).toNatClampNeg ∧ (((I4 68 ((i + (nI 2))).toNatClampNeg) = (nI 0) → ∃ x5 y5, x5 ≤ (n1 - x4) ∧ y5 ≤ (n2 - y4) ∧ mm_wc d 262 [.ref 46, .int (I4 68 ((i + (nI 1))).toNatClampNeg), .int (nI 0)] ((fl4, x5, y5, p4, q4, ad4), I4, J4) (fun v τ => ∃ r5 fl5 z1 z2 p5 q5 ad5 I5 J5, v = some (.long r5) ∧ τ = ((fl5, z1, z2, p5, q5, ad5), I5, J5) ∧ (((lg_cmp r4 r5) = (nI 0) → mm_w Q (mm_wc d) bk_law 1331 [some (.ref 68), some (.ref 0), some (.ref 46), some (.ref 65), some (.int i), none, none] [] ((fl5, ((n1 - x4) - x5), ((n2 - y4) - y5), p5, q5, ad5), I5, J5)) ∧ (¬ (lg_cmp r4 r5) = (nI 0) → Q (some (.int (nI 0))) ((fl5, ((n1 - x4) - x5), ((n2 - y4) - y5), p5, q5, ad5), I5, J5))))) ∧ (¬ (I4 68 ((i + (nI 2))).toNatClampNeg) = (nI 0) → ∃ x6 y6, x6 ≤ (n1 - x4) ∧ y6 ≤ (n2 - y4) ∧ mm_wc d 262 [.ref 46, .int (I4 68 ((i + (nI 1))).toNatClampNeg), .int (nI 1)] ((fl4, x6, y6, p4, q4, ad4), I4, J4) (fun v τ => ∃ r6 fl6 z1 z2 p6 q6 ad6 I6 J6, v = some (.long r6) ∧ τ = ((fl6, z1, z2, p6, q6, ad6), I6, J6) ∧ (((lg_cmp r4 r6) = (nI 0) → mm_w Q (mm_wc d) bk_law 1331 [some (.ref 68), some (.ref 0), some (.ref 46), some (.ref 65), some (.int i), none, none] [] ((fl6, ((n1 - x4) - x6), ((n2 - y4) - y6), p6, q6, ad6), I6, J6)) ∧ (¬ (lg_cmp r4 r6) = (nI 0) → Q (some (.int (nI 0))) ((fl6, ((n1 - x4) - x6), ((n2 - y4) - y6), p6, q6, ad6), I6, J6)))))))))))))) : mm_w Q (mm_wc d) bk_law 942 [some (.ref 68), some (.ref 0), some (.ref 46), some (.ref 65), some (.int i), none, none] [] ((fl, n1, n2, p, q, ad), I, J) := by
  refine mm_go [23, 1331] 90 ?_
  show vp_in (i + (nI 1)) ((I 69 0)).toNatClampNeg ∧ _
  refine ⟨h.1, ?_⟩
  show mm_b _ _ _ _ _ [some (.ref 68), some (.ref 0), some (.ref 46), some (.ref 65), some (.int i), none, none] [.int (I 68 ((i + (nI 1))).toNatClampNeg), .ref 0] ((fl, n1, n2, p, q, ad), I, J)
  show vp_in (i + (nI 2)) ((I 69 0)).toNatClampNeg ∧ _
  refine ⟨h.2.1, ?_⟩
  show mm_b _ _ _ _ _ [some (.ref 68), some (.ref 0), some (.ref 46), some (.ref 65), some (.int i), none, none] [.int (I 68 ((i + (nI 2))).toNatClampNeg), .int (I 68 ((i + (nI 1))).toNatClampNeg), .ref 0] ((fl, n1, n2, p, q, ad), I, J)
  show ((I 68 ((i + (nI 2))).toNatClampNeg) = (nI 0) → _) ∧ (¬ (I 68 ((i + (nI 2))).toNatClampNeg) = (nI 0) → _)
  refine ⟨fun c0 => ?_, fun c0 => ?_⟩
  · show mm_u _ _ _ _ _ _ [some (.ref 68), some (.ref 0), some (.ref 46), some (.ref 65), some (.int i), none, none] [.int (I 68 ((i + (nI 1))).toNatClampNeg), .ref 0] ((fl, n1, n2, p, q, ad), I, J)
    obtain ⟨x1, y1, u1, w1, h1⟩ := (h.2.2.1 c0)
    show ∃ x y, x ≤ n1 ∧ y ≤ n2 ∧ mm_wc d 141 [.ref 0, .int (I 68 ((i + (nI 1))).toNatClampNeg), .int (nI 0)] ((fl, x, y, p, q, ad), I, J) _
    refine ⟨x1, y1, u1, w1, mm_wcm h1 ?_⟩
    rintro v τ ⟨r1, fl1, z1, z2, p1, q1, ad1, I1, J1, rfl, rfl, h1⟩
    refine mm_r2' ?_
    show mm_b _ _ _ _ _ [some (.ref 68), some (.ref 0), some (.ref 46), some (.ref 65), some (.int i), none, none] [.long r1] ((fl1, (n1 - x1), (n2 - y1), p1, q1, ad1), I1, J1)
    show vp_in (i + (nI 1)) ((I1 69 0)).toNatClampNeg ∧ _
    refine ⟨h1.1, ?_⟩
    show mm_b _ _ _ _ _ [some (.ref 68), some (.ref 0), some (.ref 46), some (.ref 65), some (.int i), none, none] [.int (I1 68 ((i + (nI 1))).toNatClampNeg), .ref 46, .long r1] ((fl1, (n1 - x1), (n2 - y1), p1, q1, ad1), I1, J1)
    show vp_in (i + (nI 2)) ((I1 69 0)).toNatClampNeg ∧ _
    refine ⟨h1.2.1, ?_⟩
    show mm_b _ _ _ _ _ [some (.ref 68), some (.ref 0), some (.ref 46), some (.ref 65), some (.int i), none, none] [.int (I1 68 ((i + (nI 2))).toNatClampNeg), .int (I1 68 ((i + (nI 1))).toNatClampNeg), .ref 46, .long r1] ((fl1, (n1 - x1), (n2 - y1), p1, q1, ad1), I1, J1)
    show ((I1 68 ((i + (nI 2))).toNatClampNeg) = (nI 0) → _) ∧ (¬ (I1 68 ((i + (nI 2))).toNatClampNeg) = (nI 0) → _)
    refine ⟨fun c1 => ?_, fun c1 => ?_⟩
    · show mm_u _ _ _ _ _ _ [some (.ref 68), some (.ref 0), some (.ref 46), some (.ref 65), some (.int i), none, none] [.int (I1 68 ((i + (nI 1))).toNatClampNeg), .ref 46, .long r1] ((fl1, (n1 - x1), (n2 - y1), p1, q1, ad1), I1, J1)
      obtain ⟨x2, y2, u2, w2, h2⟩ := (h1.2.2.1 c1)
      show ∃ x y, x ≤ (n1 - x1) ∧ y ≤ (n2 - y1) ∧ mm_wc d 262 [.ref 46, .int (I1 68 ((i + (nI 1))).toNatClampNeg), .int (nI 0)] ((fl1, x, y, p1, q1, ad1), I1, J1) _
      refine ⟨x2, y2, u2, w2, mm_wcm h2 ?_⟩
      rintro v τ ⟨r2, fl2, z1, z2, p2, q2, ad2, I2, J2, rfl, rfl, h2⟩
      refine mm_r2' ?_
      show mm_b _ _ _ _ _ [some (.ref 68), some (.ref 0), some (.ref 46), some (.ref 65), some (.int i), none, none] [.long r2, .long r1] ((fl2, ((n1 - x1) - x2), ((n2 - y1) - y2), p2, q2, ad2), I2, J2)
      show ((lg_cmp r1 r2) = (nI 0) → _) ∧ (¬ (lg_cmp r1 r2) = (nI 0) → _)
      refine ⟨fun c2 => ?_, fun c2 => ?_⟩
      · exact (h2.1 c2)
      · show mm_b _ _ _ _ _ [some (.ref 68), some (.ref 0), some (.ref 46), some (.ref 65), some (.int i), none, none] [] ((fl2, ((n1 - x1) - x2), ((n2 - y1) - y2), p2, q2, ad2), I2, J2)
        show (((nI 0) : Int32) = 0 ∨ ((nI 0) : Int32) = 1) ∧ _
        refine ⟨(by decide), ?_⟩
        exact (h2.2 c2)
    · show mm_b _ _ _ _ _ [some (.ref 68), some (.ref 0), some (.ref 46), some (.ref 65), some (.int i), none, none] [.int (I1 68 ((i + (nI 1))).toNatClampNeg), .ref 46, .long r1] ((fl1, (n1 - x1), (n2 - y1), p1, q1, ad1), I1, J1)
      obtain ⟨x3, y3, u3, w3, h3⟩ := (h1.2.2.2 c1)
      show ∃ x y, x ≤ (n1 - x1) ∧ y ≤ (n2 - y1) ∧ mm_wc d 262 [.ref 46, .int (I1 68 ((i + (nI 1))).toNatClampNeg), .int (nI 1)] ((fl1, x, y, p1, q1, ad1), I1, J1) _
      refine ⟨x3, y3, u3, w3, mm_wcm h3 ?_⟩
      rintro v τ ⟨r3, fl3, z1, z2, p3, q3, ad3, I3, J3, rfl, rfl, h3⟩
      refine mm_r2' ?_
      show mm_b _ _ _ _ _ [some (.ref 68), some (.ref 0), some (.ref 46), some (.ref 65), some (.int i), none, none] [.long r3, .long r1] ((fl3, ((n1 - x1) - x3), ((n2 - y1) - y3), p3, q3, ad3), I3, J3)
      show ((lg_cmp r1 r3) = (nI 0) → _) ∧ (¬ (lg_cmp r1 r3) = (nI 0) → _)
      refine ⟨fun c2 => ?_, fun c2 => ?_⟩
      · exact (h3.1 c2)
      · show mm_b _ _ _ _ _ [some (.ref 68), some (.ref 0), some (.ref 46), some (.ref 65), some (.int i), none, none] [] ((fl3, ((n1 - x1) - x3), ((n2 - y1) - y3), p3, q3, ad3), I3, J3)
        show (((nI 0) : Int32) = 0 ∨ ((nI 0) : Int32) = 1) ∧ _
        refine ⟨(by decide), ?_⟩
        exact (h3.2 c2)
  · show mm_b _ _ _ _ _ [some (.ref 68), some (.ref 0), some (.ref 46), some (.ref 65), some (.int i), none, none] [.int (I 68 ((i + (nI 1))).toNatClampNeg), .ref 0] ((fl, n1, n2, p, q, ad), I, J)
    obtain ⟨x4, y4, u4, w4, h4⟩ := (h.2.2.2 c0)
    show ∃ x y, x ≤ n1 ∧ y ≤ n2 ∧ mm_wc d 141 [.ref 0, .int (I 68 ((i + (nI 1))).toNatClampNeg), .int (nI 1)] ((fl, x, y, p, q, ad), I, J) _
    refine ⟨x4, y4, u4, w4, mm_wcm h4 ?_⟩
    rintro v τ ⟨r4, fl4, z1, z2, p4, q4, ad4, I4, J4, rfl, rfl, h4⟩
    refine mm_r2' ?_
    show mm_b _ _ _ _ _ [some (.ref 68), some (.ref 0), some (.ref 46), some (.ref 65), some (.int i), none, none] [.long r4] ((fl4, (n1 - x4), (n2 - y4), p4, q4, ad4), I4, J4)
    show vp_in (i + (nI 1)) ((I4 69 0)).toNatClampNeg ∧ _
    refine ⟨h4.1, ?_⟩
    show mm_b _ _ _ _ _ [some (.ref 68), some (.ref 0), some (.ref 46), some (.ref 65), some (.int i), none, none] [.int (I4 68 ((i + (nI 1))).toNatClampNeg), .ref 46, .long r4] ((fl4, (n1 - x4), (n2 - y4), p4, q4, ad4), I4, J4)
    show vp_in (i + (nI 2)) ((I4 69 0)).toNatClampNeg ∧ _
    refine ⟨h4.2.1, ?_⟩
    show mm_b _ _ _ _ _ [some (.ref 68), some (.ref 0), some (.ref 46), some (.ref 65), some (.int i), none, none] [.int (I4 68 ((i + (nI 2))).toNatClampNeg), .int (I4 68 ((i + (nI 1))).toNatClampNeg), .ref 46, .long r4] ((fl4, (n1 - x4), (n2 - y4), p4, q4, ad4), I4, J4)
    show ((I4 68 ((i + (nI 2))).toNatClampNeg) = (nI 0) → _) ∧ (¬ (I4 68 ((i + (nI 2))).toNatClampNeg) = (nI 0) → _)
    refine ⟨fun c1 => ?_, fun c1 => ?_⟩
    · show mm_u _ _ _ _ _ _ [some (.ref 68), some (.ref 0), some (.ref 46), some (.ref 65), some (.int i), none, none] [.int (I4 68 ((i + (nI 1))).toNatClampNeg), .ref 46, .long r4] ((fl4, (n1 - x4), (n2 - y4), p4, q4, ad4), I4, J4)
      obtain ⟨x5, y5, u5, w5, h5⟩ := (h4.2.2.1 c1)
      show ∃ x y, x ≤ (n1 - x4) ∧ y ≤ (n2 - y4) ∧ mm_wc d 262 [.ref 46, .int (I4 68 ((i + (nI 1))).toNatClampNeg), .int (nI 0)] ((fl4, x, y, p4, q4, ad4), I4, J4) _
      refine ⟨x5, y5, u5, w5, mm_wcm h5 ?_⟩
      rintro v τ ⟨r5, fl5, z1, z2, p5, q5, ad5, I5, J5, rfl, rfl, h5⟩
      refine mm_r2' ?_
      show mm_b _ _ _ _ _ [some (.ref 68), some (.ref 0), some (.ref 46), some (.ref 65), some (.int i), none, none] [.long r5, .long r4] ((fl5, ((n1 - x4) - x5), ((n2 - y4) - y5), p5, q5, ad5), I5, J5)
      show ((lg_cmp r4 r5) = (nI 0) → _) ∧ (¬ (lg_cmp r4 r5) = (nI 0) → _)
      refine ⟨fun c2 => ?_, fun c2 => ?_⟩
      · exact (h5.1 c2)
      · show mm_b _ _ _ _ _ [some (.ref 68), some (.ref 0), some (.ref 46), some (.ref 65), some (.int i), none, none] [] ((fl5, ((n1 - x4) - x5), ((n2 - y4) - y5), p5, q5, ad5), I5, J5)
        show (((nI 0) : Int32) = 0 ∨ ((nI 0) : Int32) = 1) ∧ _
        refine ⟨(by decide), ?_⟩
        exact (h5.2 c2)
    · show mm_b _ _ _ _ _ [some (.ref 68), some (.ref 0), some (.ref 46), some (.ref 65), some (.int i), none, none] [.int (I4 68 ((i + (nI 1))).toNatClampNeg), .ref 46, .long r4] ((fl4, (n1 - x4), (n2 - y4), p4, q4, ad4), I4, J4)
      obtain ⟨x6, y6, u6, w6, h6⟩ := (h4.2.2.2 c1)
      show ∃ x y, x ≤ (n1 - x4) ∧ y ≤ (n2 - y4) ∧ mm_wc d 262 [.ref 46, .int (I4 68 ((i + (nI 1))).toNatClampNeg), .int (nI 1)] ((fl4, x, y, p4, q4, ad4), I4, J4) _
      refine ⟨x6, y6, u6, w6, mm_wcm h6 ?_⟩
      rintro v τ ⟨r6, fl6, z1, z2, p6, q6, ad6, I6, J6, rfl, rfl, h6⟩
      refine mm_r2' ?_
      show mm_b _ _ _ _ _ [some (.ref 68), some (.ref 0), some (.ref 46), some (.ref 65), some (.int i), none, none] [.long r6, .long r4] ((fl6, ((n1 - x4) - x6), ((n2 - y4) - y6), p6, q6, ad6), I6, J6)
      show ((lg_cmp r4 r6) = (nI 0) → _) ∧ (¬ (lg_cmp r4 r6) = (nI 0) → _)
      refine ⟨fun c2 => ?_, fun c2 => ?_⟩
      · exact (h6.1 c2)
      · show mm_b _ _ _ _ _ [some (.ref 68), some (.ref 0), some (.ref 46), some (.ref 65), some (.int i), none, none] [] ((fl6, ((n1 - x4) - x6), ((n2 - y4) - y6), p6, q6, ad6), I6, J6)
        show (((nI 0) : Int32) = 0 ∨ ((nI 0) : Int32) = 1) ∧ _
        refine ⟨(by decide), ?_⟩
        exact (h6.2 c2)
theorem lx_996 {d : Nat} {i : Int32} {fl : Nat → Bool} {n1 n2 : Nat} {p q : Bool} {ad : Nat → Nat} {I : mmI} {J : mmJ} {Q : mmQ} (h : (vp_in (i + (nI 1)) ((I 69 0)).toNatClampNeg ∧ ∃ x1 y1, x1 ≤ n1 ∧ y1 ≤ n2 ∧ mm_wc d 142 [.ref 0, .int (I 68 ((i + (nI 1))).toNatClampNeg)] ((fl, x1, y1, p, q, ad), I, J) (fun v τ => ∃ r1 fl1 z1 z2 p1 q1 ad1 I1 J1, v = some (.int r1) ∧ τ = ((fl1, z1, z2, p1, q1, ad1), I1, J1) ∧ (vp_in (i + (nI 1)) ((I1 69 0)).toNatClampNeg ∧ ∃ x2 y2, x2 ≤ (n1 - x1) ∧ y2 ≤ (n2 - y1) ∧ mm_wc d 266 [.ref 46, .int (I1 68 ((i + (nI 1))).toNatClampNeg)] ((fl1, x2, y2, p1, q1, ad1), I1, J1) (fun v τ => ∃ r2 fl2 z1 z2 p2 q2 ad2 I2 J2, v = some (.int r2) ∧ τ = ((fl2, z1, z2, p2, q2, ad2), I2, J2) ∧ ((r1 = r2 → mm_w Q (mm_wc d) bk_law 1331 [some (.ref 68), some (.ref 0), some (.ref 46), some (.ref 65), some (.int i), none, none] [] ((fl2, ((n1 - x1) - x2), ((n2 - y1) - y2), p2, q2, ad2), I2, J2)) ∧ (¬ r1 = r2 → Q (some (.int (nI 0))) ((fl2, ((n1 - x1) - x2), ((n2 - y1) - y2), p2, q2, ad2), I2, J2)))))))) : mm_w Q (mm_wc d) bk_law 996 [some (.ref 68), some (.ref 0), some (.ref 46), some (.ref 65), some (.int i), none, none] [] ((fl, n1, n2, p, q, ad), I, J) := by
  refine mm_go [23, 1331] 90 ?_
  show vp_in (i + (nI 1)) ((I 69 0)).toNatClampNeg ∧ _
  refine ⟨h.1, ?_⟩
  show mm_b _ _ _ _ _ [some (.ref 68), some (.ref 0), some (.ref 46), some (.ref 65), some (.int i), none, none] [.int (I 68 ((i + (nI 1))).toNatClampNeg), .ref 0] ((fl, n1, n2, p, q, ad), I, J)
  obtain ⟨x1, y1, u1, w1, h1⟩ := h.2
  show ∃ x y, x ≤ n1 ∧ y ≤ n2 ∧ mm_wc d 142 [.ref 0, .int (I 68 ((i + (nI 1))).toNatClampNeg)] ((fl, x, y, p, q, ad), I, J) _
  refine ⟨x1, y1, u1, w1, mm_wcm h1 ?_⟩
  rintro v τ ⟨r1, fl1, z1, z2, p1, q1, ad1, I1, J1, rfl, rfl, h1⟩
  refine mm_r1' ?_
  show mm_b _ _ _ _ _ [some (.ref 68), some (.ref 0), some (.ref 46), some (.ref 65), some (.int i), none, none] [.int r1] ((fl1, (n1 - x1), (n2 - y1), p1, q1, ad1), I1, J1)
  show vp_in (i + (nI 1)) ((I1 69 0)).toNatClampNeg ∧ _
  refine ⟨h1.1, ?_⟩
  show mm_b _ _ _ _ _ [some (.ref 68), some (.ref 0), some (.ref 46), some (.ref 65), some (.int i), none, none] [.int (I1 68 ((i + (nI 1))).toNatClampNeg), .ref 46, .int r1] ((fl1, (n1 - x1), (n2 - y1), p1, q1, ad1), I1, J1)
  obtain ⟨x2, y2, u2, w2, h2⟩ := h1.2
  show ∃ x y, x ≤ (n1 - x1) ∧ y ≤ (n2 - y1) ∧ mm_wc d 266 [.ref 46, .int (I1 68 ((i + (nI 1))).toNatClampNeg)] ((fl1, x, y, p1, q1, ad1), I1, J1) _
  refine ⟨x2, y2, u2, w2, mm_wcm h2 ?_⟩
  rintro v τ ⟨r2, fl2, z1, z2, p2, q2, ad2, I2, J2, rfl, rfl, h2⟩
  refine mm_r1' ?_
  show mm_b _ _ _ _ _ [some (.ref 68), some (.ref 0), some (.ref 46), some (.ref 65), some (.int i), none, none] [.int r2, .int r1] ((fl2, ((n1 - x1) - x2), ((n2 - y1) - y2), p2, q2, ad2), I2, J2)
  show (r1 = r2 → _) ∧ (¬ r1 = r2 → _)
  refine ⟨fun c0 => ?_, fun c0 => ?_⟩
  · exact (h2.1 c0)
  · show mm_b _ _ _ _ _ [some (.ref 68), some (.ref 0), some (.ref 46), some (.ref 65), some (.int i), none, none] [] ((fl2, ((n1 - x1) - x2), ((n2 - y1) - y2), p2, q2, ad2), I2, J2)
    show (((nI 0) : Int32) = 0 ∨ ((nI 0) : Int32) = 1) ∧ _
    refine ⟨(by decide), ?_⟩
    exact (h2.2 c0)
theorem lx_1021 {d : Nat} {i : Int32} {fl : Nat → Bool} {n1 n2 : Nat} {p q : Bool} {ad : Nat → Nat} {I : mmI} {J : mmJ} {Q : mmQ} (h : (vp_in (i + (nI 1)) ((I 69 0)).toNatClampNeg ∧ (vp_in (i + (nI 2)) ((I 69 0)).toNatClampNeg ∧ (((I 68 ((i + (nI 2))).toNatClampNeg) = (nI 0) → ∃ x1 y1, x1 ≤ n1 ∧ y1 ≤ n2 ∧ mm_wc d 143 [.ref 0, .int (I 68 ((i + (nI 1))).toNatClampNeg), .int (nI 0)] ((fl, x1, y1, p, q, ad), I, J) (fun v τ => ∃ r1 fl1 z1 z2 p1 q1 ad1 I1 J1, v = some (.long r1) ∧ τ = ((fl1, z1, z2, p1, q1, ad1), I1, J1) ∧ (vp_in (i + (nI 1)) ((I1 69 0)).toNatClampNeg ∧ (vp_in (i + (nI 2)) ((I1 69 0)).toNatClampNeg ∧ (((I1 68 ((i + (nI 2))).toNatClampNeg) = (nI 0) → ∃ x2 y2, x2 ≤ (n1 - x1) ∧ y2 ≤ (n2 - y1) ∧ mm_wc d 265 [.ref 46, .int (I1 68 ((i + (nI 1))).toNatClampNeg), .int (nI 0)] ((fl1, x2, y2, p1, q1, ad1), I1, J1) (fun v τ => ∃ r2 fl2 z1 z2 p2 q2 ad2 I2 J2, v = some (.long r2) ∧ τ = ((fl2, z1, z2, p2, q2, ad2), I2, J2) ∧ (((lg_cmp r1 r2) = (nI 0) → mm_w Q (mm_wc d) bk_law 1331 [some (.ref 68), some (.ref 0), some (.ref 46), some (.ref 65), some (.int i), none, none] [] ((fl2, ((n1 - x1) - x2), ((n2 - y1) - y2), p2, q2, ad2), I2, J2)) ∧ (¬ (lg_cmp r1 r2) = (nI 0) → Q (some (.int (nI 0))) ((fl2, ((n1 - x1) - x2), ((n2 - y1) - y2), p2, q2, ad2), I2, J2))))) ∧ (¬ (I1 68 ((i + (nI 2))).toNatClampNeg) = (nI 0) → ∃ x3 y3, x3 ≤ (n1 - x1) ∧ y3 ≤ (n2 - y1) ∧ mm_wc d 265 [.ref 46, .int (I1 68 ((i + (nI 1))).toNatClampNeg), .int (nI 1)] ((fl1, x3, y3, p1, q1, ad1), I1, J1) (fun v τ => ∃ r3 fl3 z1 z2 p3 q3 ad3 I3 J3, v = some (.long r3) ∧ τ = ((fl3, z1, z2, p3, q3, ad3), I3, J3) ∧ (((lg_cmp r1 r3) = (nI 0) → mm_w Q (mm_wc d) bk_law 1331 [some (.ref 68), some (.ref 0), some (.ref 46), some (.ref 65), some (.int i), none, none] [] ((fl3, ((n1 - x1) - x3), ((n2 - y1) - y3), p3, q3, ad3), I3, J3)) ∧ (¬ (lg_cmp r1 r3) = (nI 0) → Q (some (.int (nI 0))) ((fl3, ((n1 - x1) - x3), ((n2 - y1) - y3), p3, q3, ad3), I3, J3)))))))))) ∧ (¬ (I 68 ((i + (nI 2))).toNatClampNeg) = (nI 0) → ∃ x4 y4, x4 ≤ n1 ∧ y4 ≤ n2 ∧ mm_wc d 143 [.ref 0, .int (I 68 ((i + (nI 1))).toNatClampNeg), .int (nI 1)] ((fl, x4, y4, p, q, ad), I, J) (fun v τ => ∃ r4 fl4 z1 z2 p4 q4 ad4 I4 J4, v = some (.long r4) ∧ τ = ((fl4, z1, z2, p4, q4, ad4), I4, J4) ∧ (vp_in (i + (nI 1)) ((I4 69 0)).toNatClampNeg ∧ (vp_in (i + (nI 2)) ((I4 69 0)).toNatClampNeg ∧ (((I4 68 ((i + (nI 2))).toNatClampNeg) = (nI 0) → ∃ x5 y5, x5 ≤ (n1 - x4) ∧ y5 ≤ (n2 - y4) ∧ mm_wc d 265 [.ref 46, .int (I4 68 ((i + (nI 1))).toNatClampNeg), .int (nI 0)] ((fl4, x5, y5, p4, q4, ad4), I4, J4) (fun v τ => ∃ r5 fl5 z1 z2 p5 q5 ad5 I5 J5, v = some (.long r5) ∧ τ = ((fl5, z1, z2, p5, q5, ad5), I5, J5) ∧ (((lg_cmp r4 r5) = (nI 0) → mm_w Q (mm_wc d) bk_law 1331 [some (.ref 68), some (.ref 0), some (.ref 46), some (.ref 65), some (.int i), none, none] [] ((fl5, ((n1 - x4) - x5), ((n2 - y4) - y5), p5, q5, ad5), I5, J5)) ∧ (¬ (lg_cmp r4 r5) = (nI 0) → Q (some (.int (nI 0))) ((fl5, ((n1 - x4) - x5), ((n2 - y4) - y5), p5, q5, ad5), I5, J5))))) ∧ (¬ (I4 68 ((i + (nI 2))).toNatClampNeg) = (nI 0) → ∃ x6 y6, x6 ≤ (n1 - x4) ∧ y6 ≤ (n2 - y4) ∧ mm_wc d 265 [.ref 46, .int (I4 68 ((i + (nI 1))).toNatClampNeg), .int (nI 1)] ((fl4, x6, y6, p4, q4, ad4), I4, J4) (fun v τ => ∃ r6 fl6 z1 z2 p6 q6 ad6 I6 J6, v = some (.long r6) ∧ τ = ((fl6, z1, z2, p6, q6, ad6), I6, J6) ∧ (((lg_cmp r4 r6) = (nI 0) → mm_w Q (mm_wc d) bk_law 1331 [some (.ref 68), some (.ref 0), some (.ref 46), some (.ref 65), some (.int i), none, none] [] ((fl6, ((n1 - x4) - x6), ((n2 - y4) - y6), p6, q6, ad6), I6, J6)) ∧ (¬ (lg_cmp r4 r6) = (nI 0) → Q (some (.int (nI 0))) ((fl6, ((n1 - x4) - x6), ((n2 - y4) - y6), p6, q6, ad6), I6, J6)))))))))))))) : mm_w Q (mm_wc d) bk_law 1021 [some (.ref 68), some (.ref 0), some (.ref 46), some (.ref 65), some (.int i), none, none] [] ((fl, n1, n2, p, q, ad), I, J) := by
  refine mm_go [23, 1331] 90 ?_
  show vp_in (i + (nI 1)) ((I 69 0)).toNatClampNeg ∧ _
  refine ⟨h.1, ?_⟩
  show mm_b _ _ _ _ _ [some (.ref 68), some (.ref 0), some (.ref 46), some (.ref 65), some (.int i), none, none] [.int (I 68 ((i + (nI 1))).toNatClampNeg), .ref 0] ((fl, n1, n2, p, q, ad), I, J)
  show vp_in (i + (nI 2)) ((I 69 0)).toNatClampNeg ∧ _
  refine ⟨h.2.1, ?_⟩
  show mm_b _ _ _ _ _ [some (.ref 68), some (.ref 0), some (.ref 46), some (.ref 65), some (.int i), none, none] [.int (I 68 ((i + (nI 2))).toNatClampNeg), .int (I 68 ((i + (nI 1))).toNatClampNeg), .ref 0] ((fl, n1, n2, p, q, ad), I, J)
  show ((I 68 ((i + (nI 2))).toNatClampNeg) = (nI 0) → _) ∧ (¬ (I 68 ((i + (nI 2))).toNatClampNeg) = (nI 0) → _)
  refine ⟨fun c0 => ?_, fun c0 => ?_⟩
  · show mm_u _ _ _ _ _ _ [some (.ref 68), some (.ref 0), some (.ref 46), some (.ref 65), some (.int i), none, none] [.int (I 68 ((i + (nI 1))).toNatClampNeg), .ref 0] ((fl, n1, n2, p, q, ad), I, J)
    obtain ⟨x1, y1, u1, w1, h1⟩ := (h.2.2.1 c0)
    show ∃ x y, x ≤ n1 ∧ y ≤ n2 ∧ mm_wc d 143 [.ref 0, .int (I 68 ((i + (nI 1))).toNatClampNeg), .int (nI 0)] ((fl, x, y, p, q, ad), I, J) _
    refine ⟨x1, y1, u1, w1, mm_wcm h1 ?_⟩
    rintro v τ ⟨r1, fl1, z1, z2, p1, q1, ad1, I1, J1, rfl, rfl, h1⟩
    refine mm_r2' ?_
    show mm_b _ _ _ _ _ [some (.ref 68), some (.ref 0), some (.ref 46), some (.ref 65), some (.int i), none, none] [.long r1] ((fl1, (n1 - x1), (n2 - y1), p1, q1, ad1), I1, J1)
    show vp_in (i + (nI 1)) ((I1 69 0)).toNatClampNeg ∧ _
    refine ⟨h1.1, ?_⟩
    show mm_b _ _ _ _ _ [some (.ref 68), some (.ref 0), some (.ref 46), some (.ref 65), some (.int i), none, none] [.int (I1 68 ((i + (nI 1))).toNatClampNeg), .ref 46, .long r1] ((fl1, (n1 - x1), (n2 - y1), p1, q1, ad1), I1, J1)
    show vp_in (i + (nI 2)) ((I1 69 0)).toNatClampNeg ∧ _
    refine ⟨h1.2.1, ?_⟩
    show mm_b _ _ _ _ _ [some (.ref 68), some (.ref 0), some (.ref 46), some (.ref 65), some (.int i), none, none] [.int (I1 68 ((i + (nI 2))).toNatClampNeg), .int (I1 68 ((i + (nI 1))).toNatClampNeg), .ref 46, .long r1] ((fl1, (n1 - x1), (n2 - y1), p1, q1, ad1), I1, J1)
    show ((I1 68 ((i + (nI 2))).toNatClampNeg) = (nI 0) → _) ∧ (¬ (I1 68 ((i + (nI 2))).toNatClampNeg) = (nI 0) → _)
    refine ⟨fun c1 => ?_, fun c1 => ?_⟩
    · show mm_u _ _ _ _ _ _ [some (.ref 68), some (.ref 0), some (.ref 46), some (.ref 65), some (.int i), none, none] [.int (I1 68 ((i + (nI 1))).toNatClampNeg), .ref 46, .long r1] ((fl1, (n1 - x1), (n2 - y1), p1, q1, ad1), I1, J1)
      obtain ⟨x2, y2, u2, w2, h2⟩ := (h1.2.2.1 c1)
      show ∃ x y, x ≤ (n1 - x1) ∧ y ≤ (n2 - y1) ∧ mm_wc d 265 [.ref 46, .int (I1 68 ((i + (nI 1))).toNatClampNeg), .int (nI 0)] ((fl1, x, y, p1, q1, ad1), I1, J1) _
      refine ⟨x2, y2, u2, w2, mm_wcm h2 ?_⟩
      rintro v τ ⟨r2, fl2, z1, z2, p2, q2, ad2, I2, J2, rfl, rfl, h2⟩
      refine mm_r2' ?_
      show mm_b _ _ _ _ _ [some (.ref 68), some (.ref 0), some (.ref 46), some (.ref 65), some (.int i), none, none] [.long r2, .long r1] ((fl2, ((n1 - x1) - x2), ((n2 - y1) - y2), p2, q2, ad2), I2, J2)
      show ((lg_cmp r1 r2) = (nI 0) → _) ∧ (¬ (lg_cmp r1 r2) = (nI 0) → _)
      refine ⟨fun c2 => ?_, fun c2 => ?_⟩
      · exact (h2.1 c2)
      · show mm_b _ _ _ _ _ [some (.ref 68), some (.ref 0), some (.ref 46), some (.ref 65), some (.int i), none, none] [] ((fl2, ((n1 - x1) - x2), ((n2 - y1) - y2), p2, q2, ad2), I2, J2)
        show (((nI 0) : Int32) = 0 ∨ ((nI 0) : Int32) = 1) ∧ _
        refine ⟨(by decide), ?_⟩
        exact (h2.2 c2)
    · show mm_b _ _ _ _ _ [some (.ref 68), some (.ref 0), some (.ref 46), some (.ref 65), some (.int i), none, none] [.int (I1 68 ((i + (nI 1))).toNatClampNeg), .ref 46, .long r1] ((fl1, (n1 - x1), (n2 - y1), p1, q1, ad1), I1, J1)
      obtain ⟨x3, y3, u3, w3, h3⟩ := (h1.2.2.2 c1)
      show ∃ x y, x ≤ (n1 - x1) ∧ y ≤ (n2 - y1) ∧ mm_wc d 265 [.ref 46, .int (I1 68 ((i + (nI 1))).toNatClampNeg), .int (nI 1)] ((fl1, x, y, p1, q1, ad1), I1, J1) _
      refine ⟨x3, y3, u3, w3, mm_wcm h3 ?_⟩
      rintro v τ ⟨r3, fl3, z1, z2, p3, q3, ad3, I3, J3, rfl, rfl, h3⟩
      refine mm_r2' ?_
      show mm_b _ _ _ _ _ [some (.ref 68), some (.ref 0), some (.ref 46), some (.ref 65), some (.int i), none, none] [.long r3, .long r1] ((fl3, ((n1 - x1) - x3), ((n2 - y1) - y3), p3, q3, ad3), I3, J3)
      show ((lg_cmp r1 r3) = (nI 0) → _) ∧ (¬ (lg_cmp r1 r3) = (nI 0) → _)
      refine ⟨fun c2 => ?_, fun c2 => ?_⟩
      · exact (h3.1 c2)
      · show mm_b _ _ _ _ _ [some (.ref 68), some (.ref 0), some (.ref 46), some (.ref 65), some (.int i), none, none] [] ((fl3, ((n1 - x1) - x3), ((n2 - y1) - y3), p3, q3, ad3), I3, J3)
        show (((nI 0) : Int32) = 0 ∨ ((nI 0) : Int32) = 1) ∧ _
        refine ⟨(by decide), ?_⟩
        exact (h3.2 c2)
  · show mm_b _ _ _ _ _ [some (.ref 68), some (.ref 0), some (.ref 46), some (.ref 65), some (.int i), none, none] [.int (I 68 ((i + (nI 1))).toNatClampNeg), .ref 0] ((fl, n1, n2, p, q, ad), I, J)
    obtain ⟨x4, y4, u4, w4, h4⟩ := (h.2.2.2 c0)
    show ∃ x y, x ≤ n1 ∧ y ≤ n2 ∧ mm_wc d 143 [.ref 0, .int (I 68 ((i + (nI 1))).toNatClampNeg), .int (nI 1)] ((fl, x, y, p, q, ad), I, J) _
    refine ⟨x4, y4, u4, w4, mm_wcm h4 ?_⟩
    rintro v τ ⟨r4, fl4, z1, z2, p4, q4, ad4, I4, J4, rfl, rfl, h4⟩
    refine mm_r2' ?_
    show mm_b _ _ _ _ _ [some (.ref 68), some (.ref 0), some (.ref 46), some (.ref 65), some (.int i), none, none] [.long r4] ((fl4, (n1 - x4), (n2 - y4), p4, q4, ad4), I4, J4)
    show vp_in (i + (nI 1)) ((I4 69 0)).toNatClampNeg ∧ _
    refine ⟨h4.1, ?_⟩
    show mm_b _ _ _ _ _ [some (.ref 68), some (.ref 0), some (.ref 46), some (.ref 65), some (.int i), none, none] [.int (I4 68 ((i + (nI 1))).toNatClampNeg), .ref 46, .long r4] ((fl4, (n1 - x4), (n2 - y4), p4, q4, ad4), I4, J4)
    show vp_in (i + (nI 2)) ((I4 69 0)).toNatClampNeg ∧ _
    refine ⟨h4.2.1, ?_⟩
    show mm_b _ _ _ _ _ [some (.ref 68), some (.ref 0), some (.ref 46), some (.ref 65), some (.int i), none, none] [.int (I4 68 ((i + (nI 2))).toNatClampNeg), .int (I4 68 ((i + (nI 1))).toNatClampNeg), .ref 46, .long r4] ((fl4, (n1 - x4), (n2 - y4), p4, q4, ad4), I4, J4)
    show ((I4 68 ((i + (nI 2))).toNatClampNeg) = (nI 0) → _) ∧ (¬ (I4 68 ((i + (nI 2))).toNatClampNeg) = (nI 0) → _)
    refine ⟨fun c1 => ?_, fun c1 => ?_⟩
    · show mm_u _ _ _ _ _ _ [some (.ref 68), some (.ref 0), some (.ref 46), some (.ref 65), some (.int i), none, none] [.int (I4 68 ((i + (nI 1))).toNatClampNeg), .ref 46, .long r4] ((fl4, (n1 - x4), (n2 - y4), p4, q4, ad4), I4, J4)
      obtain ⟨x5, y5, u5, w5, h5⟩ := (h4.2.2.1 c1)
      show ∃ x y, x ≤ (n1 - x4) ∧ y ≤ (n2 - y4) ∧ mm_wc d 265 [.ref 46, .int (I4 68 ((i + (nI 1))).toNatClampNeg), .int (nI 0)] ((fl4, x, y, p4, q4, ad4), I4, J4) _
      refine ⟨x5, y5, u5, w5, mm_wcm h5 ?_⟩
      rintro v τ ⟨r5, fl5, z1, z2, p5, q5, ad5, I5, J5, rfl, rfl, h5⟩
      refine mm_r2' ?_
      show mm_b _ _ _ _ _ [some (.ref 68), some (.ref 0), some (.ref 46), some (.ref 65), some (.int i), none, none] [.long r5, .long r4] ((fl5, ((n1 - x4) - x5), ((n2 - y4) - y5), p5, q5, ad5), I5, J5)
      show ((lg_cmp r4 r5) = (nI 0) → _) ∧ (¬ (lg_cmp r4 r5) = (nI 0) → _)
      refine ⟨fun c2 => ?_, fun c2 => ?_⟩
      · exact (h5.1 c2)
      · show mm_b _ _ _ _ _ [some (.ref 68), some (.ref 0), some (.ref 46), some (.ref 65), some (.int i), none, none] [] ((fl5, ((n1 - x4) - x5), ((n2 - y4) - y5), p5, q5, ad5), I5, J5)
        show (((nI 0) : Int32) = 0 ∨ ((nI 0) : Int32) = 1) ∧ _
        refine ⟨(by decide), ?_⟩
        exact (h5.2 c2)
    · show mm_b _ _ _ _ _ [some (.ref 68), some (.ref 0), some (.ref 46), some (.ref 65), some (.int i), none, none] [.int (I4 68 ((i + (nI 1))).toNatClampNeg), .ref 46, .long r4] ((fl4, (n1 - x4), (n2 - y4), p4, q4, ad4), I4, J4)
      obtain ⟨x6, y6, u6, w6, h6⟩ := (h4.2.2.2 c1)
      show ∃ x y, x ≤ (n1 - x4) ∧ y ≤ (n2 - y4) ∧ mm_wc d 265 [.ref 46, .int (I4 68 ((i + (nI 1))).toNatClampNeg), .int (nI 1)] ((fl4, x, y, p4, q4, ad4), I4, J4) _
      refine ⟨x6, y6, u6, w6, mm_wcm h6 ?_⟩
      rintro v τ ⟨r6, fl6, z1, z2, p6, q6, ad6, I6, J6, rfl, rfl, h6⟩
      refine mm_r2' ?_
      show mm_b _ _ _ _ _ [some (.ref 68), some (.ref 0), some (.ref 46), some (.ref 65), some (.int i), none, none] [.long r6, .long r4] ((fl6, ((n1 - x4) - x6), ((n2 - y4) - y6), p6, q6, ad6), I6, J6)
      show ((lg_cmp r4 r6) = (nI 0) → _) ∧ (¬ (lg_cmp r4 r6) = (nI 0) → _)
      refine ⟨fun c2 => ?_, fun c2 => ?_⟩
      · exact (h6.1 c2)
      · show mm_b _ _ _ _ _ [some (.ref 68), some (.ref 0), some (.ref 46), some (.ref 65), some (.int i), none, none] [] ((fl6, ((n1 - x4) - x6), ((n2 - y4) - y6), p6, q6, ad6), I6, J6)
        show (((nI 0) : Int32) = 0 ∨ ((nI 0) : Int32) = 1) ∧ _
        refine ⟨(by decide), ?_⟩
        exact (h6.2 c2)
theorem lx_1075 {d : Nat} {i : Int32} {fl : Nat → Bool} {n1 n2 : Nat} {p q : Bool} {ad : Nat → Nat} {I : mmI} {J : mmJ} {Q : mmQ} (h : (vp_in (i + (nI 1)) ((I 69 0)).toNatClampNeg ∧ ∃ x1 y1, x1 ≤ n1 ∧ y1 ≤ n2 ∧ mm_wc d 144 [.ref 0, .int (I 68 ((i + (nI 1))).toNatClampNeg)] ((fl, x1, y1, p, q, ad), I, J) (fun v τ => ∃ r1 fl1 z1 z2 p1 q1 ad1 I1 J1, v = some (.int r1) ∧ τ = ((fl1, z1, z2, p1, q1, ad1), I1, J1) ∧ (vp_in (i + (nI 1)) ((I1 69 0)).toNatClampNeg ∧ ∃ x2 y2, x2 ≤ (n1 - x1) ∧ y2 ≤ (n2 - y1) ∧ mm_wc d 269 [.ref 46, .int (I1 68 ((i + (nI 1))).toNatClampNeg)] ((fl1, x2, y2, p1, q1, ad1), I1, J1) (fun v τ => ∃ r2 fl2 z1 z2 p2 q2 ad2 I2 J2, v = some (.int r2) ∧ τ = ((fl2, z1, z2, p2, q2, ad2), I2, J2) ∧ ((r1 = r2 → mm_w Q (mm_wc d) bk_law 1331 [some (.ref 68), some (.ref 0), some (.ref 46), some (.ref 65), some (.int i), none, none] [] ((fl2, ((n1 - x1) - x2), ((n2 - y1) - y2), p2, q2, ad2), I2, J2)) ∧ (¬ r1 = r2 → Q (some (.int (nI 0))) ((fl2, ((n1 - x1) - x2), ((n2 - y1) - y2), p2, q2, ad2), I2, J2)))))))) : mm_w Q (mm_wc d) bk_law 1075 [some (.ref 68), some (.ref 0), some (.ref 46), some (.ref 65), some (.int i), none, none] [] ((fl, n1, n2, p, q, ad), I, J) := by
  refine mm_go [23, 1331] 90 ?_
  show vp_in (i + (nI 1)) ((I 69 0)).toNatClampNeg ∧ _
  refine ⟨h.1, ?_⟩
  show mm_b _ _ _ _ _ [some (.ref 68), some (.ref 0), some (.ref 46), some (.ref 65), some (.int i), none, none] [.int (I 68 ((i + (nI 1))).toNatClampNeg), .ref 0] ((fl, n1, n2, p, q, ad), I, J)
  obtain ⟨x1, y1, u1, w1, h1⟩ := h.2
  show ∃ x y, x ≤ n1 ∧ y ≤ n2 ∧ mm_wc d 144 [.ref 0, .int (I 68 ((i + (nI 1))).toNatClampNeg)] ((fl, x, y, p, q, ad), I, J) _
  refine ⟨x1, y1, u1, w1, mm_wcm h1 ?_⟩
  rintro v τ ⟨r1, fl1, z1, z2, p1, q1, ad1, I1, J1, rfl, rfl, h1⟩
  refine mm_r1' ?_
  show mm_b _ _ _ _ _ [some (.ref 68), some (.ref 0), some (.ref 46), some (.ref 65), some (.int i), none, none] [.int r1] ((fl1, (n1 - x1), (n2 - y1), p1, q1, ad1), I1, J1)
  show vp_in (i + (nI 1)) ((I1 69 0)).toNatClampNeg ∧ _
  refine ⟨h1.1, ?_⟩
  show mm_b _ _ _ _ _ [some (.ref 68), some (.ref 0), some (.ref 46), some (.ref 65), some (.int i), none, none] [.int (I1 68 ((i + (nI 1))).toNatClampNeg), .ref 46, .int r1] ((fl1, (n1 - x1), (n2 - y1), p1, q1, ad1), I1, J1)
  obtain ⟨x2, y2, u2, w2, h2⟩ := h1.2
  show ∃ x y, x ≤ (n1 - x1) ∧ y ≤ (n2 - y1) ∧ mm_wc d 269 [.ref 46, .int (I1 68 ((i + (nI 1))).toNatClampNeg)] ((fl1, x, y, p1, q1, ad1), I1, J1) _
  refine ⟨x2, y2, u2, w2, mm_wcm h2 ?_⟩
  rintro v τ ⟨r2, fl2, z1, z2, p2, q2, ad2, I2, J2, rfl, rfl, h2⟩
  refine mm_r1' ?_
  show mm_b _ _ _ _ _ [some (.ref 68), some (.ref 0), some (.ref 46), some (.ref 65), some (.int i), none, none] [.int r2, .int r1] ((fl2, ((n1 - x1) - x2), ((n2 - y1) - y2), p2, q2, ad2), I2, J2)
  show (r1 = r2 → _) ∧ (¬ r1 = r2 → _)
  refine ⟨fun c0 => ?_, fun c0 => ?_⟩
  · exact (h2.1 c0)
  · show mm_b _ _ _ _ _ [some (.ref 68), some (.ref 0), some (.ref 46), some (.ref 65), some (.int i), none, none] [] ((fl2, ((n1 - x1) - x2), ((n2 - y1) - y2), p2, q2, ad2), I2, J2)
    show (((nI 0) : Int32) = 0 ∨ ((nI 0) : Int32) = 1) ∧ _
    refine ⟨(by decide), ?_⟩
    exact (h2.2 c0)
theorem lx_1100 {d : Nat} {i : Int32} {fl : Nat → Bool} {n1 n2 : Nat} {p q : Bool} {ad : Nat → Nat} {I : mmI} {J : mmJ} {Q : mmQ} (h : (vp_in (i + (nI 1)) ((I 69 0)).toNatClampNeg ∧ (vp_in (i + (nI 2)) ((I 69 0)).toNatClampNeg ∧ ∃ x1 y1, x1 ≤ n1 ∧ y1 ≤ n2 ∧ mm_wc d 145 [.ref 0, .int (I 68 ((i + (nI 1))).toNatClampNeg), .int (I 68 ((i + (nI 2))).toNatClampNeg)] ((fl, x1, y1, p, q, ad), I, J) (fun v τ => ∃ r1 fl1 z1 z2 p1 q1 ad1 I1 J1, v = some (.int r1) ∧ τ = ((fl1, z1, z2, p1, q1, ad1), I1, J1) ∧ (vp_in (i + (nI 1)) ((I1 69 0)).toNatClampNeg ∧ (vp_in (i + (nI 2)) ((I1 69 0)).toNatClampNeg ∧ ∃ x2 y2, x2 ≤ (n1 - x1) ∧ y2 ≤ (n2 - y1) ∧ mm_wc d 270 [.ref 46, .int (I1 68 ((i + (nI 1))).toNatClampNeg), .int (I1 68 ((i + (nI 2))).toNatClampNeg)] ((fl1, x2, y2, p1, q1, ad1), I1, J1) (fun v τ => ∃ r2 fl2 z1 z2 p2 q2 ad2 I2 J2, v = some (.int r2) ∧ τ = ((fl2, z1, z2, p2, q2, ad2), I2, J2) ∧ ((r1 = r2 → mm_w Q (mm_wc d) bk_law 1331 [some (.ref 68), some (.ref 0), some (.ref 46), some (.ref 65), some (.int i), none, none] [] ((fl2, ((n1 - x1) - x2), ((n2 - y1) - y2), p2, q2, ad2), I2, J2)) ∧ (¬ r1 = r2 → Q (some (.int (nI 0))) ((fl2, ((n1 - x1) - x2), ((n2 - y1) - y2), p2, q2, ad2), I2, J2)))))))))) : mm_w Q (mm_wc d) bk_law 1100 [some (.ref 68), some (.ref 0), some (.ref 46), some (.ref 65), some (.int i), none, none] [] ((fl, n1, n2, p, q, ad), I, J) := by
  refine mm_go [23, 1331] 90 ?_
  show vp_in (i + (nI 1)) ((I 69 0)).toNatClampNeg ∧ _
  refine ⟨h.1, ?_⟩
  show mm_b _ _ _ _ _ [some (.ref 68), some (.ref 0), some (.ref 46), some (.ref 65), some (.int i), none, none] [.int (I 68 ((i + (nI 1))).toNatClampNeg), .ref 0] ((fl, n1, n2, p, q, ad), I, J)
  show vp_in (i + (nI 2)) ((I 69 0)).toNatClampNeg ∧ _
  refine ⟨h.2.1, ?_⟩
  show mm_b _ _ _ _ _ [some (.ref 68), some (.ref 0), some (.ref 46), some (.ref 65), some (.int i), none, none] [.int (I 68 ((i + (nI 2))).toNatClampNeg), .int (I 68 ((i + (nI 1))).toNatClampNeg), .ref 0] ((fl, n1, n2, p, q, ad), I, J)
  obtain ⟨x1, y1, u1, w1, h1⟩ := h.2.2
  show ∃ x y, x ≤ n1 ∧ y ≤ n2 ∧ mm_wc d 145 [.ref 0, .int (I 68 ((i + (nI 1))).toNatClampNeg), .int (I 68 ((i + (nI 2))).toNatClampNeg)] ((fl, x, y, p, q, ad), I, J) _
  refine ⟨x1, y1, u1, w1, mm_wcm h1 ?_⟩
  rintro v τ ⟨r1, fl1, z1, z2, p1, q1, ad1, I1, J1, rfl, rfl, h1⟩
  refine mm_r1' ?_
  show mm_b _ _ _ _ _ [some (.ref 68), some (.ref 0), some (.ref 46), some (.ref 65), some (.int i), none, none] [.int r1] ((fl1, (n1 - x1), (n2 - y1), p1, q1, ad1), I1, J1)
  show vp_in (i + (nI 1)) ((I1 69 0)).toNatClampNeg ∧ _
  refine ⟨h1.1, ?_⟩
  show mm_b _ _ _ _ _ [some (.ref 68), some (.ref 0), some (.ref 46), some (.ref 65), some (.int i), none, none] [.int (I1 68 ((i + (nI 1))).toNatClampNeg), .ref 46, .int r1] ((fl1, (n1 - x1), (n2 - y1), p1, q1, ad1), I1, J1)
  show vp_in (i + (nI 2)) ((I1 69 0)).toNatClampNeg ∧ _
  refine ⟨h1.2.1, ?_⟩
  show mm_b _ _ _ _ _ [some (.ref 68), some (.ref 0), some (.ref 46), some (.ref 65), some (.int i), none, none] [.int (I1 68 ((i + (nI 2))).toNatClampNeg), .int (I1 68 ((i + (nI 1))).toNatClampNeg), .ref 46, .int r1] ((fl1, (n1 - x1), (n2 - y1), p1, q1, ad1), I1, J1)
  obtain ⟨x2, y2, u2, w2, h2⟩ := h1.2.2
  show ∃ x y, x ≤ (n1 - x1) ∧ y ≤ (n2 - y1) ∧ mm_wc d 270 [.ref 46, .int (I1 68 ((i + (nI 1))).toNatClampNeg), .int (I1 68 ((i + (nI 2))).toNatClampNeg)] ((fl1, x, y, p1, q1, ad1), I1, J1) _
  refine ⟨x2, y2, u2, w2, mm_wcm h2 ?_⟩
  rintro v τ ⟨r2, fl2, z1, z2, p2, q2, ad2, I2, J2, rfl, rfl, h2⟩
  refine mm_r1' ?_
  show mm_b _ _ _ _ _ [some (.ref 68), some (.ref 0), some (.ref 46), some (.ref 65), some (.int i), none, none] [.int r2, .int r1] ((fl2, ((n1 - x1) - x2), ((n2 - y1) - y2), p2, q2, ad2), I2, J2)
  show (r1 = r2 → _) ∧ (¬ r1 = r2 → _)
  refine ⟨fun c0 => ?_, fun c0 => ?_⟩
  · exact (h2.1 c0)
  · show mm_b _ _ _ _ _ [some (.ref 68), some (.ref 0), some (.ref 46), some (.ref 65), some (.int i), none, none] [] ((fl2, ((n1 - x1) - x2), ((n2 - y1) - y2), p2, q2, ad2), I2, J2)
    show (((nI 0) : Int32) = 0 ∨ ((nI 0) : Int32) = 1) ∧ _
    refine ⟨(by decide), ?_⟩
    exact (h2.2 c0)
theorem lx_1137 {d : Nat} {i : Int32} {fl : Nat → Bool} {n1 n2 : Nat} {p q : Bool} {ad : Nat → Nat} {I : mmI} {J : mmJ} {Q : mmQ} (h : (vp_in (i + (nI 1)) ((I 69 0)).toNatClampNeg ∧ ∃ x1 y1, x1 ≤ n1 ∧ y1 ≤ n2 ∧ mm_wc d 146 [.ref 0, .int (I 68 ((i + (nI 1))).toNatClampNeg)] ((fl, x1, y1, p, q, ad), I, J) (fun v τ => ∃ r1 fl1 z1 z2 p1 q1 ad1 I1 J1, v = some (.int r1) ∧ τ = ((fl1, z1, z2, p1, q1, ad1), I1, J1) ∧ (vp_in (i + (nI 1)) ((I1 69 0)).toNatClampNeg ∧ ∃ x2 y2, x2 ≤ (n1 - x1) ∧ y2 ≤ (n2 - y1) ∧ mm_wc d 271 [.ref 46, .int (I1 68 ((i + (nI 1))).toNatClampNeg)] ((fl1, x2, y2, p1, q1, ad1), I1, J1) (fun v τ => ∃ r2 fl2 z1 z2 p2 q2 ad2 I2 J2, v = some (.int r2) ∧ τ = ((fl2, z1, z2, p2, q2, ad2), I2, J2) ∧ ((r1 = r2 → mm_w Q (mm_wc d) bk_law 1331 [some (.ref 68), some (.ref 0), some (.ref 46), some (.ref 65), some (.int i), none, none] [] ((fl2, ((n1 - x1) - x2), ((n2 - y1) - y2), p2, q2, ad2), I2, J2)) ∧ (¬ r1 = r2 → Q (some (.int (nI 0))) ((fl2, ((n1 - x1) - x2), ((n2 - y1) - y2), p2, q2, ad2), I2, J2)))))))) : mm_w Q (mm_wc d) bk_law 1137 [some (.ref 68), some (.ref 0), some (.ref 46), some (.ref 65), some (.int i), none, none] [] ((fl, n1, n2, p, q, ad), I, J) := by
  refine mm_go [23, 1331] 90 ?_
  show vp_in (i + (nI 1)) ((I 69 0)).toNatClampNeg ∧ _
  refine ⟨h.1, ?_⟩
  show mm_b _ _ _ _ _ [some (.ref 68), some (.ref 0), some (.ref 46), some (.ref 65), some (.int i), none, none] [.int (I 68 ((i + (nI 1))).toNatClampNeg), .ref 0] ((fl, n1, n2, p, q, ad), I, J)
  obtain ⟨x1, y1, u1, w1, h1⟩ := h.2
  show ∃ x y, x ≤ n1 ∧ y ≤ n2 ∧ mm_wc d 146 [.ref 0, .int (I 68 ((i + (nI 1))).toNatClampNeg)] ((fl, x, y, p, q, ad), I, J) _
  refine ⟨x1, y1, u1, w1, mm_wcm h1 ?_⟩
  rintro v τ ⟨r1, fl1, z1, z2, p1, q1, ad1, I1, J1, rfl, rfl, h1⟩
  refine mm_r1' ?_
  show mm_b _ _ _ _ _ [some (.ref 68), some (.ref 0), some (.ref 46), some (.ref 65), some (.int i), none, none] [.int r1] ((fl1, (n1 - x1), (n2 - y1), p1, q1, ad1), I1, J1)
  show vp_in (i + (nI 1)) ((I1 69 0)).toNatClampNeg ∧ _
  refine ⟨h1.1, ?_⟩
  show mm_b _ _ _ _ _ [some (.ref 68), some (.ref 0), some (.ref 46), some (.ref 65), some (.int i), none, none] [.int (I1 68 ((i + (nI 1))).toNatClampNeg), .ref 46, .int r1] ((fl1, (n1 - x1), (n2 - y1), p1, q1, ad1), I1, J1)
  obtain ⟨x2, y2, u2, w2, h2⟩ := h1.2
  show ∃ x y, x ≤ (n1 - x1) ∧ y ≤ (n2 - y1) ∧ mm_wc d 271 [.ref 46, .int (I1 68 ((i + (nI 1))).toNatClampNeg)] ((fl1, x, y, p1, q1, ad1), I1, J1) _
  refine ⟨x2, y2, u2, w2, mm_wcm h2 ?_⟩
  rintro v τ ⟨r2, fl2, z1, z2, p2, q2, ad2, I2, J2, rfl, rfl, h2⟩
  refine mm_r1' ?_
  show mm_b _ _ _ _ _ [some (.ref 68), some (.ref 0), some (.ref 46), some (.ref 65), some (.int i), none, none] [.int r2, .int r1] ((fl2, ((n1 - x1) - x2), ((n2 - y1) - y2), p2, q2, ad2), I2, J2)
  show (r1 = r2 → _) ∧ (¬ r1 = r2 → _)
  refine ⟨fun c0 => ?_, fun c0 => ?_⟩
  · exact (h2.1 c0)
  · show mm_b _ _ _ _ _ [some (.ref 68), some (.ref 0), some (.ref 46), some (.ref 65), some (.int i), none, none] [] ((fl2, ((n1 - x1) - x2), ((n2 - y1) - y2), p2, q2, ad2), I2, J2)
    show (((nI 0) : Int32) = 0 ∨ ((nI 0) : Int32) = 1) ∧ _
    refine ⟨(by decide), ?_⟩
    exact (h2.2 c0)
theorem lx_1162 {d : Nat} {i : Int32} {fl : Nat → Bool} {n1 n2 : Nat} {p q : Bool} {ad : Nat → Nat} {I : mmI} {J : mmJ} {Q : mmQ} (h : (vp_in (i + (nI 1)) ((I 69 0)).toNatClampNeg ∧ (vp_in (i + (nI 2)) ((I 69 0)).toNatClampNeg ∧ ∃ x1 y1, x1 ≤ n1 ∧ y1 ≤ n2 ∧ mm_wc d 147 [.ref 0, .int (I 68 ((i + (nI 1))).toNatClampNeg), .int (I 68 ((i + (nI 2))).toNatClampNeg)] ((fl, x1, y1, p, q, ad), I, J) (fun v τ => ∃ r1 fl1 z1 z2 p1 q1 ad1 I1 J1, v = some (.int r1) ∧ τ = ((fl1, z1, z2, p1, q1, ad1), I1, J1) ∧ (vp_in (i + (nI 1)) ((I1 69 0)).toNatClampNeg ∧ (vp_in (i + (nI 2)) ((I1 69 0)).toNatClampNeg ∧ ∃ x2 y2, x2 ≤ (n1 - x1) ∧ y2 ≤ (n2 - y1) ∧ mm_wc d 272 [.ref 46, .int (I1 68 ((i + (nI 1))).toNatClampNeg), .int (I1 68 ((i + (nI 2))).toNatClampNeg)] ((fl1, x2, y2, p1, q1, ad1), I1, J1) (fun v τ => ∃ r2 fl2 z1 z2 p2 q2 ad2 I2 J2, v = some (.int r2) ∧ τ = ((fl2, z1, z2, p2, q2, ad2), I2, J2) ∧ ((r1 = r2 → mm_w Q (mm_wc d) bk_law 1331 [some (.ref 68), some (.ref 0), some (.ref 46), some (.ref 65), some (.int i), none, none] [] ((fl2, ((n1 - x1) - x2), ((n2 - y1) - y2), p2, q2, ad2), I2, J2)) ∧ (¬ r1 = r2 → Q (some (.int (nI 0))) ((fl2, ((n1 - x1) - x2), ((n2 - y1) - y2), p2, q2, ad2), I2, J2)))))))))) : mm_w Q (mm_wc d) bk_law 1162 [some (.ref 68), some (.ref 0), some (.ref 46), some (.ref 65), some (.int i), none, none] [] ((fl, n1, n2, p, q, ad), I, J) := by
  refine mm_go [23, 1331] 90 ?_
  show vp_in (i + (nI 1)) ((I 69 0)).toNatClampNeg ∧ _
  refine ⟨h.1, ?_⟩
  show mm_b _ _ _ _ _ [some (.ref 68), some (.ref 0), some (.ref 46), some (.ref 65), some (.int i), none, none] [.int (I 68 ((i + (nI 1))).toNatClampNeg), .ref 0] ((fl, n1, n2, p, q, ad), I, J)
  show vp_in (i + (nI 2)) ((I 69 0)).toNatClampNeg ∧ _
  refine ⟨h.2.1, ?_⟩
  show mm_b _ _ _ _ _ [some (.ref 68), some (.ref 0), some (.ref 46), some (.ref 65), some (.int i), none, none] [.int (I 68 ((i + (nI 2))).toNatClampNeg), .int (I 68 ((i + (nI 1))).toNatClampNeg), .ref 0] ((fl, n1, n2, p, q, ad), I, J)
  obtain ⟨x1, y1, u1, w1, h1⟩ := h.2.2
  show ∃ x y, x ≤ n1 ∧ y ≤ n2 ∧ mm_wc d 147 [.ref 0, .int (I 68 ((i + (nI 1))).toNatClampNeg), .int (I 68 ((i + (nI 2))).toNatClampNeg)] ((fl, x, y, p, q, ad), I, J) _
  refine ⟨x1, y1, u1, w1, mm_wcm h1 ?_⟩
  rintro v τ ⟨r1, fl1, z1, z2, p1, q1, ad1, I1, J1, rfl, rfl, h1⟩
  refine mm_r1' ?_
  show mm_b _ _ _ _ _ [some (.ref 68), some (.ref 0), some (.ref 46), some (.ref 65), some (.int i), none, none] [.int r1] ((fl1, (n1 - x1), (n2 - y1), p1, q1, ad1), I1, J1)
  show vp_in (i + (nI 1)) ((I1 69 0)).toNatClampNeg ∧ _
  refine ⟨h1.1, ?_⟩
  show mm_b _ _ _ _ _ [some (.ref 68), some (.ref 0), some (.ref 46), some (.ref 65), some (.int i), none, none] [.int (I1 68 ((i + (nI 1))).toNatClampNeg), .ref 46, .int r1] ((fl1, (n1 - x1), (n2 - y1), p1, q1, ad1), I1, J1)
  show vp_in (i + (nI 2)) ((I1 69 0)).toNatClampNeg ∧ _
  refine ⟨h1.2.1, ?_⟩
  show mm_b _ _ _ _ _ [some (.ref 68), some (.ref 0), some (.ref 46), some (.ref 65), some (.int i), none, none] [.int (I1 68 ((i + (nI 2))).toNatClampNeg), .int (I1 68 ((i + (nI 1))).toNatClampNeg), .ref 46, .int r1] ((fl1, (n1 - x1), (n2 - y1), p1, q1, ad1), I1, J1)
  obtain ⟨x2, y2, u2, w2, h2⟩ := h1.2.2
  show ∃ x y, x ≤ (n1 - x1) ∧ y ≤ (n2 - y1) ∧ mm_wc d 272 [.ref 46, .int (I1 68 ((i + (nI 1))).toNatClampNeg), .int (I1 68 ((i + (nI 2))).toNatClampNeg)] ((fl1, x, y, p1, q1, ad1), I1, J1) _
  refine ⟨x2, y2, u2, w2, mm_wcm h2 ?_⟩
  rintro v τ ⟨r2, fl2, z1, z2, p2, q2, ad2, I2, J2, rfl, rfl, h2⟩
  refine mm_r1' ?_
  show mm_b _ _ _ _ _ [some (.ref 68), some (.ref 0), some (.ref 46), some (.ref 65), some (.int i), none, none] [.int r2, .int r1] ((fl2, ((n1 - x1) - x2), ((n2 - y1) - y2), p2, q2, ad2), I2, J2)
  show (r1 = r2 → _) ∧ (¬ r1 = r2 → _)
  refine ⟨fun c0 => ?_, fun c0 => ?_⟩
  · exact (h2.1 c0)
  · show mm_b _ _ _ _ _ [some (.ref 68), some (.ref 0), some (.ref 46), some (.ref 65), some (.int i), none, none] [] ((fl2, ((n1 - x1) - x2), ((n2 - y1) - y2), p2, q2, ad2), I2, J2)
    show (((nI 0) : Int32) = 0 ∨ ((nI 0) : Int32) = 1) ∧ _
    refine ⟨(by decide), ?_⟩
    exact (h2.2 c0)
theorem lx_1199 {d : Nat} {i : Int32} {fl : Nat → Bool} {n1 n2 : Nat} {p q : Bool} {ad : Nat → Nat} {I : mmI} {J : mmJ} {Q : mmQ} (h : ∃ x1 y1, x1 ≤ n1 ∧ y1 ≤ n2 ∧ mm_wc d 148 [.ref 0] ((fl, x1, y1, p, q, ad), I, J) (fun v τ => ∃ r1 fl1 z1 z2 p1 q1 ad1 I1 J1, v = some (.int r1) ∧ τ = ((fl1, z1, z2, p1, q1, ad1), I1, J1) ∧ ∃ x2 y2, x2 ≤ (n1 - x1) ∧ y2 ≤ (n2 - y1) ∧ mm_wc d 273 [.ref 46] ((fl1, x2, y2, p1, q1, ad1), I1, J1) (fun v τ => ∃ r2 fl2 z1 z2 p2 q2 ad2 I2 J2, v = some (.int r2) ∧ τ = ((fl2, z1, z2, p2, q2, ad2), I2, J2) ∧ ((r1 = r2 → mm_w Q (mm_wc d) bk_law 1331 [some (.ref 68), some (.ref 0), some (.ref 46), some (.ref 65), some (.int i), none, none] [] ((fl2, ((n1 - x1) - x2), ((n2 - y1) - y2), p2, q2, ad2), I2, J2)) ∧ (¬ r1 = r2 → Q (some (.int (nI 0))) ((fl2, ((n1 - x1) - x2), ((n2 - y1) - y2), p2, q2, ad2), I2, J2)))))) : mm_w Q (mm_wc d) bk_law 1199 [some (.ref 68), some (.ref 0), some (.ref 46), some (.ref 65), some (.int i), none, none] [] ((fl, n1, n2, p, q, ad), I, J) := by
  refine mm_go [23, 1331] 90 ?_
  obtain ⟨x1, y1, u1, w1, h1⟩ := h
  show ∃ x y, x ≤ n1 ∧ y ≤ n2 ∧ mm_wc d 148 [.ref 0] ((fl, x, y, p, q, ad), I, J) _
  refine ⟨x1, y1, u1, w1, mm_wcm h1 ?_⟩
  rintro v τ ⟨r1, fl1, z1, z2, p1, q1, ad1, I1, J1, rfl, rfl, h1⟩
  refine mm_r1' ?_
  show mm_b _ _ _ _ _ [some (.ref 68), some (.ref 0), some (.ref 46), some (.ref 65), some (.int i), none, none] [.int r1] ((fl1, (n1 - x1), (n2 - y1), p1, q1, ad1), I1, J1)
  obtain ⟨x2, y2, u2, w2, h2⟩ := h1
  show ∃ x y, x ≤ (n1 - x1) ∧ y ≤ (n2 - y1) ∧ mm_wc d 273 [.ref 46] ((fl1, x, y, p1, q1, ad1), I1, J1) _
  refine ⟨x2, y2, u2, w2, mm_wcm h2 ?_⟩
  rintro v τ ⟨r2, fl2, z1, z2, p2, q2, ad2, I2, J2, rfl, rfl, h2⟩
  refine mm_r1' ?_
  show mm_b _ _ _ _ _ [some (.ref 68), some (.ref 0), some (.ref 46), some (.ref 65), some (.int i), none, none] [.int r2, .int r1] ((fl2, ((n1 - x1) - x2), ((n2 - y1) - y2), p2, q2, ad2), I2, J2)
  show (r1 = r2 → _) ∧ (¬ r1 = r2 → _)
  refine ⟨fun c0 => ?_, fun c0 => ?_⟩
  · exact (h2.1 c0)
  · show mm_b _ _ _ _ _ [some (.ref 68), some (.ref 0), some (.ref 46), some (.ref 65), some (.int i), none, none] [] ((fl2, ((n1 - x1) - x2), ((n2 - y1) - y2), p2, q2, ad2), I2, J2)
    show (((nI 0) : Int32) = 0 ∨ ((nI 0) : Int32) = 1) ∧ _
    refine ⟨(by decide), ?_⟩
    exact (h2.2 c0)
theorem lx_1212 {d : Nat} {i : Int32} {fl : Nat → Bool} {n1 n2 : Nat} {p q : Bool} {ad : Nat → Nat} {I : mmI} {J : mmJ} {Q : mmQ} (h : (vp_in (i + (nI 1)) ((I 69 0)).toNatClampNeg ∧ ∃ x1 y1, x1 ≤ n1 ∧ y1 ≤ n2 ∧ mm_wc d 149 [.ref 0, .int (I 68 ((i + (nI 1))).toNatClampNeg)] ((fl, x1, y1, p, q, ad), I, J) (fun v τ => ∃ r1 fl1 z1 z2 p1 q1 ad1 I1 J1, v = some (.int r1) ∧ τ = ((fl1, z1, z2, p1, q1, ad1), I1, J1) ∧ (vp_in (i + (nI 1)) ((I1 69 0)).toNatClampNeg ∧ ∃ x2 y2, x2 ≤ (n1 - x1) ∧ y2 ≤ (n2 - y1) ∧ mm_wc d 274 [.ref 46, .int (I1 68 ((i + (nI 1))).toNatClampNeg)] ((fl1, x2, y2, p1, q1, ad1), I1, J1) (fun v τ => ∃ r2 fl2 z1 z2 p2 q2 ad2 I2 J2, v = some (.int r2) ∧ τ = ((fl2, z1, z2, p2, q2, ad2), I2, J2) ∧ ((r1 = r2 → mm_w Q (mm_wc d) bk_law 1331 [some (.ref 68), some (.ref 0), some (.ref 46), some (.ref 65), some (.int i), none, none] [] ((fl2, ((n1 - x1) - x2), ((n2 - y1) - y2), p2, q2, ad2), I2, J2)) ∧ (¬ r1 = r2 → Q (some (.int (nI 0))) ((fl2, ((n1 - x1) - x2), ((n2 - y1) - y2), p2, q2, ad2), I2, J2)))))))) : mm_w Q (mm_wc d) bk_law 1212 [some (.ref 68), some (.ref 0), some (.ref 46), some (.ref 65), some (.int i), none, none] [] ((fl, n1, n2, p, q, ad), I, J) := by
  refine mm_go [23, 1331] 90 ?_
  show vp_in (i + (nI 1)) ((I 69 0)).toNatClampNeg ∧ _
  refine ⟨h.1, ?_⟩
  show mm_b _ _ _ _ _ [some (.ref 68), some (.ref 0), some (.ref 46), some (.ref 65), some (.int i), none, none] [.int (I 68 ((i + (nI 1))).toNatClampNeg), .ref 0] ((fl, n1, n2, p, q, ad), I, J)
  obtain ⟨x1, y1, u1, w1, h1⟩ := h.2
  show ∃ x y, x ≤ n1 ∧ y ≤ n2 ∧ mm_wc d 149 [.ref 0, .int (I 68 ((i + (nI 1))).toNatClampNeg)] ((fl, x, y, p, q, ad), I, J) _
  refine ⟨x1, y1, u1, w1, mm_wcm h1 ?_⟩
  rintro v τ ⟨r1, fl1, z1, z2, p1, q1, ad1, I1, J1, rfl, rfl, h1⟩
  refine mm_r1' ?_
  show mm_b _ _ _ _ _ [some (.ref 68), some (.ref 0), some (.ref 46), some (.ref 65), some (.int i), none, none] [.int r1] ((fl1, (n1 - x1), (n2 - y1), p1, q1, ad1), I1, J1)
  show vp_in (i + (nI 1)) ((I1 69 0)).toNatClampNeg ∧ _
  refine ⟨h1.1, ?_⟩
  show mm_b _ _ _ _ _ [some (.ref 68), some (.ref 0), some (.ref 46), some (.ref 65), some (.int i), none, none] [.int (I1 68 ((i + (nI 1))).toNatClampNeg), .ref 46, .int r1] ((fl1, (n1 - x1), (n2 - y1), p1, q1, ad1), I1, J1)
  obtain ⟨x2, y2, u2, w2, h2⟩ := h1.2
  show ∃ x y, x ≤ (n1 - x1) ∧ y ≤ (n2 - y1) ∧ mm_wc d 274 [.ref 46, .int (I1 68 ((i + (nI 1))).toNatClampNeg)] ((fl1, x, y, p1, q1, ad1), I1, J1) _
  refine ⟨x2, y2, u2, w2, mm_wcm h2 ?_⟩
  rintro v τ ⟨r2, fl2, z1, z2, p2, q2, ad2, I2, J2, rfl, rfl, h2⟩
  refine mm_r1' ?_
  show mm_b _ _ _ _ _ [some (.ref 68), some (.ref 0), some (.ref 46), some (.ref 65), some (.int i), none, none] [.int r2, .int r1] ((fl2, ((n1 - x1) - x2), ((n2 - y1) - y2), p2, q2, ad2), I2, J2)
  show (r1 = r2 → _) ∧ (¬ r1 = r2 → _)
  refine ⟨fun c0 => ?_, fun c0 => ?_⟩
  · exact (h2.1 c0)
  · show mm_b _ _ _ _ _ [some (.ref 68), some (.ref 0), some (.ref 46), some (.ref 65), some (.int i), none, none] [] ((fl2, ((n1 - x1) - x2), ((n2 - y1) - y2), p2, q2, ad2), I2, J2)
    show (((nI 0) : Int32) = 0 ∨ ((nI 0) : Int32) = 1) ∧ _
    refine ⟨(by decide), ?_⟩
    exact (h2.2 c0)
theorem lx_1237 {d : Nat} {i : Int32} {fl : Nat → Bool} {n1 n2 : Nat} {p q : Bool} {ad : Nat → Nat} {I : mmI} {J : mmJ} {Q : mmQ} (h : (vp_in (i + (nI 1)) ((I 69 0)).toNatClampNeg ∧ ∃ x1 y1, x1 ≤ n1 ∧ y1 ≤ n2 ∧ mm_wc d 1013 [.ref 0, .int (I 68 ((i + (nI 1))).toNatClampNeg), .ref 65] ((fl, x1, y1, p, q, ad), I, J) (fun v τ => ∃ r1 fl1 z1 z2 p1 q1 ad1 I1 J1, v = some (.int r1) ∧ τ = ((fl1, z1, z2, p1, q1, ad1), I1, J1) ∧ (vp_in (i + (nI 1)) ((I1 69 0)).toNatClampNeg ∧ ∃ x2 y2, x2 ≤ (n1 - x1) ∧ y2 ≤ (n2 - y1) ∧ mm_wc d 275 [.ref 46, .int (I1 68 ((i + (nI 1))).toNatClampNeg)] ((fl1, x2, y2, p1, q1, ad1), I1, J1) (fun v τ => ∃ r2 fl2 z1 z2 p2 q2 ad2 I2 J2, v = some (.int r2) ∧ τ = ((fl2, z1, z2, p2, q2, ad2), I2, J2) ∧ ∃ x3 y3, x3 ≤ ((n1 - x1) - x2) ∧ y3 ≤ ((n2 - y1) - y2) ∧ mm_wc d 165 [.ref 46] ((fl2, x3, y3, p2, q2, ad2), I2, J2) (fun v τ => ∃ r3 fl3 z1 z2 p3 q3 ad3 I3 J3, v = some (.int r3) ∧ τ = ((fl3, z1, z2, p3, q3, ad3), I3, J3) ∧ ((r3 = r1 → ((¬ r1 = (nI 0) → mm_w Q (mm_wc d) bk_law 1331 [some (.ref 68), some (.ref 0), some (.ref 46), some (.ref 65), some (.int i), none, none] [] ((fl3, (((n1 - x1) - x2) - x3), (((n2 - y1) - y2) - y3), p3, q3, ad3), I3, J3)) ∧ (r1 = (nI 0) → (((lg_cmp (J3 65 0) (Int32.toInt64 r2)) = (nI 0) → mm_w Q (mm_wc d) bk_law 1331 [some (.ref 68), some (.ref 0), some (.ref 46), some (.ref 65), some (.int i), none, none] [] ((fl3, (((n1 - x1) - x2) - x3), (((n2 - y1) - y2) - y3), p3, q3, ad3), I3, J3)) ∧ (¬ (lg_cmp (J3 65 0) (Int32.toInt64 r2)) = (nI 0) → Q (some (.int (nI 0))) ((fl3, (((n1 - x1) - x2) - x3), (((n2 - y1) - y2) - y3), p3, q3, ad3), I3, J3)))))) ∧ (¬ r3 = r1 → Q (some (.int (nI 0))) ((fl3, (((n1 - x1) - x2) - x3), (((n2 - y1) - y2) - y3), p3, q3, ad3), I3, J3))))))))) : mm_w Q (mm_wc d) bk_law 1237 [some (.ref 68), some (.ref 0), some (.ref 46), some (.ref 65), some (.int i), none, none] [] ((fl, n1, n2, p, q, ad), I, J) := by
  refine mm_go [23, 1331] 90 ?_
  show vp_in (i + (nI 1)) ((I 69 0)).toNatClampNeg ∧ _
  refine ⟨h.1, ?_⟩
  show mm_b _ _ _ _ _ [some (.ref 68), some (.ref 0), some (.ref 46), some (.ref 65), some (.int i), none, none] [.int (I 68 ((i + (nI 1))).toNatClampNeg), .ref 0] ((fl, n1, n2, p, q, ad), I, J)
  obtain ⟨x1, y1, u1, w1, h1⟩ := h.2
  show ∃ x y, x ≤ n1 ∧ y ≤ n2 ∧ mm_wc d 1013 [.ref 0, .int (I 68 ((i + (nI 1))).toNatClampNeg), .ref 65] ((fl, x, y, p, q, ad), I, J) _
  refine ⟨x1, y1, u1, w1, mm_wcm h1 ?_⟩
  rintro v τ ⟨r1, fl1, z1, z2, p1, q1, ad1, I1, J1, rfl, rfl, h1⟩
  refine mm_r1' ?_
  show mm_b _ _ _ _ _ [some (.ref 68), some (.ref 0), some (.ref 46), some (.ref 65), some (.int i), none, none] [.int r1] ((fl1, (n1 - x1), (n2 - y1), p1, q1, ad1), I1, J1)
  show vp_in (i + (nI 1)) ((I1 69 0)).toNatClampNeg ∧ _
  refine ⟨h1.1, ?_⟩
  show mm_b _ _ _ _ _ [some (.ref 68), some (.ref 0), some (.ref 46), some (.ref 65), some (.int i), some (.int r1), none] [.int (I1 68 ((i + (nI 1))).toNatClampNeg), .ref 46] ((fl1, (n1 - x1), (n2 - y1), p1, q1, ad1), I1, J1)
  obtain ⟨x2, y2, u2, w2, h2⟩ := h1.2
  show ∃ x y, x ≤ (n1 - x1) ∧ y ≤ (n2 - y1) ∧ mm_wc d 275 [.ref 46, .int (I1 68 ((i + (nI 1))).toNatClampNeg)] ((fl1, x, y, p1, q1, ad1), I1, J1) _
  refine ⟨x2, y2, u2, w2, mm_wcm h2 ?_⟩
  rintro v τ ⟨r2, fl2, z1, z2, p2, q2, ad2, I2, J2, rfl, rfl, h2⟩
  refine mm_r1' ?_
  show mm_b _ _ _ _ _ [some (.ref 68), some (.ref 0), some (.ref 46), some (.ref 65), some (.int i), some (.int r1), none] [.int r2] ((fl2, ((n1 - x1) - x2), ((n2 - y1) - y2), p2, q2, ad2), I2, J2)
  obtain ⟨x3, y3, u3, w3, h3⟩ := h2
  show ∃ x y, x ≤ ((n1 - x1) - x2) ∧ y ≤ ((n2 - y1) - y2) ∧ mm_wc d 165 [.ref 46] ((fl2, x, y, p2, q2, ad2), I2, J2) _
  refine ⟨x3, y3, u3, w3, mm_wcm h3 ?_⟩
  rintro v τ ⟨r3, fl3, z1, z2, p3, q3, ad3, I3, J3, rfl, rfl, h3⟩
  refine mm_r1' ?_
  show mm_b _ _ _ _ _ [some (.ref 68), some (.ref 0), some (.ref 46), some (.ref 65), some (.int i), some (.int r1), some (.int r2)] [.int r3] ((fl3, (((n1 - x1) - x2) - x3), (((n2 - y1) - y2) - y3), p3, q3, ad3), I3, J3)
  show (r3 = r1 → _) ∧ (¬ r3 = r1 → _)
  refine ⟨fun c0 => ?_, fun c0 => ?_⟩
  · show mm_u _ _ _ _ _ _ [some (.ref 68), some (.ref 0), some (.ref 46), some (.ref 65), some (.int i), some (.int r1), some (.int r2)] [] ((fl3, (((n1 - x1) - x2) - x3), (((n2 - y1) - y2) - y3), p3, q3, ad3), I3, J3)
    show (¬ r1 = (nI 0) → _) ∧ (r1 = (nI 0) → _)
    refine ⟨fun c1 => ?_, fun c1 => ?_⟩
    · exact ((h3.1 c0).1 c1)
    · show mm_b _ _ _ _ _ [some (.ref 68), some (.ref 0), some (.ref 46), some (.ref 65), some (.int i), some (.int r1), some (.int r2)] [] ((fl3, (((n1 - x1) - x2) - x3), (((n2 - y1) - y2) - y3), p3, q3, ad3), I3, J3)
      show (vp_in (nI 0) 1) ∧ _
      refine ⟨(mm_inl (by decide)), ?_⟩
      show mm_b _ _ _ _ _ [some (.ref 68), some (.ref 0), some (.ref 46), some (.ref 65), some (.int i), some (.int r1), some (.int r2)] [.long (J3 65 0)] ((fl3, (((n1 - x1) - x2) - x3), (((n2 - y1) - y2) - y3), p3, q3, ad3), I3, J3)
      show ((lg_cmp (J3 65 0) (Int32.toInt64 r2)) = (nI 0) → _) ∧ (¬ (lg_cmp (J3 65 0) (Int32.toInt64 r2)) = (nI 0) → _)
      refine ⟨fun c2 => ?_, fun c2 => ?_⟩
      · exact (((h3.1 c0).2 c1).1 c2)
      · show mm_b _ _ _ _ _ [some (.ref 68), some (.ref 0), some (.ref 46), some (.ref 65), some (.int i), some (.int r1), some (.int r2)] [] ((fl3, (((n1 - x1) - x2) - x3), (((n2 - y1) - y2) - y3), p3, q3, ad3), I3, J3)
        show (((nI 0) : Int32) = 0 ∨ ((nI 0) : Int32) = 1) ∧ _
        refine ⟨(by decide), ?_⟩
        exact (((h3.1 c0).2 c1).2 c2)
  · show mm_b _ _ _ _ _ [some (.ref 68), some (.ref 0), some (.ref 46), some (.ref 65), some (.int i), some (.int r1), some (.int r2)] [] ((fl3, (((n1 - x1) - x2) - x3), (((n2 - y1) - y2) - y3), p3, q3, ad3), I3, J3)
    show (((nI 0) : Int32) = 0 ∨ ((nI 0) : Int32) = 1) ∧ _
    refine ⟨(by decide), ?_⟩
    exact (h3.2 c0)
theorem lx_1293 {d : Nat} {i : Int32} {fl : Nat → Bool} {n1 n2 : Nat} {p q : Bool} {ad : Nat → Nat} {I : mmI} {J : mmJ} {Q : mmQ} (h : (vp_in (i + (nI 1)) ((I 69 0)).toNatClampNeg ∧ ∃ x1 y1, x1 ≤ n1 ∧ y1 ≤ n2 ∧ mm_wc d 150 [.ref 0, .int (I 68 ((i + (nI 1))).toNatClampNeg)] ((fl, x1, y1, p, q, ad), I, J) (fun v τ => ∃ r1 fl1 z1 z2 p1 q1 ad1 I1 J1, v = some (.int r1) ∧ τ = ((fl1, z1, z2, p1, q1, ad1), I1, J1) ∧ (vp_in (i + (nI 1)) ((I1 69 0)).toNatClampNeg ∧ ∃ x2 y2, x2 ≤ (n1 - x1) ∧ y2 ≤ (n2 - y1) ∧ mm_wc d 276 [.ref 46, .int (I1 68 ((i + (nI 1))).toNatClampNeg)] ((fl1, x2, y2, p1, q1, ad1), I1, J1) (fun v τ => ∃ r2 fl2 z1 z2 p2 q2 ad2 I2 J2, v = some (.int r2) ∧ τ = ((fl2, z1, z2, p2, q2, ad2), I2, J2) ∧ ((r1 = r2 → mm_w Q (mm_wc d) bk_law 1331 [some (.ref 68), some (.ref 0), some (.ref 46), some (.ref 65), some (.int i), none, none] [] ((fl2, ((n1 - x1) - x2), ((n2 - y1) - y2), p2, q2, ad2), I2, J2)) ∧ (¬ r1 = r2 → Q (some (.int (nI 0))) ((fl2, ((n1 - x1) - x2), ((n2 - y1) - y2), p2, q2, ad2), I2, J2)))))))) : mm_w Q (mm_wc d) bk_law 1293 [some (.ref 68), some (.ref 0), some (.ref 46), some (.ref 65), some (.int i), none, none] [] ((fl, n1, n2, p, q, ad), I, J) := by
  refine mm_go [23, 1331] 90 ?_
  show vp_in (i + (nI 1)) ((I 69 0)).toNatClampNeg ∧ _
  refine ⟨h.1, ?_⟩
  show mm_b _ _ _ _ _ [some (.ref 68), some (.ref 0), some (.ref 46), some (.ref 65), some (.int i), none, none] [.int (I 68 ((i + (nI 1))).toNatClampNeg), .ref 0] ((fl, n1, n2, p, q, ad), I, J)
  obtain ⟨x1, y1, u1, w1, h1⟩ := h.2
  show ∃ x y, x ≤ n1 ∧ y ≤ n2 ∧ mm_wc d 150 [.ref 0, .int (I 68 ((i + (nI 1))).toNatClampNeg)] ((fl, x, y, p, q, ad), I, J) _
  refine ⟨x1, y1, u1, w1, mm_wcm h1 ?_⟩
  rintro v τ ⟨r1, fl1, z1, z2, p1, q1, ad1, I1, J1, rfl, rfl, h1⟩
  refine mm_r1' ?_
  show mm_b _ _ _ _ _ [some (.ref 68), some (.ref 0), some (.ref 46), some (.ref 65), some (.int i), none, none] [.int r1] ((fl1, (n1 - x1), (n2 - y1), p1, q1, ad1), I1, J1)
  show vp_in (i + (nI 1)) ((I1 69 0)).toNatClampNeg ∧ _
  refine ⟨h1.1, ?_⟩
  show mm_b _ _ _ _ _ [some (.ref 68), some (.ref 0), some (.ref 46), some (.ref 65), some (.int i), none, none] [.int (I1 68 ((i + (nI 1))).toNatClampNeg), .ref 46, .int r1] ((fl1, (n1 - x1), (n2 - y1), p1, q1, ad1), I1, J1)
  obtain ⟨x2, y2, u2, w2, h2⟩ := h1.2
  show ∃ x y, x ≤ (n1 - x1) ∧ y ≤ (n2 - y1) ∧ mm_wc d 276 [.ref 46, .int (I1 68 ((i + (nI 1))).toNatClampNeg)] ((fl1, x, y, p1, q1, ad1), I1, J1) _
  refine ⟨x2, y2, u2, w2, mm_wcm h2 ?_⟩
  rintro v τ ⟨r2, fl2, z1, z2, p2, q2, ad2, I2, J2, rfl, rfl, h2⟩
  refine mm_r1' ?_
  show mm_b _ _ _ _ _ [some (.ref 68), some (.ref 0), some (.ref 46), some (.ref 65), some (.int i), none, none] [.int r2, .int r1] ((fl2, ((n1 - x1) - x2), ((n2 - y1) - y2), p2, q2, ad2), I2, J2)
  show (r1 = r2 → _) ∧ (¬ r1 = r2 → _)
  refine ⟨fun c0 => ?_, fun c0 => ?_⟩
  · exact (h2.1 c0)
  · show mm_b _ _ _ _ _ [some (.ref 68), some (.ref 0), some (.ref 46), some (.ref 65), some (.int i), none, none] [] ((fl2, ((n1 - x1) - x2), ((n2 - y1) - y2), p2, q2, ad2), I2, J2)
    show (((nI 0) : Int32) = 0 ∨ ((nI 0) : Int32) = 1) ∧ _
    refine ⟨(by decide), ?_⟩
    exact (h2.2 c0)
theorem lx_1318 {d : Nat} {i : Int32} {fl : Nat → Bool} {n1 n2 : Nat} {p q : Bool} {ad : Nat → Nat} {I : mmI} {J : mmJ} {Q : mmQ} (h : ∃ x1 y1, x1 ≤ n1 ∧ y1 ≤ n2 ∧ mm_wc d 151 [.ref 0] ((fl, x1, y1, p, q, ad), I, J) (fun v τ => ∃ r1 fl1 z1 z2 p1 q1 ad1 I1 J1, v = some (.int r1) ∧ τ = ((fl1, z1, z2, p1, q1, ad1), I1, J1) ∧ ∃ x2 y2, x2 ≤ (n1 - x1) ∧ y2 ≤ (n2 - y1) ∧ mm_wc d 277 [.ref 46] ((fl1, x2, y2, p1, q1, ad1), I1, J1) (fun v τ => ∃ r2 fl2 z1 z2 p2 q2 ad2 I2 J2, v = some (.int r2) ∧ τ = ((fl2, z1, z2, p2, q2, ad2), I2, J2) ∧ ((r1 = r2 → mm_w Q (mm_wc d) bk_law 1331 [some (.ref 68), some (.ref 0), some (.ref 46), some (.ref 65), some (.int i), none, none] [] ((fl2, ((n1 - x1) - x2), ((n2 - y1) - y2), p2, q2, ad2), I2, J2)) ∧ (¬ r1 = r2 → Q (some (.int (nI 0))) ((fl2, ((n1 - x1) - x2), ((n2 - y1) - y2), p2, q2, ad2), I2, J2)))))) : mm_w Q (mm_wc d) bk_law 1318 [some (.ref 68), some (.ref 0), some (.ref 46), some (.ref 65), some (.int i), none, none] [] ((fl, n1, n2, p, q, ad), I, J) := by
  refine mm_go [23, 1331] 90 ?_
  obtain ⟨x1, y1, u1, w1, h1⟩ := h
  show ∃ x y, x ≤ n1 ∧ y ≤ n2 ∧ mm_wc d 151 [.ref 0] ((fl, x, y, p, q, ad), I, J) _
  refine ⟨x1, y1, u1, w1, mm_wcm h1 ?_⟩
  rintro v τ ⟨r1, fl1, z1, z2, p1, q1, ad1, I1, J1, rfl, rfl, h1⟩
  refine mm_r1' ?_
  show mm_b _ _ _ _ _ [some (.ref 68), some (.ref 0), some (.ref 46), some (.ref 65), some (.int i), none, none] [.int r1] ((fl1, (n1 - x1), (n2 - y1), p1, q1, ad1), I1, J1)
  obtain ⟨x2, y2, u2, w2, h2⟩ := h1
  show ∃ x y, x ≤ (n1 - x1) ∧ y ≤ (n2 - y1) ∧ mm_wc d 277 [.ref 46] ((fl1, x, y, p1, q1, ad1), I1, J1) _
  refine ⟨x2, y2, u2, w2, mm_wcm h2 ?_⟩
  rintro v τ ⟨r2, fl2, z1, z2, p2, q2, ad2, I2, J2, rfl, rfl, h2⟩
  refine mm_r1' ?_
  show mm_b _ _ _ _ _ [some (.ref 68), some (.ref 0), some (.ref 46), some (.ref 65), some (.int i), none, none] [.int r2, .int r1] ((fl2, ((n1 - x1) - x2), ((n2 - y1) - y2), p2, q2, ad2), I2, J2)
  show (r1 = r2 → _) ∧ (¬ r1 = r2 → _)
  refine ⟨fun c0 => ?_, fun c0 => ?_⟩
  · exact (h2.1 c0)
  · show mm_b _ _ _ _ _ [some (.ref 68), some (.ref 0), some (.ref 46), some (.ref 65), some (.int i), none, none] [] ((fl2, ((n1 - x1) - x2), ((n2 - y1) - y2), p2, q2, ad2), I2, J2)
    show (((nI 0) : Int32) = 0 ∨ ((nI 0) : Int32) = 1) ∧ _
    refine ⟨(by decide), ?_⟩
    exact (h2.2 c0)
