/-! reading: the class's lines (3) -/
section SE
variable {d n1 n2 : Nat} {fl : Nat → Bool} {p q : Bool} {ad : Nat → Nat} {I : mmI} {J : mmJ} {Q : mmQ} {b nc D : Nat → Nat} {N a : Nat} {R : zE}
theorem ct_66 (h : cTk b N a I J) (hD : cDr q D nc I J) (ho : okD D nc) (e : (if D 6 < 4 then persF b N (nx b N a) D nc else .error (5, a)) = R) (k1 : ∀ I' J', frD q I I' → cEn b N q R I' J' → Q (some (.int (nI 1))) ((fl, n1, n2, p, q, ad), I', J')) (k0 : ∀ I' J', frD q I I' → cFl R I' → Q (some (.int (nI 0))) ((fl, n1, n2, p, q, ad), I', J')) : mm_wc (d + 5) 66 [.ref 1] ((fl, n1, n2, p, q, ad), I, J) Q := by
  obtain ⟨hK, sl, hN⟩ := hD
  have b3 : D 3 ≤ 10 := ho.2.2.2.2.1
  have b4 : D 4 ≤ 5 := ho.2.2.2.2.2.1
  have b5 : D 5 ≤ 4 := ho.2.2.2.2.2.2.1
  have b6 : D 6 ≤ 4 := ho.2.2.2.2.2.2.2.1
  have hn6 := ho.2.2.2.2.2.2.2.2.2.2.2.2.2.2.2.2.2.2.2.2.2.1
  obtain ⟨m, a3, a4, a5, a6, a7, a8, a10, a11, r2, r3, r4, r6, r7, r9, r10, r11, r12, sh⟩ := id hK
  refine fx_66 ?_
  rw [a6, z_lt (by omega) (by decide), z_ix (by omega)]
  refine ⟨fun d6 => ?_, fun d6 => ct_60 h (by decide) (by decide) (fun I' f' h' => ⟨_, _, _, rfl, rfl, .inl rfl, k0 I' J (tkS_D f') (by rw [if_neg d6] at e; rw [← e]; exact h')⟩)⟩
  rw [if_pos d6] at e
  unfold persF at e
  have h0 : nc (19 + D 6) = 0 := by
    by_cases z : nc (19 + D 6) = 0
    · exact z
    · exact absurd ((hn6 (D 6) (by omega)).mp z) (by omega)
  refine ct_77n h (fun I1 J1 f1 j1 h1 => ⟨_, _, rfl, rfl, ct_70 (so := 2) (n := 19 + D 6) (by omega) (by omega) h0 (by decide) (fun z => by omega) (fun _ => by decide) h1 (cNs_cs hN f1 j1) e (fun I2 J2 sl2 f2 h2 n2 e2 => ⟨_, _, _, rfl, rfl, fun z => absurd z n10, fun _ => ?_⟩) (fun I2 f2 h2 => ⟨_, _, _, rfl, rfl, fun _ => k0 I2 _ ((aS_D f1).tr f2.D) h2, fun z => absurd rfl z⟩)⟩)
  have F2 : frD q I I2 := (aS_D f1).tr f2.D
  refine ct_74_reach h2 e2 (fun I3 J3 f3 j3 h3 e3 => ⟨_, _, _, rfl, rfl, fun z => absurd z n10, fun _ => ?_⟩) (fun I3 f3 h3 => ⟨_, _, _, rfl, rfl, fun _ => k0 I3 _ (F2.tr (tkS_D f3)) h3, fun z => absurd rfl z⟩)
  have F3 := F2.tr (tkS_D f3)
  refine ct_75 (by decide) (by decide) h3 e3 (fun I4 J4 f4 j4 h4 v4 l4 x4 e4 => ⟨_, _, _, rfl, rfl, fun _ => ⟨z_in (by omega) (by decide), ?_⟩, fun z => absurd z n10⟩) (fun I4 f4 h4 => ⟨_, _, _, rfl, rfl, fun z => absurd rfl z, fun _ => k0 I4 _ (F3.tr (tkS_D f4)) h4⟩)
  have F4 : frD q I (mm_up I4 (mm_ck q 11) (D 6) (I4 1 8)) := (F3.tr (tkS_D f4)).up (by omega)
  refine ct_74_spread h4.ck e4 (fun I5 J5 f5 j5 h5 e5 => ⟨_, _, _, rfl, rfl, fun z => absurd z n10, fun _ => ?_⟩) (fun I5 f5 h5 => ⟨_, _, _, rfl, rfl, fun _ => k0 I5 _ (F4.tr (tkS_D f5)) h5, fun z => absurd rfl z⟩)
  have F5 := F4.tr (tkS_D f5)
  refine ct_75 (by decide) (by decide) h5 e5 (fun I6 J6 f6 j6 h6 v6 l6 x6 e6 => ⟨_, _, _, rfl, rfl, fun _ => ⟨z_in (by omega) (by decide), ?_⟩, fun z => absurd z n10⟩) (fun I6 f6 h6 => ⟨_, _, _, rfl, rfl, fun z => absurd rfl z, fun _ => k0 I6 _ (F5.tr (tkS_D f6)) h6⟩)
  have y6 : I6 (mm_ck q 0) 6 = nI (D 6) := by rw [f6.ck rfl q (by decide), f5.ck rfl q (by decide), up_c (ck_ne (by decide)), f4.ck rfl q (by decide), f3.ck rfl q (by decide), f2.ck rfl q (by decide), f1.ck rfl q (by decide)]; exact a6
  rw [y6, z_add, v6]
  refine k1 _ J6 (((F5.tr (tkS_D f6)).up (by omega)).up (by omega)) ⟨_, _, _, e6.symm, h6.ck.ck, ?_, sl2, ?_⟩
  · generalize tv b N (nx b N (nx b N (nx b N a))) = v at *
    generalize tv b N (nx b N (nx b N (nx b N (nx b N (nx b N a))))) = w at *
    have g : ∀ j k, j < 14 → ¬ (j = 0 ∧ k = 6) → ¬ (j = 11 ∧ k = D 6) → ¬ (j = 12 ∧ k = D 6) → mm_up (mm_up I6 (mm_ck q 12) (D 6) (nI w)) (mm_ck q 0) 6 (nI (D 6 + 1)) (mm_ck q j) k = I (mm_ck q j) k := fun j k hj q1 q2 q3 => by
      have e1 : I6 (mm_ck q j) k = I (mm_ck q j) k := by
        rw [f6.ck rfl q hj, f5.ck rfl q hj]
        by_cases ej : j = 11
        · subst ej; rw [up_k (by omega), f4.ck rfl q hj, f3.ck rfl q hj, f2.ck rfl q hj, f1.ck rfl q hj]
        · rw [up_c (ck_ne ej), f4.ck rfl q hj, f3.ck rfl q hj, f2.ck rfl q hj, f1.ck rfl q hj]
      by_cases e0 : j = 0
      · subst e0; rw [up_k (by omega), up_c (ck_ne (by decide)), e1]
      · rw [up_c (ck_ne e0)]
        by_cases e12 : j = 12
        · subst e12; rw [up_k (by omega), e1]
        · rw [up_c (ck_ne e12), e1]
    have gc : mm_up (mm_up I6 (mm_ck q 12) (D 6) (nI w)) (mm_ck q 0) 6 (nI (D 6 + 1)) (mm_ck q 0) 6 = nI (D 6 + 1) := up_s _ _ _ _
    have gw : mm_up (mm_up I6 (mm_ck q 12) (D 6) (nI w)) (mm_ck q 0) 6 (nI (D 6 + 1)) (mm_ck q 12) (D 6) = nI w := by rw [up_c (ck_ne (by decide)), up_s]
    have gv : mm_up (mm_up I6 (mm_ck q 12) (D 6) (nI w)) (mm_ck q 0) 6 (nI (D 6 + 1)) (mm_ck q 11) (D 6) = nI v := by rw [up_c (ck_ne (by decide)), up_c (ck_ne (by decide)), f6.ck rfl q (by decide), f5.ck rfl q (by decide), up_s, v4]
    generalize mm_up (mm_up I6 (mm_ck q 12) (D 6) (nI w)) (mm_ck q 0) 6 (nI (D 6 + 1)) = I7 at *
    have u : ∀ k, k ≠ 64 + D 6 → k ≠ 68 + D 6 → k ≠ 6 → up1 (up1 (up1 D (64 + D 6) v) (68 + D 6) w) 6 (D 6 + 1) k = D k := fun k h1 h2 h3 => by rw [up1_n h3, up1_n h2, up1_n h1]
    have uc : up1 (up1 (up1 D (64 + D 6) v) (68 + D 6) w) 6 (D 6 + 1) 6 = D 6 + 1 := up1_s _ _ _
    have uw : up1 (up1 (up1 D (64 + D 6) v) (68 + D 6) w) 6 (D 6 + 1) (68 + D 6) = w := by rw [up1_n (by omega), up1_s]
    have uv : up1 (up1 (up1 D (64 + D 6) v) (68 + D 6) w) 6 (D 6 + 1) (64 + D 6) = v := by rw [up1_n (by omega), up1_n (by omega), up1_s]
    generalize up1 (up1 (up1 D (64 + D 6) v) (68 + D 6) w) 6 (D 6 + 1) = E at *
    have u0 := u 0 (by omega) (by omega) (by omega)
    have u1 := u 1 (by omega) (by omega) (by omega)
    have u2 := u 2 (by omega) (by omega) (by omega)
    have u3 := u 3 (by omega) (by omega) (by omega)
    have u4 := u 4 (by omega) (by omega) (by omega)
    have u5 := u 5 (by omega) (by omega) (by omega)
    have u7 := u 7 (by omega) (by omega) (by omega)
    have u8 := u 8 (by omega) (by omega) (by omega)
    have u9 := u 9 (by omega) (by omega) (by omega)
    exact ⟨by rw [g 1 0 (by decide) (by omega) (by omega) (by omega), g 5 0 (by decide) (by omega) (by omega) (by omega), g 8 0 (by decide) (by omega) (by omega) (by omega)]; exact m, by rw [g 1 3 (by decide) (by omega) (by omega) (by omega), u3]; exact a3, by rw [g 5 3 (by decide) (by omega) (by omega) (by omega), u4]; exact a4, by rw [g 8 3 (by decide) (by omega) (by omega) (by omega), u5]; exact a5, by rw [gc, uc], by rw [g 0 7 (by decide) (by omega) (by omega) (by omega), u0, u1]; exact a7, by rw [g 0 8 (by decide) (by omega) (by omega) (by omega), u2]; exact a8, by rw [g 0 10 (by decide) (by omega) (by omega) (by omega), u7]; exact a10, by rw [g 0 11 (by decide) (by omega) (by omega) (by omega), u8, u9]; exact a11, fun c hc => by rw [u3] at hc; rw [g 2 c (by decide) (by omega) (by omega) (by omega), u _ (by omega) (by omega) (by omega)]; exact r2 c hc, fun c hc => by rw [u3] at hc; rw [g 3 c (by decide) (by omega) (by omega) (by omega), u _ (by omega) (by omega) (by omega)]; exact r3 c hc, fun c hc => by rw [u3] at hc; rw [g 4 c (by decide) (by omega) (by omega) (by omega), u _ (by omega) (by omega) (by omega)]; exact r4 c hc, fun c hc => by rw [u4] at hc; rw [g 6 c (by decide) (by omega) (by omega) (by omega), u _ (by omega) (by omega) (by omega)]; exact r6 c hc, fun c hc => by rw [u4] at hc; rw [g 7 c (by decide) (by omega) (by omega) (by omega), u _ (by omega) (by omega) (by omega)]; exact r7 c hc, fun c hc => by rw [u5] at hc; rw [g 9 c (by decide) (by omega) (by omega) (by omega), u _ (by omega) (by omega) (by omega)]; exact r9 c hc, fun c hc => by rw [u5] at hc; rw [g 10 c (by decide) (by omega) (by omega) (by omega), u _ (by omega) (by omega) (by omega)]; exact r10 c hc, fun c hc => by
        rw [uc] at hc
        by_cases ec : c = D 6
        · rw [ec, gv, uv]
        · rw [g 11 c (by decide) (by omega) (by omega) (by omega), u _ (by omega) (by omega) (by omega)]; exact r11 c (by omega), fun c hc => by
        rw [uc] at hc
        by_cases ec : c = D 6
        · rw [ec, gw, uw]
        · rw [g 12 c (by decide) (by omega) (by omega) (by omega), u _ (by omega) (by omega) (by omega)]; exact r12 c (by omega), fun k hk => by rw [g 13 k (by decide) (by omega) (by omega) (by omega), u7, u _ (by omega) (by omega) (by omega)]; exact sh k hk⟩
  · have em : up1 (up1 (up1 D (64 + D 6) (tv b N (nx b N (nx b N (nx b N a))))) (68 + D 6) (tv b N (nx b N (nx b N (nx b N (nx b N (nx b N a))))))) 6 (D 6 + 1) 3 + up1 (up1 (up1 D (64 + D 6) (tv b N (nx b N (nx b N (nx b N a))))) (68 + D 6) (tv b N (nx b N (nx b N (nx b N (nx b N (nx b N a))))))) 6 (D 6 + 1) 4 + up1 (up1 (up1 D (64 + D 6) (tv b N (nx b N (nx b N (nx b N a))))) (68 + D 6) (tv b N (nx b N (nx b N (nx b N (nx b N (nx b N a))))))) 6 (D 6 + 1) 5 + up1 (up1 (up1 D (64 + D 6) (tv b N (nx b N (nx b N (nx b N a))))) (68 + D 6) (tv b N (nx b N (nx b N (nx b N (nx b N (nx b N a))))))) 6 (D 6 + 1) 6 = D 3 + D 4 + D 5 + D 6 + 1 := by
      rw [up1_n (j := 3) (by decide), up1_n (j := 4) (by decide), up1_n (j := 5) (by decide), up1_s, up1_n (j := 3) (by omega), up1_n (j := 3) (by omega), up1_n (j := 4) (by omega), up1_n (j := 4) (by omega), up1_n (j := 5) (by omega), up1_n (j := 5) (by omega)]; omega
    rw [em]
    exact ((((n2.fr f3 j3 rfl rfl).fr f4 j4 rfl rfl).ck.fr f5 j5 rfl rfl).fr f6 j6 rfl rfl).ck.ck
theorem ct_63c {k : Nat → (Nat → Nat) → Nat → Nat → Nat → zE} (h : cTk b N a I J) (hD : cDr q D nc I J) (ho : okD D nc) (e : (if D 3 < 10 then nmF b N (D 3) (nx b N a) nc (fun a1 nc1 => xyF b N a1 (k a1 nc1)) else .error (5, a)) = R) (k1 : ∀ I' J' a1 x y a' sl', D 3 < 10 → frD q I I' → cTk b N a' I' J' → cNs (up1 nc (D 3) (cod b N (nx b N a))) (D 3 + D 4 + D 5 + D 6 + 1) sl' I' J' → I' (mm_ck q 2) (D 3) = nI x → I' (mm_ck q 3) (D 3) = nI y → I' (mm_ck q 1) 3 = nI (D 3 + 1) → (∀ j i, j < 14 → ¬ (j = 2 ∧ i = D 3) → ¬ (j = 3 ∧ i = D 3) → ¬ (j = 1 ∧ i = 3) → I' (mm_ck q j) i = I (mm_ck q j) i) → k a1 (up1 nc (D 3) (cod b N (nx b N a))) x y a' = R → Q (some (.int (nI 1))) ((fl, n1, n2, p, q, ad), I', J')) (k0 : ∀ I' J', frD q I I' → cFl R I' → Q (some (.int (nI 0))) ((fl, n1, n2, p, q, ad), I', J')) : mm_wc (d + 5) 63 [.ref 1, .ref (mm_ck q 1), .int (nI 0)] ((fl, n1, n2, p, q, ad), I, J) Q := by
  obtain ⟨hK, sl, hN⟩ := hD
  have b3 : D 3 ≤ 10 := ho.2.2.2.2.1
  have b4 : D 4 ≤ 5 := ho.2.2.2.2.2.1
  have b5 : D 5 ≤ 4 := ho.2.2.2.2.2.2.1
  have b6 : D 6 ≤ 4 := ho.2.2.2.2.2.2.2.1
  obtain ⟨-, -, -, -, -, -, -, -, -, -, -, -, -, -, -, -, -, -, hn3, hn4, hn5, hn6, -⟩ := id ho
  obtain ⟨m, a3, a4, a5, -⟩ := id hK
  have full : ∀ I', I' (mm_ck q 1) 0 = nI 10 → I' (mm_ck q 1) 3 = nI (D 3) → ∀ {Q' : mmQ} {x1 x2 : Nat} {J' : mmJ}, (¬ D 3 < 10 → Q' (some (.int (nI 1))) ((fl, x1, x2, p, q, ad), I', J')) → (D 3 < 10 → Q' (some (.int (nI 0))) ((fl, x1, x2, p, q, ad), I', J')) → ∀ d, mm_wc (d + 1) 54 [.ref (mm_ck q 1)] ((fl, x1, x2, p, q, ad), I', J') Q' := fun I' g0 g3 Q' x1 x2 J' q1 q2 d => by
    refine fx_54c ?_
    rw [g0, g3, z_le (by decide) (by omega), z_lt (by omega) (by decide)]
    exact ⟨fun z => q1 (by omega), fun z => ⟨fun _ => q2 (by omega), fun y => absurd (by omega) y⟩⟩
  refine fx_63c (full I m.1 a3 (fun z => ⟨_, _, _, rfl, rfl, fun y => absurd y n10, fun _ => ct_60 h (by decide) (by decide) (fun I' f' h' => ⟨_, _, _, rfl, rfl, .inl rfl, k0 I' J (tkS_D f') (by rw [if_neg z] at e; rw [← e]; exact h')⟩)⟩) (fun dc => ⟨_, _, _, rfl, rfl, fun _ => ?_, fun y => absurd rfl y⟩) _)
  rw [if_pos dc] at e
  have h0 : nc (D 3) = 0 := by
    by_cases z : nc (D 3) = 0
    · exact z
    · exact absurd ((hn3 (D 3) (by omega)).mp z) (by omega)
  refine ct_77n h (fun I1 J1 f1 j1 h1 => ⟨_, _, rfl, rfl, ?_⟩)
  have c1 : I1 (mm_ck q 1) 3 = nI (D 3) := by rw [f1.ck rfl q (by decide)]; exact a3
  rw [c1]
  refine ct_70 (so := 0) (n := D 3) (wh := D 3) (by omega) (by omega) h0 (by decide) (fun z => ⟨rfl, rfl⟩) (fun z => by omega) h1 (cNs_cs hN f1 j1) e (fun I2 J2 sl2 f2 h2 n2 e2 => ⟨_, _, _, rfl, rfl, fun z => absurd z n10, fun _ => ?_⟩) (fun I2 f2 h2 => ⟨_, _, _, rfl, rfl, fun _ => k0 I2 _ ((aS_D f1).tr f2.D) h2, fun z => absurd rfl z⟩)
  have F2 : frD q I I2 := (aS_D f1).tr f2.D
  unfold xyF at e2
  refine ct_74_at h2 e2 (fun I3 J3 f3 j3 h3 e3 => ⟨_, _, _, rfl, rfl, fun z => absurd z n10, fun _ => ?_⟩) (fun I3 f3 h3 => ⟨_, _, _, rfl, rfl, fun _ => k0 I3 _ (F2.tr (tkS_D f3)) h3, fun z => absurd rfl z⟩)
  have F3 := F2.tr (tkS_D f3)
  refine ct_75 (by decide) (by decide) h3 e3 (fun I4 J4 f4 j4 h4 v4 l4 x4 e4 => ⟨_, _, _, rfl, rfl, fun _ => ?_, fun z => absurd z n10⟩) (fun I4 f4 h4 => ⟨_, _, _, rfl, rfl, fun z => absurd rfl z, fun _ => k0 I4 _ (F3.tr (tkS_D f4)) h4⟩)
  have F4 := F3.tr (tkS_D f4)
  refine ct_76_44 h4 e4 (fun I5 J5 f5 j5 h5 e5 => ⟨_, _, _, rfl, rfl, fun z => absurd z n10, fun _ => ?_⟩) (fun I5 f5 h5 => ⟨_, _, _, rfl, rfl, fun _ => k0 I5 _ (F4.tr (tkS_D f5)) h5, fun z => absurd rfl z⟩)
  have F5 := F4.tr (tkS_D f5)
  refine ct_75 (by decide) (by decide) h5 e5 (fun I6 J6 f6 j6 h6 v6 l6 x6 e6 => ⟨_, _, _, rfl, rfl, fun _ => ?_, fun z => absurd z n10⟩) (fun I6 f6 h6 => ⟨_, _, _, rfl, rfl, fun z => absurd rfl z, fun _ => k0 I6 _ (F5.tr (tkS_D f6)) h6⟩)
  have F6 := F5.tr (tkS_D (q := q) f6)
  have go : ∀ j i, j < 14 → I6 (mm_ck q j) i = I (mm_ck q j) i := fun j i hj => by rw [f6.ck rfl q hj, f5.ck rfl q hj, f4.ck rfl q hj, f3.ck rfl q hj, f2.ck rfl q hj, f1.ck rfl q hj]
  have c6 : I6 (mm_ck q 1) 3 = nI (D 3) := by rw [go _ _ (by decide)]; exact a3
  have m6 : I6 (mm_ck q 1) 0 = nI 10 := by rw [go _ _ (by decide)]; exact m.1
  rw [v4, v6]
  refine fx_55c (full I6 m6 c6 (fun z => absurd dc z) (fun _ => ⟨_, _, _, rfl, rfl, fun z => absurd rfl z, fun _ => ?_⟩) _)
  rw [c6, z_ix (by omega), z_add]
  refine ⟨z_in (by omega) (by decide), z_in (by omega) (by decide), _, _, rfl, rfl, ?_⟩
  refine k1 _ J6 _ _ _ _ sl2 dc (((F6.up (by omega)).up (by omega)).up (by omega)) h6.ck.ck.ck (((((n2.fr f3 j3 rfl rfl).fr f4 j4 rfl rfl).fr f5 j5 rfl rfl).fr f6 j6 rfl rfl).ck.ck.ck) ?_ ?_ (up_s _ _ _ _) (fun j i hj q1 q2 q3 => ?_) e6
  · rw [up_c (ck_ne (by decide)), up_c (ck_ne (by decide)), up_s]
  · rw [up_c (ck_ne (by decide)), up_s]
  · by_cases ec : j = 1
    · subst ec; rw [up_k (by omega), up_c (ck_ne (by decide)), up_c (ck_ne (by decide))]; exact go _ _ hj
    · rw [up_c (ck_ne ec)]
      by_cases ey : j = 3
      · subst ey; rw [up_k (by omega), up_c (ck_ne (by decide))]; exact go _ _ hj
      · rw [up_c (ck_ne ey)]
        by_cases ex : j = 2
        · subst ex; rw [up_k (by omega)]; exact go _ _ hj
        · rw [up_c (ck_ne ex)]; exact go _ _ hj
theorem ct_63p {k : Nat → (Nat → Nat) → Nat → Nat → Nat → zE} (h : cTk b N a I J) (hD : cDr q D nc I J) (ho : okD D nc) (e : (if D 4 < 5 then nmF b N (10 + D 4) (nx b N a) nc (fun a1 nc1 => xyF b N a1 (k a1 nc1)) else .error (5, a)) = R) (k1 : ∀ I' J' a1 x y a' sl', D 4 < 5 → frD q I I' → cTk b N a' I' J' → cNs (up1 nc (10 + D 4) (cod b N (nx b N a))) (D 3 + D 4 + D 5 + D 6 + 1) sl' I' J' → I' (mm_ck q 6) (D 4) = nI x → I' (mm_ck q 7) (D 4) = nI y → I' (mm_ck q 5) 3 = nI (D 4 + 1) → (∀ j i, j < 14 → ¬ (j = 6 ∧ i = D 4) → ¬ (j = 7 ∧ i = D 4) → ¬ (j = 5 ∧ i = 3) → I' (mm_ck q j) i = I (mm_ck q j) i) → k a1 (up1 nc (10 + D 4) (cod b N (nx b N a))) x y a' = R → Q (some (.int (nI 1))) ((fl, n1, n2, p, q, ad), I', J')) (k0 : ∀ I' J', frD q I I' → cFl R I' → Q (some (.int (nI 0))) ((fl, n1, n2, p, q, ad), I', J')) : mm_wc (d + 5) 63 [.ref 1, .ref (mm_ck q 5), .int (nI 1)] ((fl, n1, n2, p, q, ad), I, J) Q := by
  obtain ⟨hK, sl, hN⟩ := hD
  have b3 : D 3 ≤ 10 := ho.2.2.2.2.1
  have b4 : D 4 ≤ 5 := ho.2.2.2.2.2.1
  have b5 : D 5 ≤ 4 := ho.2.2.2.2.2.2.1
  have b6 : D 6 ≤ 4 := ho.2.2.2.2.2.2.2.1
  obtain ⟨-, -, -, -, -, -, -, -, -, -, -, -, -, -, -, -, -, -, hn3, hn4, hn5, hn6, -⟩ := id ho
  obtain ⟨m, a3, a4, a5, -⟩ := id hK
  have full : ∀ I', I' (mm_ck q 5) 0 = nI 5 → I' (mm_ck q 5) 3 = nI (D 4) → ∀ {Q' : mmQ} {x1 x2 : Nat} {J' : mmJ}, (¬ D 4 < 5 → Q' (some (.int (nI 1))) ((fl, x1, x2, p, q, ad), I', J')) → (D 4 < 5 → Q' (some (.int (nI 0))) ((fl, x1, x2, p, q, ad), I', J')) → ∀ d, mm_wc (d + 1) 54 [.ref (mm_ck q 5)] ((fl, x1, x2, p, q, ad), I', J') Q' := fun I' g0 g3 Q' x1 x2 J' q1 q2 d => by
    refine fx_54p ?_
    rw [g0, g3, z_le (by decide) (by omega), z_lt (by omega) (by decide)]
    exact ⟨fun z => q1 (by omega), fun z => ⟨fun _ => q2 (by omega), fun y => absurd (by omega) y⟩⟩
  refine fx_63p (full I m.2.1 a4 (fun z => ⟨_, _, _, rfl, rfl, fun y => absurd y n10, fun _ => ct_60 h (by decide) (by decide) (fun I' f' h' => ⟨_, _, _, rfl, rfl, .inl rfl, k0 I' J (tkS_D f') (by rw [if_neg z] at e; rw [← e]; exact h')⟩)⟩) (fun dc => ⟨_, _, _, rfl, rfl, fun _ => ?_, fun y => absurd rfl y⟩) _)
  rw [if_pos dc] at e
  have h0 : nc (10 + D 4) = 0 := by
    by_cases z : nc (10 + D 4) = 0
    · exact z
    · exact absurd ((hn4 (D 4) (by omega)).mp z) (by omega)
  refine ct_77n h (fun I1 J1 f1 j1 h1 => ⟨_, _, rfl, rfl, ?_⟩)
  have c1 : I1 (mm_ck q 5) 3 = nI (D 4) := by rw [f1.ck rfl q (by decide)]; exact a4
  rw [c1]
  refine ct_70 (so := 1) (n := 10 + D 4) (wh := D 4) (by omega) (by omega) h0 (by decide) (fun z => by omega) (fun z => by decide) h1 (cNs_cs hN f1 j1) e (fun I2 J2 sl2 f2 h2 n2 e2 => ⟨_, _, _, rfl, rfl, fun z => absurd z n10, fun _ => ?_⟩) (fun I2 f2 h2 => ⟨_, _, _, rfl, rfl, fun _ => k0 I2 _ ((aS_D f1).tr f2.D) h2, fun z => absurd rfl z⟩)
  have F2 : frD q I I2 := (aS_D f1).tr f2.D
  unfold xyF at e2
  refine ct_74_at h2 e2 (fun I3 J3 f3 j3 h3 e3 => ⟨_, _, _, rfl, rfl, fun z => absurd z n10, fun _ => ?_⟩) (fun I3 f3 h3 => ⟨_, _, _, rfl, rfl, fun _ => k0 I3 _ (F2.tr (tkS_D f3)) h3, fun z => absurd rfl z⟩)
  have F3 := F2.tr (tkS_D f3)
  refine ct_75 (by decide) (by decide) h3 e3 (fun I4 J4 f4 j4 h4 v4 l4 x4 e4 => ⟨_, _, _, rfl, rfl, fun _ => ?_, fun z => absurd z n10⟩) (fun I4 f4 h4 => ⟨_, _, _, rfl, rfl, fun z => absurd rfl z, fun _ => k0 I4 _ (F3.tr (tkS_D f4)) h4⟩)
  have F4 := F3.tr (tkS_D f4)
  refine ct_76_44 h4 e4 (fun I5 J5 f5 j5 h5 e5 => ⟨_, _, _, rfl, rfl, fun z => absurd z n10, fun _ => ?_⟩) (fun I5 f5 h5 => ⟨_, _, _, rfl, rfl, fun _ => k0 I5 _ (F4.tr (tkS_D f5)) h5, fun z => absurd rfl z⟩)
  have F5 := F4.tr (tkS_D f5)
  refine ct_75 (by decide) (by decide) h5 e5 (fun I6 J6 f6 j6 h6 v6 l6 x6 e6 => ⟨_, _, _, rfl, rfl, fun _ => ?_, fun z => absurd z n10⟩) (fun I6 f6 h6 => ⟨_, _, _, rfl, rfl, fun z => absurd rfl z, fun _ => k0 I6 _ (F5.tr (tkS_D f6)) h6⟩)
  have F6 := F5.tr (tkS_D (q := q) f6)
  have go : ∀ j i, j < 14 → I6 (mm_ck q j) i = I (mm_ck q j) i := fun j i hj => by rw [f6.ck rfl q hj, f5.ck rfl q hj, f4.ck rfl q hj, f3.ck rfl q hj, f2.ck rfl q hj, f1.ck rfl q hj]
  have c6 : I6 (mm_ck q 5) 3 = nI (D 4) := by rw [go _ _ (by decide)]; exact a4
  have m6 : I6 (mm_ck q 5) 0 = nI 5 := by rw [go _ _ (by decide)]; exact m.2.1
  rw [v4, v6]
  refine fx_55p (full I6 m6 c6 (fun z => absurd dc z) (fun _ => ⟨_, _, _, rfl, rfl, fun z => absurd rfl z, fun _ => ?_⟩) _)
  rw [c6, z_ix (by omega), z_add]
  refine ⟨z_in (by omega) (by decide), z_in (by omega) (by decide), _, _, rfl, rfl, ?_⟩
  refine k1 _ J6 _ _ _ _ sl2 dc (((F6.up (by omega)).up (by omega)).up (by omega)) h6.ck.ck.ck (((((n2.fr f3 j3 rfl rfl).fr f4 j4 rfl rfl).fr f5 j5 rfl rfl).fr f6 j6 rfl rfl).ck.ck.ck) ?_ ?_ (up_s _ _ _ _) (fun j i hj q1 q2 q3 => ?_) e6
  · rw [up_c (ck_ne (by decide)), up_c (ck_ne (by decide)), up_s]
  · rw [up_c (ck_ne (by decide)), up_s]
  · by_cases ec : j = 5
    · subst ec; rw [up_k (by omega), up_c (ck_ne (by decide)), up_c (ck_ne (by decide))]; exact go _ _ hj
    · rw [up_c (ck_ne ec)]
      by_cases ey : j = 7
      · subst ey; rw [up_k (by omega), up_c (ck_ne (by decide))]; exact go _ _ hj
      · rw [up_c (ck_ne ey)]
        by_cases ex : j = 6
        · subst ex; rw [up_k (by omega)]; exact go _ _ hj
        · rw [up_c (ck_ne ex)]; exact go _ _ hj
theorem ct_63s {k : Nat → (Nat → Nat) → Nat → Nat → Nat → zE} (h : cTk b N a I J) (hD : cDr q D nc I J) (ho : okD D nc) (e : (if D 5 < 4 then nmF b N (15 + D 5) (nx b N a) nc (fun a1 nc1 => xyF b N a1 (k a1 nc1)) else .error (5, a)) = R) (k1 : ∀ I' J' a1 x y a' sl', D 5 < 4 → frD q I I' → cTk b N a' I' J' → cNs (up1 nc (15 + D 5) (cod b N (nx b N a))) (D 3 + D 4 + D 5 + D 6 + 1) sl' I' J' → I' (mm_ck q 9) (D 5) = nI x → I' (mm_ck q 10) (D 5) = nI y → I' (mm_ck q 8) 3 = nI (D 5 + 1) → (∀ j i, j < 14 → ¬ (j = 9 ∧ i = D 5) → ¬ (j = 10 ∧ i = D 5) → ¬ (j = 8 ∧ i = 3) → I' (mm_ck q j) i = I (mm_ck q j) i) → k a1 (up1 nc (15 + D 5) (cod b N (nx b N a))) x y a' = R → Q (some (.int (nI 1))) ((fl, n1, n2, p, q, ad), I', J')) (k0 : ∀ I' J', frD q I I' → cFl R I' → Q (some (.int (nI 0))) ((fl, n1, n2, p, q, ad), I', J')) : mm_wc (d + 5) 63 [.ref 1, .ref (mm_ck q 8), .int (nI 3)] ((fl, n1, n2, p, q, ad), I, J) Q := by
  obtain ⟨hK, sl, hN⟩ := hD
  have b3 : D 3 ≤ 10 := ho.2.2.2.2.1
  have b4 : D 4 ≤ 5 := ho.2.2.2.2.2.1
  have b5 : D 5 ≤ 4 := ho.2.2.2.2.2.2.1
  have b6 : D 6 ≤ 4 := ho.2.2.2.2.2.2.2.1
  obtain ⟨-, -, -, -, -, -, -, -, -, -, -, -, -, -, -, -, -, -, hn3, hn4, hn5, hn6, -⟩ := id ho
  obtain ⟨m, a3, a4, a5, -⟩ := id hK
  have full : ∀ I', I' (mm_ck q 8) 0 = nI 4 → I' (mm_ck q 8) 3 = nI (D 5) → ∀ {Q' : mmQ} {x1 x2 : Nat} {J' : mmJ}, (¬ D 5 < 4 → Q' (some (.int (nI 1))) ((fl, x1, x2, p, q, ad), I', J')) → (D 5 < 4 → Q' (some (.int (nI 0))) ((fl, x1, x2, p, q, ad), I', J')) → ∀ d, mm_wc (d + 1) 54 [.ref (mm_ck q 8)] ((fl, x1, x2, p, q, ad), I', J') Q' := fun I' g0 g3 Q' x1 x2 J' q1 q2 d => by
    refine fx_54s ?_
    rw [g0, g3, z_le (by decide) (by omega), z_lt (by omega) (by decide)]
    exact ⟨fun z => q1 (by omega), fun z => ⟨fun _ => q2 (by omega), fun y => absurd (by omega) y⟩⟩
  refine fx_63s (full I m.2.2 a5 (fun z => ⟨_, _, _, rfl, rfl, fun y => absurd y n10, fun _ => ct_60 h (by decide) (by decide) (fun I' f' h' => ⟨_, _, _, rfl, rfl, .inl rfl, k0 I' J (tkS_D f') (by rw [if_neg z] at e; rw [← e]; exact h')⟩)⟩) (fun dc => ⟨_, _, _, rfl, rfl, fun _ => ?_, fun y => absurd rfl y⟩) _)
  rw [if_pos dc] at e
  have h0 : nc (15 + D 5) = 0 := by
    by_cases z : nc (15 + D 5) = 0
    · exact z
    · exact absurd ((hn5 (D 5) (by omega)).mp z) (by omega)
  refine ct_77n h (fun I1 J1 f1 j1 h1 => ⟨_, _, rfl, rfl, ?_⟩)
  have c1 : I1 (mm_ck q 8) 3 = nI (D 5) := by rw [f1.ck rfl q (by decide)]; exact a5
  rw [c1]
  refine ct_70 (so := 3) (n := 15 + D 5) (wh := D 5) (by omega) (by omega) h0 (by decide) (fun z => by omega) (fun z => by decide) h1 (cNs_cs hN f1 j1) e (fun I2 J2 sl2 f2 h2 n2 e2 => ⟨_, _, _, rfl, rfl, fun z => absurd z n10, fun _ => ?_⟩) (fun I2 f2 h2 => ⟨_, _, _, rfl, rfl, fun _ => k0 I2 _ ((aS_D f1).tr f2.D) h2, fun z => absurd rfl z⟩)
  have F2 : frD q I I2 := (aS_D f1).tr f2.D
  unfold xyF at e2
  refine ct_74_at h2 e2 (fun I3 J3 f3 j3 h3 e3 => ⟨_, _, _, rfl, rfl, fun z => absurd z n10, fun _ => ?_⟩) (fun I3 f3 h3 => ⟨_, _, _, rfl, rfl, fun _ => k0 I3 _ (F2.tr (tkS_D f3)) h3, fun z => absurd rfl z⟩)
  have F3 := F2.tr (tkS_D f3)
  refine ct_75 (by decide) (by decide) h3 e3 (fun I4 J4 f4 j4 h4 v4 l4 x4 e4 => ⟨_, _, _, rfl, rfl, fun _ => ?_, fun z => absurd z n10⟩) (fun I4 f4 h4 => ⟨_, _, _, rfl, rfl, fun z => absurd rfl z, fun _ => k0 I4 _ (F3.tr (tkS_D f4)) h4⟩)
  have F4 := F3.tr (tkS_D f4)
  refine ct_76_44 h4 e4 (fun I5 J5 f5 j5 h5 e5 => ⟨_, _, _, rfl, rfl, fun z => absurd z n10, fun _ => ?_⟩) (fun I5 f5 h5 => ⟨_, _, _, rfl, rfl, fun _ => k0 I5 _ (F4.tr (tkS_D f5)) h5, fun z => absurd rfl z⟩)
  have F5 := F4.tr (tkS_D f5)
  refine ct_75 (by decide) (by decide) h5 e5 (fun I6 J6 f6 j6 h6 v6 l6 x6 e6 => ⟨_, _, _, rfl, rfl, fun _ => ?_, fun z => absurd z n10⟩) (fun I6 f6 h6 => ⟨_, _, _, rfl, rfl, fun z => absurd rfl z, fun _ => k0 I6 _ (F5.tr (tkS_D f6)) h6⟩)
  have F6 := F5.tr (tkS_D (q := q) f6)
  have go : ∀ j i, j < 14 → I6 (mm_ck q j) i = I (mm_ck q j) i := fun j i hj => by rw [f6.ck rfl q hj, f5.ck rfl q hj, f4.ck rfl q hj, f3.ck rfl q hj, f2.ck rfl q hj, f1.ck rfl q hj]
  have c6 : I6 (mm_ck q 8) 3 = nI (D 5) := by rw [go _ _ (by decide)]; exact a5
  have m6 : I6 (mm_ck q 8) 0 = nI 4 := by rw [go _ _ (by decide)]; exact m.2.2
  rw [v4, v6]
  refine fx_55s (full I6 m6 c6 (fun z => absurd dc z) (fun _ => ⟨_, _, _, rfl, rfl, fun z => absurd rfl z, fun _ => ?_⟩) _)
  rw [c6, z_ix (by omega), z_add]
  refine ⟨z_in (by omega) (by decide), z_in (by omega) (by decide), _, _, rfl, rfl, ?_⟩
  refine k1 _ J6 _ _ _ _ sl2 dc (((F6.up (by omega)).up (by omega)).up (by omega)) h6.ck.ck.ck (((((n2.fr f3 j3 rfl rfl).fr f4 j4 rfl rfl).fr f5 j5 rfl rfl).fr f6 j6 rfl rfl).ck.ck.ck) ?_ ?_ (up_s _ _ _ _) (fun j i hj q1 q2 q3 => ?_) e6
  · rw [up_c (ck_ne (by decide)), up_c (ck_ne (by decide)), up_s]
  · rw [up_c (ck_ne (by decide)), up_s]
  · by_cases ec : j = 8
    · subst ec; rw [up_k (by omega), up_c (ck_ne (by decide)), up_c (ck_ne (by decide))]; exact go _ _ hj
    · rw [up_c (ck_ne ec)]
      by_cases ey : j = 10
      · subst ey; rw [up_k (by omega), up_c (ck_ne (by decide))]; exact go _ _ hj
      · rw [up_c (ck_ne ey)]
        by_cases ex : j = 9
        · subst ex; rw [up_k (by omega)]; exact go _ _ hj
        · rw [up_c (ck_ne ex)]; exact go _ _ hj
end SE
