/-! reading: the class's lines (2) -/
section SD
variable {d n1 n2 : Nat} {fl : Nat → Bool} {p q : Bool} {ad : Nat → Nat} {I : mmI} {J : mmJ} {Q : mmQ} {b nc D : Nat → Nat} {N a : Nat} {R : zE}
theorem tkS_D {I' : mmI} (h : fr tkS I I') : frD q I I' := (h.sub (M := cS) rfl).D
theorem aS_D {I' : mmI} (h : fr aS I I') : frD q I I' := (h.sub (M := cS) rfl).D
theorem ct_67 (h : cTk b N a I J) (hD : cDr q D nc I J) (ho : okD D nc) (e : (if D 7 = 0 then shakF b N (nx b N a) D nc else .error (3, a)) = R) (k1 : ∀ I' J', frD q I I' → cEn b N q R I' J' → Q (some (.int (nI 1))) ((fl, n1, n2, p, q, ad), I', J')) (k0 : ∀ I' J', frD q I I' → cFl R I' → Q (some (.int (nI 0))) ((fl, n1, n2, p, q, ad), I', J')) : mm_wc (d + 5) 67 [.ref 1] ((fl, n1, n2, p, q, ad), I, J) Q := by
  obtain ⟨hK, sl, hN⟩ := hD
  have h7l : D 7 ≤ 1 := ho.2.2.2.2.2.2.2.2.1
  obtain ⟨m, a3, a4, a5, a6, a7, a8, a10, a11, r2, r3, r4, r6, r7, r9, r10, r11, r12, sh⟩ := id hK
  refine fx_67 ?_
  rw [a10, z_eq (by omega) (by decide)]
  refine ⟨fun d7 => ?_, fun d7 => ct_60 h (by decide) (by decide) (fun I' f' h' => ⟨_, _, _, rfl, rfl, .inl rfl, k0 I' J (tkS_D f') (by rw [if_neg d7] at e; rw [← e]; exact h')⟩)⟩
  rw [if_pos d7] at e
  unfold shakF at e
  have F0 : frD q I (mm_up I (mm_ck q 0) 10 (nI 1)) := frD.rf.up (by omega)
  refine ct_77n h.ck (fun I1 J1 f1 j1 h1 => ⟨_, _, rfl, rfl, ct_75 (by decide) (by decide) h1 e (fun I2 J2 f2 j2 h2 v2 l2 x2 e2 => ⟨_, _, _, rfl, rfl, fun _ => ?_, fun z => absurd z n10⟩) (fun I2 f2 h2 => ⟨_, _, _, rfl, rfl, fun z => absurd rfl z, fun _ => k0 I2 _ ((F0.tr (aS_D f1)).tr (tkS_D f2)) h2⟩)⟩)
  have F2 : frD q I (mm_up I2 (mm_ck q 13) 0 (I2 1 8)) := ((F0.tr (aS_D f1)).tr (tkS_D f2)).up (by omega)
  refine ct_76_44 h2.ck e2 (fun I3 J3 f3 j3 h3 e3 => ⟨_, _, _, rfl, rfl, fun z => absurd z n10, fun _ => ?_⟩) (fun I3 f3 h3 => ⟨_, _, _, rfl, rfl, fun _ => k0 I3 _ (F2.tr (tkS_D f3)) h3, fun z => absurd rfl z⟩)
  have F3 := F2.tr (tkS_D f3)
  refine ct_75 (by decide) (by decide) h3 e3 (fun I4 J4 f4 j4 h4 v4 l4 x4 e4 => ⟨_, _, _, rfl, rfl, fun _ => ?_, fun z => absurd z n10⟩) (fun I4 f4 h4 => ⟨_, _, _, rfl, rfl, fun z => absurd rfl z, fun _ => k0 I4 _ (F3.tr (tkS_D f4)) h4⟩)
  have F4 : frD q I (mm_up I4 (mm_ck q 13) 1 (I4 1 8)) := (F3.tr (tkS_D f4)).up (by omega)
  refine ct_76_44 h4.ck e4 (fun I5 J5 f5 j5 h5 e5 => ⟨_, _, _, rfl, rfl, fun _ => ?_, fun z => absurd z n10⟩) (fun I5 f5 h5 => ⟨_, _, _, rfl, rfl, fun z => absurd rfl z, fun _ => k0 I5 _ (F4.tr (tkS_D f5)) h5⟩)
  have F5 := F4.tr (tkS_D f5)
  have y0 : I5 (mm_ck q 13) 0 = nI (tv b N (nx b N a)) := by rw [f5.ck rfl q (by decide), up_k (by decide), f4.ck rfl q (by decide), f3.ck rfl q (by decide), up_s, v2]
  have y1 : I5 (mm_ck q 13) 1 = nI (tv b N (nx b N (nx b N (nx b N a)))) := by rw [f5.ck rfl q (by decide), up_s, v4]
  have yo : ∀ j k, j < 14 → ¬ (j = 0 ∧ k = 10) → ¬ (j = 13 ∧ (k = 0 ∨ k = 1)) → I5 (mm_ck q j) k = I (mm_ck q j) k := fun j k hj n0 n13 => by
    rw [f5.ck rfl q hj]
    by_cases e13 : j = 13
    · subst e13
      rw [up_k (by omega), f4.ck rfl q hj, f3.ck rfl q hj, up_k (by omega), f2.ck rfl q hj, f1.ck rfl q hj, up_c (ck_ne (by decide))]
    · rw [up_c (ck_ne e13), f4.ck rfl q hj, f3.ck rfl q hj, up_c (ck_ne e13), f2.ck rfl q hj, f1.ck rfl q hj]
      by_cases e0 : j = 0
      · subst e0; rw [up_k (by omega)]
      · rw [up_c (ck_ne e0)]
  have y10 : I5 (mm_ck q 0) 10 = nI 1 := by rw [f5.ck rfl q (by decide), up_c (ck_ne (by decide)), f4.ck rfl q (by decide), f3.ck rfl q (by decide), up_c (ck_ne (by decide)), f2.ck rfl q (by decide), f1.ck rfl q (by decide), up_s]
  have n5 : cNs nc (D 3 + D 4 + D 5 + D 6) sl I5 J5 := ((((cNs_cs hN.ck f1 j1).fr f2 j2 rfl rfl).ck.fr f3 j3 rfl rfl).fr f4 j4 rfl rfl).ck.fr f5 j5 rfl rfl
  generalize hx : tv b N (nx b N a) = x at *
  generalize hy : tv b N (nx b N (nx b N (nx b N a))) = y at *
  have fin : ∀ I6 J6 z, fr tkS I5 I6 → J6 3 = J5 3 → cTk b N (nx b N (nx b N (nx b N (nx b N (nx b N (nx b N a)))))) I6 J6 → I6 1 8 = nI z → (.ok (nx b N (nx b N (nx b N (nx b N (nx b N (nx b N a))))), up1 (up1 (up1 (up1 D 10 x) 11 y) 12 z) 7 1, nc) : zE) = R → Q (some (.int (nI 1))) ((fl, n1, n2, p, q, ad), mm_up I6 (mm_ck q 13) 2 (I6 1 8), J6) := by
    intro I6 J6 z f6 j6 h6 v6 e6
    refine k1 _ J6 ((F5.tr (tkS_D f6)).up (by omega)) ⟨_, _, _, e6.symm, h6.ck, ?_, sl, ?_⟩
    · rw [v6]
      have g : ∀ j k, j < 14 → ¬ (j = 0 ∧ k = 10) → ¬ (j = 13 ∧ (k = 0 ∨ k = 1 ∨ k = 2)) → mm_up I6 (mm_ck q 13) 2 (nI z) (mm_ck q j) k = I (mm_ck q j) k := fun j k hj n0 n13 => by
        by_cases e13 : j = 13
        · subst e13; rw [up_k (by omega), f6.ck rfl q hj]; exact yo _ _ hj n0 (by omega)
        · rw [up_c (ck_ne e13), f6.ck rfl q hj]; exact yo _ _ hj n0 (by omega)
      have g10 : mm_up I6 (mm_ck q 13) 2 (nI z) (mm_ck q 0) 10 = nI 1 := by rw [up_c (ck_ne (by decide)), f6.ck rfl q (by decide)]; exact y10
      have gx : mm_up I6 (mm_ck q 13) 2 (nI z) (mm_ck q 13) 0 = nI x := by rw [up_k (by decide), f6.ck rfl q (by decide)]; exact y0
      have gy : mm_up I6 (mm_ck q 13) 2 (nI z) (mm_ck q 13) 1 = nI y := by rw [up_k (by decide), f6.ck rfl q (by decide)]; exact y1
      have gz : mm_up I6 (mm_ck q 13) 2 (nI z) (mm_ck q 13) 2 = nI z := up_s _ _ _ _
      generalize mm_up I6 (mm_ck q 13) 2 (nI z) = I7 at *
      have u : ∀ k, k ≠ 10 → k ≠ 11 → k ≠ 12 → k ≠ 7 → up1 (up1 (up1 (up1 D 10 x) 11 y) 12 z) 7 1 k = D k := fun k h1 h2 h3 h4 => by rw [up1_n h4, up1_n h3, up1_n h2, up1_n h1]
      have uu7 : up1 (up1 (up1 (up1 D 10 x) 11 y) 12 z) 7 1 7 = 1 := up1_s _ _ _
      have ux : up1 (up1 (up1 (up1 D 10 x) 11 y) 12 z) 7 1 10 = x := by rw [up1_n (by decide), up1_n (by decide), up1_n (by decide), up1_s]
      have uy : up1 (up1 (up1 (up1 D 10 x) 11 y) 12 z) 7 1 11 = y := by rw [up1_n (by decide), up1_n (by decide), up1_s]
      have uz : up1 (up1 (up1 (up1 D 10 x) 11 y) 12 z) 7 1 12 = z := by rw [up1_n (by decide), up1_s]
      generalize up1 (up1 (up1 (up1 D 10 x) 11 y) 12 z) 7 1 = E at *
      have u0 := u 0 (by decide) (by decide) (by decide) (by decide)
      have u1 := u 1 (by decide) (by decide) (by decide) (by decide)
      have u2 := u 2 (by decide) (by decide) (by decide) (by decide)
      have u3 := u 3 (by decide) (by decide) (by decide) (by decide)
      have u4 := u 4 (by decide) (by decide) (by decide) (by decide)
      have u5 := u 5 (by decide) (by decide) (by decide) (by decide)
      have u6 := u 6 (by decide) (by decide) (by decide) (by decide)
      have u8 := u 8 (by decide) (by decide) (by decide) (by decide)
      have u9 := u 9 (by decide) (by decide) (by decide) (by decide)
      refine ⟨by rw [g 1 0 (by decide) (by omega) (by omega), g 5 0 (by decide) (by omega) (by omega), g 8 0 (by decide) (by omega) (by omega)]; exact m, by rw [g 1 3 (by decide) (by omega) (by omega), u3]; exact a3, by rw [g 5 3 (by decide) (by omega) (by omega), u4]; exact a4, by rw [g 8 3 (by decide) (by omega) (by omega), u5]; exact a5, by rw [g 0 6 (by decide) (by omega) (by omega), u6]; exact a6, by rw [g 0 7 (by decide) (by omega) (by omega), u0, u1]; exact a7, by rw [g 0 8 (by decide) (by omega) (by omega), u2]; exact a8, by rw [g10, uu7], by rw [g 0 11 (by decide) (by omega) (by omega), u8, u9]; exact a11, fun c hc => by rw [u3] at hc; rw [g 2 c (by decide) (by omega) (by omega), u _ (by omega) (by omega) (by omega) (by omega)]; exact r2 c hc, fun c hc => by rw [u3] at hc; rw [g 3 c (by decide) (by omega) (by omega), u _ (by omega) (by omega) (by omega) (by omega)]; exact r3 c hc, fun c hc => by rw [u3] at hc; rw [g 4 c (by decide) (by omega) (by omega), u _ (by omega) (by omega) (by omega) (by omega)]; exact r4 c hc, fun c hc => by rw [u4] at hc; rw [g 6 c (by decide) (by omega) (by omega), u _ (by omega) (by omega) (by omega) (by omega)]; exact r6 c hc, fun c hc => by rw [u4] at hc; rw [g 7 c (by decide) (by omega) (by omega), u _ (by omega) (by omega) (by omega) (by omega)]; exact r7 c hc, fun c hc => by rw [u5] at hc; rw [g 9 c (by decide) (by omega) (by omega), u _ (by omega) (by omega) (by omega) (by omega)]; exact r9 c hc, fun c hc => by rw [u5] at hc; rw [g 10 c (by decide) (by omega) (by omega), u _ (by omega) (by omega) (by omega) (by omega)]; exact r10 c hc, fun c hc => by rw [u6] at hc; rw [g 11 c (by decide) (by omega) (by omega), u _ (by omega) (by omega) (by omega) (by omega)]; exact r11 c hc, fun c hc => by rw [u6] at hc; rw [g 12 c (by decide) (by omega) (by omega), u _ (by omega) (by omega) (by omega) (by omega)]; exact r12 c hc, fun k hk => ?_⟩
      rw [if_pos uu7]
      have : k = 0 ∨ k = 1 ∨ k = 2 := by omega
      rcases this with rfl | rfl | rfl
      · rw [gx, show 10 + 0 = 10 from rfl, ux]
      · rw [gy, show 10 + 1 = 11 from rfl, uy]
      · rw [gz, show 10 + 2 = 12 from rfl, uz]
    · rw [show up1 (up1 (up1 (up1 D 10 x) 11 y) 12 z) 7 1 3 + up1 (up1 (up1 (up1 D 10 x) 11 y) 12 z) 7 1 4 + up1 (up1 (up1 (up1 D 10 x) 11 y) 12 z) 7 1 5 + up1 (up1 (up1 (up1 D 10 x) 11 y) 12 z) 7 1 6 = D 3 + D 4 + D 5 + D 6 from rfl]
      exact (n5.fr f6 j6 rfl rfl).ck
  rw [y0, y1, z_add, z_eq (by omega) (by decide)]
  refine ⟨fun ne => ?_, fun eq => ?_⟩
  · rw [if_neg ne] at e5
    exact ct_75 (by decide) (by decide) h5 e5 (fun I6 J6 f6 j6 h6 v6 l6 x6 e6 => ⟨_, _, _, rfl, rfl, fun _ => fin I6 J6 _ f6 j6 h6 v6 e6, fun z => absurd z n10⟩) (fun I6 f6 h6 => ⟨_, _, _, rfl, rfl, fun z => absurd rfl z, fun _ => k0 I6 _ (F5.tr (tkS_D f6)) h6⟩)
  · rw [if_pos eq] at e5
    exact ct_75 (by decide) (by decide) h5 e5 (fun I6 J6 f6 j6 h6 v6 l6 x6 e6 => ⟨_, _, _, rfl, rfl, fun _ => fin I6 J6 _ f6 j6 h6 v6 e6, fun z => absurd z n10⟩) (fun I6 f6 h6 => ⟨_, _, _, rfl, rfl, fun z => absurd rfl z, fun _ => k0 I6 _ (F5.tr (tkS_D f6)) h6⟩)
end SD
