/-! reading: the class's left line, a line, reading -/
section SH
variable {d n1 n2 : Nat} {fl : Nat → Bool} {p q : Bool} {ad : Nat → Nat} {I : mmI} {J : mmJ} {Q : mmQ} {b nc D : Nat → Nat} {N a : Nat} {R : zE}
theorem ct_68 (h : cTk b N a I J) (hD : cDr q D nc I J) (ho : okD D nc) (e : (if D 8 = 0 then leftF b N (nx b N a) D nc else .error (3, a)) = R) (k1 : ∀ I' J', frD q I I' → cEn b N q R I' J' → Q (some (.int (nI 1))) ((fl, n1, n2, p, q, ad), I', J')) (k0 : ∀ I' J', frD q I I' → cFl R I' → Q (some (.int (nI 0))) ((fl, n1, n2, p, q, ad), I', J')) : mm_wc (d + 5) 68 [.ref 1] ((fl, n1, n2, p, q, ad), I, J) Q := by
  obtain ⟨hK, sl, hN⟩ := id hD
  have h8l : D 8 ≤ 1 := ho.2.2.2.2.2.2.2.2.2.1
  have h9 : D 9 < 2 ^ 10 := Nat.lt_of_lt_of_le ho.2.2.2.2.2.2.2.2.2.2.1 (Nat.pow_le_pow_right (by decide) ho.2.2.2.2.1)
  obtain ⟨m, a3, a4, a5, a6, a7, a8, a10, a11, r2, r3, r4, r6, r7, r9, r10, r11, r12, sh⟩ := id hK
  refine fx_68k ?_
  rw [a11]
  by_cases d8 : D 8 = 0
  · rw [if_pos d8] at e
    rw [if_neg (by omega)]
    refine ⟨fun _ => ?_, fun z => absurd rfl z⟩
    have d9 : D 9 = 0 := ho.2.2.2.2.2.2.2.2.2.2.2.1 d8
    have K1 : dK (mm_up I (mm_ck q 0) 11 (nI 0)) q (up1 D 8 1) := by
      have g : ∀ j k, j < 14 → ¬ (j = 0 ∧ k = 11) → mm_up I (mm_ck q 0) 11 (nI 0) (mm_ck q j) k = I (mm_ck q j) k := fun j k hj hn => by
        by_cases ej : j = 0
        · subst ej; rw [up_k (by omega)]
        · rw [up_c (ck_ne ej)]
      have g11 : mm_up I (mm_ck q 0) 11 (nI 0) (mm_ck q 0) 11 = nI 0 := up_s _ _ _ _
      generalize mm_up I (mm_ck q 0) 11 (nI 0) = I3 at *
      have u : ∀ k, k ≠ 8 → up1 D 8 1 k = D k := fun k hk => up1_n hk
      have u8 : up1 D 8 1 8 = 1 := up1_s _ _ _
      generalize up1 D 8 1 = E at *
      have u0 := u 0 (by decide)
      have u1 := u 1 (by decide)
      have u2 := u 2 (by decide)
      have u3 := u 3 (by decide)
      have u4 := u 4 (by decide)
      have u5 := u 5 (by decide)
      have u6 := u 6 (by decide)
      have u7 := u 7 (by decide)
      have u9 := u 9 (by decide)
      exact ⟨by rw [g 1 0 (by decide) (by omega), g 5 0 (by decide) (by omega), g 8 0 (by decide) (by omega)]; exact m, by rw [g 1 3 (by decide) (by omega), u3]; exact a3, by rw [g 5 3 (by decide) (by omega), u4]; exact a4, by rw [g 8 3 (by decide) (by omega), u5]; exact a5, by rw [g 0 6 (by decide) (by omega), u6]; exact a6, by rw [g 0 7 (by decide) (by omega), u0, u1]; exact a7, by rw [g 0 8 (by decide) (by omega), u2]; exact a8, by rw [g 0 10 (by decide) (by omega), u7]; exact a10, by rw [g11, u8, if_pos rfl, u9, d9], fun c hc => by rw [u3] at hc; rw [g 2 c (by decide) (by omega), u _ (by omega)]; exact r2 c hc, fun c hc => by rw [u3] at hc; rw [g 3 c (by decide) (by omega), u _ (by omega)]; exact r3 c hc, fun c hc => by rw [u3] at hc; rw [g 4 c (by decide) (by omega), u _ (by omega)]; exact r4 c hc, fun c hc => by rw [u4] at hc; rw [g 6 c (by decide) (by omega), u _ (by omega)]; exact r6 c hc, fun c hc => by rw [u4] at hc; rw [g 7 c (by decide) (by omega), u _ (by omega)]; exact r7 c hc, fun c hc => by rw [u5] at hc; rw [g 9 c (by decide) (by omega), u _ (by omega)]; exact r9 c hc, fun c hc => by rw [u5] at hc; rw [g 10 c (by decide) (by omega), u _ (by omega)]; exact r10 c hc, fun c hc => by rw [u6] at hc; rw [g 11 c (by decide) (by omega), u _ (by omega)]; exact r11 c hc, fun c hc => by rw [u6] at hc; rw [g 12 c (by decide) (by omega), u _ (by omega)]; exact r12 c hc, fun k hk => by rw [g 13 k (by decide) (by omega), u7, u _ (by omega)]; exact sh k hk⟩
    have o1 := okD_8 ho d8
    refine ct_77n h.ck (fun I1 J1 f1 j1 h1 => ⟨_, _, rfl, rfl, ?_⟩)
    have F1 : frD q I I1 := (frD.rf.up (by omega)).tr (aS_D f1)
    have D1 : cDr q (up1 D 8 1) nc I1 J1 := ⟨K1.fr f1 rfl, sl, by rw [up1_n (by decide), up1_n (by decide), up1_n (by decide), up1_n (by decide)]; exact cNs_cs hN.ck f1 j1⟩
    refine ct_73_none h1 (fun w => ⟨_, _, _, rfl, rfl, fun z => absurd z n10, fun _ => ct_77n h1 (fun I2 J2 f2 j2 h2 => ⟨_, _, rfl, rfl, k1 I2 J2 (F1.tr (aS_D f2)) ⟨_, _, _, ?_, h2, D1.1.fr f2 rfl, D1.2.choose, cNs_cs D1.2.choose_spec f2 j2⟩⟩)⟩) (fun w => ⟨_, _, _, rfl, rfl, fun _ => ?_, fun z => absurd rfl z⟩)
    · rw [leftF, if_pos w] at e; exact e.symm
    · rw [leftF, if_neg w] at e
      have lp : ∀ f i a D I2 J2, i + f = 11 → frD q I I2 → cTk b N a I2 J2 → cDr q D nc I2 J2 → okD D nc → D 8 = 1 → lefL b N nc f a D = R → mm_w Q (mm_wc (d + 4)) bk_68 47 [some (.ref 1), some (.int (nI i))] [] ((fl, n1, n2, p, q, ad), I2, J2) := by
        intro f
        induction f with
        | zero =>
          intro i a D I2 J2 hi F2 h2 D2 o2 q8 e2
          rw [lefL] at e2
          refine fx_68k_47 ?_
          rw [z_lt (by decide) (by omega)]
          exact ⟨fun _ => ct_60 h2 (by decide) (by decide) (fun I' f' h' => ⟨_, _, _, rfl, rfl, .inl rfl, k0 I' J2 (F2.tr (tkS_D f')) (by rw [← e2]; exact h')⟩), fun z => absurd (by omega) z⟩
        | succ f ih =>
          intro i a D I2 J2 hi F2 h2 D2 o2 q8 e2
          rw [lefL] at e2
          refine fx_68k_47 ?_
          rw [z_lt (by decide) (by omega)]
          refine ⟨fun z => by omega, fun _ => ct_69 h2 D2 o2 q8 e2 (fun I3 J3 m3 F3 h3 _ _ o3 D3 e3 => ⟨_, _, _, rfl, rfl, fun _ => ?_, fun z => absurd z n10⟩) (fun I3 J3 F3 h3 => ⟨_, _, _, rfl, rfl, fun z => absurd rfl z, fun _ => k0 I3 J3 (F2.tr F3) h3⟩)⟩
          have hkl := ckd_lt (tkK b N (nx b N a))
          rw [h3.2.2.2.2.1, z_eq (a := ckd (tkK b N (nx b N a))) (by omega) (by decide), (ckd_i (k := tkK b N (nx b N a))).2.2.2.2]
          refine ⟨fun e44 => ct_77n h3 (fun I4 J4 f4 j4 h4 => ⟨_, _, rfl, rfl, ?_⟩), fun n44 => k1 I3 J3 (F2.tr F3) ⟨_, _, _, ?_, h3, D3⟩⟩
          · rw [if_pos e44] at e3
            rw [z_add]
            exact ih (i + 1) _ _ I4 J4 (by omega) ((F2.tr F3).tr (aS_D f4)) h4 ⟨D3.1.fr f4 rfl, D3.2.choose, cNs_cs D3.2.choose_spec f4 j4⟩ o3 (by rw [up1_n (by decide)]; exact q8) e3
          · rw [if_neg n44] at e3; exact e3.symm
      exact lp 11 0 _ _ I1 J1 rfl F1 h1 D1 o1 (up1_s _ _ _) e
  · rw [if_neg d8] at e
    rw [if_pos (by omega), z_m2 (by omega)]
    exact ⟨False.elim, fun _ => ct_60 h (by decide) (by decide) (fun I' f' h' => ⟨_, _, _, rfl, rfl, .inl rfl, k0 I' J (tkS_D f') (by rw [← e]; exact h')⟩)⟩
theorem ct_61 (h : cTk b N a I J) (hD : cDr q D nc I J) (ho : okD D nc) (e : lineF b N a D nc = R) (k1 : ∀ I' J', frD q I I' → cEn b N q R I' J' → Q (some (.int (nI 1))) ((fl, n1, n2, p, q, ad), I', J')) (k0 : ∀ I' J', frD q I I' → cFl R I' → Q (some (.int (nI 0))) ((fl, n1, n2, p, q, ad), I', J')) : mm_wc (d + 6) 61 [.ref 1] ((fl, n1, n2, p, q, ad), I, J) Q := by
  unfold lineF at e
  refine fx_61 (ct_73_cake h (fun w => ⟨_, _, _, rfl, rfl, fun z => absurd z n10, fun _ => ?_⟩) (fun w => ⟨_, _, _, rfl, rfl, fun _ => ?_, fun z => absurd rfl z⟩))
  · rw [if_pos w] at e
    exact ct_62 h hD ho e (fun I' J' f' h' => ⟨_, _, _, rfl, rfl, .inr rfl, k1 I' J' f' h'⟩) (fun I' J' f' h' => ⟨_, _, _, rfl, rfl, .inl rfl, k0 I' J' f' h'⟩)
  rw [if_neg w] at e
  refine ct_73_candle h (fun w => ⟨_, _, _, rfl, rfl, fun z => absurd z n10, fun _ => ?_⟩) (fun w => ⟨_, _, _, rfl, rfl, fun _ => ?_, fun z => absurd rfl z⟩)
  · rw [if_pos w] at e
    exact ct_cand h hD ho e k1 k0
  rw [if_neg w] at e
  refine ct_73_place h (fun w => ⟨_, _, _, rfl, rfl, fun z => absurd z n10, fun _ => ?_⟩) (fun w => ⟨_, _, _, rfl, rfl, fun _ => ?_, fun z => absurd rfl z⟩)
  · rw [if_pos w] at e
    exact ct_63pl h hD ho e (fun I' J' f' h' => ⟨_, _, _, rfl, rfl, .inr rfl, k1 I' J' f' h'⟩) (fun I' J' f' h' => ⟨_, _, _, rfl, rfl, .inl rfl, k0 I' J' f' h'⟩)
  rw [if_neg w] at e
  refine ct_73_spot h (fun w => ⟨_, _, _, rfl, rfl, fun z => absurd z n10, fun _ => ?_⟩) (fun w => ⟨_, _, _, rfl, rfl, fun _ => ?_, fun z => absurd rfl z⟩)
  · rw [if_pos w] at e
    exact ct_63sp h hD ho e (fun I' J' f' h' => ⟨_, _, _, rfl, rfl, .inr rfl, k1 I' J' f' h'⟩) (fun I' J' f' h' => ⟨_, _, _, rfl, rfl, .inl rfl, k0 I' J' f' h'⟩)
  rw [if_neg w] at e
  refine ct_73_person h (fun w => ⟨_, _, _, rfl, rfl, fun z => absurd z n10, fun _ => ?_⟩) (fun w => ⟨_, _, _, rfl, rfl, fun _ => ?_, fun z => absurd rfl z⟩)
  · rw [if_pos w] at e
    exact ct_66 h hD ho e (fun I' J' f' h' => ⟨_, _, _, rfl, rfl, .inr rfl, k1 I' J' f' h'⟩) (fun I' J' f' h' => ⟨_, _, _, rfl, rfl, .inl rfl, k0 I' J' f' h'⟩)
  rw [if_neg w] at e
  refine ct_73_shaky h (fun w => ⟨_, _, _, rfl, rfl, fun z => absurd z n10, fun _ => ?_⟩) (fun w => ⟨_, _, _, rfl, rfl, fun _ => ?_, fun z => absurd rfl z⟩)
  · rw [if_pos w] at e
    exact ct_67 h hD ho e (fun I' J' f' h' => ⟨_, _, _, rfl, rfl, .inr rfl, k1 I' J' f' h'⟩) (fun I' J' f' h' => ⟨_, _, _, rfl, rfl, .inl rfl, k0 I' J' f' h'⟩)
  rw [if_neg w] at e
  refine ct_73_left h (fun w => ⟨_, _, _, rfl, rfl, fun z => absurd z n10, fun _ => ?_⟩) (fun w => ⟨_, _, _, rfl, rfl, fun _ => ?_, fun z => absurd rfl z⟩)
  · rw [if_pos w] at e
    exact ct_68 h hD ho e (fun I' J' f' h' => ⟨_, _, _, rfl, rfl, .inr rfl, k1 I' J' f' h'⟩) (fun I' J' f' h' => ⟨_, _, _, rfl, rfl, .inl rfl, k0 I' J' f' h'⟩)
  rw [if_neg w] at e
  exact ct_60 h (by decide) (by decide) (fun I' f' h' => ⟨_, _, _, rfl, rfl, .inl rfl, k0 I' J (tkS_D f') (by rw [← e]; exact h')⟩)
end SH
