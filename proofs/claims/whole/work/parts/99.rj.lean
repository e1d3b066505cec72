/-! reading: the model's cake -/
def ra_cake (T : zT) (to : Bool) (K : Nat → Nat) (P : zP) (f : zF) (x v : Int32) (T' : zT) (to' : Bool) (K' : Nat → Nat) (P' : zP) (t : Nat) (f' : zF) : Prop :=
  (¬ ix (T.1 + 1) x ∧ v = -1 ∧ T' = T ∧ to' = to ∧ K' = K ∧ P' = P ∧ t = 2 ∧ f' = f) ∨
  ∃ n, n ≤ T.1 ∧ x = nI n ∧ ((∃ c pl, readF T.2 n = .error (c, pl) ∧ v = -1 ∧ T' = (0, T.2) ∧ to' = to ∧ K' = K ∧ P' = P ∧ t = 4 ∧ f' = (c, pl)) ∨ ∃ a D nc, readF T.2 n = .ok (a, D, nc) ∧ v = nI (nB D) ∧ T' = (0, T.2) ∧ to' = true ∧ K' = D ∧ P' = (zall D, 0, P.2.2.1, 0, P.2.2.2.2) ∧ t = 0 ∧ f' = (0, 0))
theorem okD_R {D nc : Nat → Nat} (o : okD D nc) (h0 : D 0 ≠ 0) (h3 : D 3 ≠ 0) (h4 : D 4 ≠ 0) (h6 : D 6 ≠ 0) : okR D ∧ D 45 = 0 := by
  obtain ⟨o0, o1, o2, o3, o4, o5, o6, o7, o8, o9, o10, o11, o12, o13, o14, o15, o16, o17, -⟩ := o
  have e0 : D 0 = 1 := by omega
  exact ⟨⟨by omega, by omega, o6, by omega, o1, ⟨o3 e0, o2⟩, o8, o9, o10, o12, o13, o14, o15, o16⟩, o17 10 o4 (by decide)⟩
abbrev rdS : List (Nat × List Nat) := [(46, [0, 2, 3, 4, 5, 6, 7, 8, 9, 10, 11, 13]), (48, []), (50, [])]
abbrev rdT : List (Nat × List Nat) := [(46, [2, 3, 4, 5, 6, 7, 8, 9, 10, 13]), (48, []), (50, [])]
section RJ
variable {d n1 n2 : Nat} {fl : Nat → Bool} {p q : Bool} {ad : Nat → Nat} {J : mmJ} {Q : mmQ} {T : zT} {to : Bool} {K : Nat → Nat} {P : zP} {tr : Nat} {f : zF} {I : mmI}
theorem MI_rd {t : Nat} {f' : zF} {I' : mmI} (h : MI T to K P tr f I) (hf : fr rdS I I') (h2 : I' 46 2 = nI 0) (h9 : I' 46 9 = nI f'.1) (h10 : t = 4 → I' 46 10 = nI f'.2) (h11 : I' 46 11 = nI t) (t6 : t ≤ 6) (f1 : f'.1 ≤ 6) (f2 : f'.2 ≤ 900) : MI (0, T.2) to K P t f' I' := by
  obtain ⟨⟨z1, z2, z3, z4, z5, z6, z7, z8, z9⟩, a2, a3, a4, a5, a6, a7, a8, a9, a10, a11, a12⟩ := h
  refine ⟨⟨Nat.zero_le _, fun k hk => absurd hk (Nat.not_lt_zero k), z3, z4, z5, z6, t6, f1, f2⟩, h2, fun k hk => absurd hk (Nat.not_lt_zero k), h9, h10, h11, by rw [hf 46 14 rfl]; exact a7, by rw [hf 46 19 rfl]; exact a8, by rw [hf 46 20 rfl]; exact a9, fun j hj => by rw [hf 55 j rfl]; exact a10 j hj, fun j hj => by rw [hf 56 j rfl]; exact a11 j hj, fun z => ?_⟩
  obtain ⟨⟨R, r1, r2⟩, b2, b3, b4, b5⟩ := a12 z
  exact ⟨⟨R, r1, r2.of (fun k _ => hf 49 k rfl) (fun k => hf 53 k rfl) (fun k => hf 54 k rfl)⟩, by rw [hf 46 17 rfl]; exact b2, by rw [hf 46 18 rfl]; exact b3, fun k hk => by rw [hf 51 _ rfl, hf 51 _ rfl]; exact b4 k hk, fun k hk => by rw [hf 52 _ rfl, hf 52 _ rfl]; exact b5 k hk⟩
theorem md_188 {x : Int32} (h : MI T to K P tr f I) (k : ∀ I' v T' to' K' P' t f', frM I I' → MI T' to' K' P' t f' I' → ra_cake T to K P f x v T' to' K' P' t f' → Q (some (.int v)) ((fl, n1, n2, p, q, ad), I', J)) : mm_wc (d + 10) 188 [.ref 46, .int x] ((fl, n1, n2, p, q, ad), I, J) Q := by
  have hT9 : T.1 ≤ 900 := h.1.1
  have hT2 := h.1.2.1
  refine fx_188k (ct_166 h (fun I1 f1 h1 => ⟨_, _, rfl, rfl, ct_169 ⟨_, _, _, rfl, rfl, ?_⟩⟩))
  rw [h1.2.1]
  have hin : (¬ x < nI 0 ∧ ¬ nI T.1 < x) ↔ ix (T.1 + 1) x := by
    constructor
    · rintro ⟨q1, q2⟩
      rcases z_ca x with z | ⟨a, ha, rfl⟩
      · exact absurd z q1
      · rw [z_lt (by omega) ha] at q2
        exact ⟨a, by omega, rfl⟩
    · rintro ⟨n, hn, rfl⟩
      rw [z_lt (by omega) (by decide), z_lt (by omega) (by omega)]; omega
  by_cases hx : ix (T.1 + 1) x
  · rw [decide_eq_true (hin.mpr hx)]
    refine ⟨fun _ => ?_, fun z => absurd z n10⟩
    obtain ⟨n, hn, ex⟩ := hx
    rw [ex]
    have nS2 : fr rdT I1 (mm_up (mm_up (mm_up I1 46 2 (nI 0)) 46 9 (nI 0)) 46 13 (nI 0)) := ((fr.rf.up rfl).up rfl).up rfl
    have e2 : mm_up (mm_up (mm_up I1 46 2 (nI 0)) 46 9 (nI 0)) 46 13 (nI 0) 46 2 = nI 0 := by rw [up_k (by decide), up_k (by decide), up_s]
    have e9 : mm_up (mm_up (mm_up I1 46 2 (nI 0)) 46 9 (nI 0)) 46 13 (nI 0) 46 9 = nI 0 := by rw [up_k (by decide), up_s]
    have e13 : mm_up (mm_up (mm_up I1 46 2 (nI 0)) 46 9 (nI 0)) 46 13 (nI 0) 46 13 = nI 0 := up_s _ _ _ _
    generalize mm_up (mm_up (mm_up I1 46 2 (nI 0)) 46 9 (nI 0)) 46 13 (nI 0) = I2 at *
    generalize hR : readF T.2 n = R
    -- it has failed
    have g181 : ∀ I', fr rdT I1 I' → I' 46 2 = nI 0 → mFl R I' → mm_w Q (mm_wc (d + 9)) bk_188 181 [some (.ref 46), none, none] [] ((fl, n1, n2, p, q, ad), I', J) := fun I' F' q2 hf => by
      obtain ⟨c, pl, eR, c1, c6, p9, q13, q9, q10⟩ := hf
      refine fx_188k_181 ⟨fun z => absurd z (by rw [q13]; exact n10), fun _ => fx_167 ⟨_, _, _, rfl, rfl, ?_⟩⟩
      refine k _ _ _ _ _ _ 4 (c, pl) (f1.tr (((F'.sub (M := rdS) rfl).up (r := 46) (k := 11) (x := nI 4) rfl).M rfl)) (MI_rd h1 ((F'.sub rfl).up rfl) (by rw [up_k (by decide)]; exact q2) (by rw [up_k (by decide)]; exact q9) (fun _ => by rw [up_k (by decide)]; exact q10) (up_s _ _ _ _) (by decide) c6 p9) (.inr ⟨n, by omega, ex, .inl ⟨c, pl, by rw [hR, eR], rfl, rfl, rfl, rfl, rfl, rfl, rfl⟩⟩)
    have g77 : ∀ I', fr rdT I1 I' → I' 46 2 = nI 0 → mFl R I' → mm_w Q (mm_wc (d + 9)) bk_188 77 [some (.ref 46), none, none] [] ((fl, n1, n2, p, q, ad), I', J) := fun I' F' q2 hf =>
      fx_188k_77 ⟨fun _ => fx_188k_104 ⟨fun _ => fx_188k_127 ⟨fun _ => g181 I' F' q2 hf, fun z => absurd z hf.n13⟩, fun z => absurd z hf.n13⟩, fun z => absurd z hf.n13⟩
    -- it is right
    have g196 : ∀ I' a D nc, fr rdT I1 I' → I' 46 2 = nI 0 → mT T.2 n a I' → mDr T.2 D nc I' → okD D nc → D 0 ≠ 0 → D 3 ≠ 0 → D 4 ≠ 0 → D 6 ≠ 0 → R = .ok (a, D, nc) → mm_w Q (mm_wc (d + 9)) bk_188 181 [some (.ref 46), none, none] [] ((fl, n1, n2, p, q, ad), I', J) := by
      intro I5 a D nc F5 q2 hT hD ho d0 d3 d4 d6 eR
      obtain ⟨okr, d45⟩ := okD_R ho d0 d3 d4 d6
      have h3 := okr.c
      refine fx_188k_181 ⟨fun _ => ?_, fun z => absurd hT.2.2.1 z⟩
      have lp : ∀ r j, r + j = 279 → ∀ I', fr [(49, [])] I5 I' → (∀ i, i < j → I' 49 i = I5 50 i) → mm_w Q (mm_wc (d + 9)) bk_188 196 [some (.ref 46), none, some (.int (nI j))] [] ((fl, n1, n2, p, q, ad), I', J) := by
        intro r
        induction r with
        | zero =>
          intro j hj I6 f6 hc
          refine fx_188k_196 ?_
          rw [z_le (by decide) (by omega)]
          refine ⟨fun _ => ?_, fun z => absurd (by omega) z⟩
          have F6 : fr ((49, []) :: (46, [14, 19, 20, 17, 18]) :: rdS) I1 (mm_up (mm_up (mm_up I6 46 14 (nI 1)) 46 19 (nI 0)) 46 20 (nI 0)) := ((((F5.sub rfl).tr (f6.sub rfl)).up rfl).up rfl).up rfl
          have r6 : mR (mm_up (mm_up (mm_up I6 46 14 (nI 1)) 46 19 (nI 0)) 46 20 (nI 0)) D := ⟨okr, fun i hi => by rw [up_c (by decide), up_c (by decide), up_c (by decide), hc i (by omega)]; exact hD.1 i hi⟩
          have x14 : mm_up (mm_up (mm_up I6 46 14 (nI 1)) 46 19 (nI 0)) 46 20 (nI 0) 46 14 = nI 1 := by rw [up_k (by decide), up_k (by decide), up_s]
          have x19 : mm_up (mm_up (mm_up I6 46 14 (nI 1)) 46 19 (nI 0)) 46 20 (nI 0) 46 19 = nI 0 := by rw [up_k (by decide), up_s]
          have x20 : mm_up (mm_up (mm_up I6 46 14 (nI 1)) 46 19 (nI 0)) 46 20 (nI 0) 46 20 = nI 0 := up_s _ _ _ _
          have x2 : mm_up (mm_up (mm_up I6 46 14 (nI 1)) 46 19 (nI 0)) 46 20 (nI 0) 46 2 = nI 0 := by rw [up_k (by decide), up_k (by decide), up_k (by decide), f6 46 2 rfl]; exact q2
          have x9 : mm_up (mm_up (mm_up I6 46 14 (nI 1)) 46 19 (nI 0)) 46 20 (nI 0) 46 9 = nI 0 := by rw [up_k (by decide), up_k (by decide), up_k (by decide), f6 46 9 rfl]; exact hT.1.2.2.2.2
          have x11 : mm_up (mm_up (mm_up I6 46 14 (nI 1)) 46 19 (nI 0)) 46 20 (nI 0) 46 11 = I5 46 11 := by rw [up_k (by decide), up_k (by decide), up_k (by decide), f6 46 11 rfl]
          generalize mm_up (mm_up (mm_up I6 46 14 (nI 1)) 46 19 (nI 0)) 46 20 (nI 0) = I7 at *
          refine ct_205 r6 ⟨_, _, _, rfl, rfl, ?_⟩
          have f8 : fr [(46, [17, 18])] I7 (mm_up (mm_up I7 46 17 (nI (2 ^ D 3 - 1))) 46 18 (nI 0)) := (fr.rf.up rfl).up rfl
          have x17 : mm_up (mm_up I7 46 17 (nI (2 ^ D 3 - 1))) 46 18 (nI 0) 46 17 = nI (2 ^ D 3 - 1) := by rw [up_k (by decide), up_s]
          have x18 : mm_up (mm_up I7 46 17 (nI (2 ^ D 3 - 1))) 46 18 (nI 0) 46 18 = nI 0 := up_s _ _ _ _
          generalize mm_up (mm_up I7 46 17 (nI (2 ^ D 3 - 1))) 46 18 (nI 0) = I8 at *
          have F8 := F6.tr (f8.sub rfl)
          have w55 : ∀ j, j < 16 → I8 55 j = wX j := fun j hj => by rw [F8 55 j rfl]; exact h1.2.2.2.2.2.2.2.2.2.1 j hj
          have w56 : ∀ j, j < 16 → I8 56 j = wY j := fun j hj => by rw [F8 56 j rfl]; exact h1.2.2.2.2.2.2.2.2.2.2.1 j hj
          have r8 : mR I8 D := r6.of (fun k _ => f8 49 k rfl)
          refine ct_210 r8 w55 w56 (fun I9 f9 g53 g54 => ⟨_, _, rfl, rfl, ct_206 (r8.of (fun k _ => f9 49 k rfl)) ⟨_, _, _, rfl, rfl, ?_⟩⟩)
          have F9 : fr ((53, []) :: (54, []) :: (49, []) :: (46, [14, 19, 20, 17, 18]) :: rdS) I1 I9 := (F8.sub rfl).tr (f9.sub rfl)
          have hv := zall_vm D
          have x11' : I5 46 11 = nI 0 := by rw [F5 46 11 rfl]; exact h1.2.2.2.2.2.1
          refine k I9 _ (0, T.2) true D (zall D, 0, P.2.2.1, 0, P.2.2.2.2) 0 (0, 0) (f1.tr (F9.M rfl)) ?_ (.inr ⟨n, by omega, ex, .inr ⟨a, D, nc, by rw [hR, eR], rfl, rfl, rfl, rfl, rfl, rfl, rfl⟩⟩)
          refine ⟨⟨Nat.zero_le _, fun k hk => absurd hk (Nat.not_lt_zero k), Nat.zero_le _, Nat.zero_le _, fun z => absurd z (by decide), fun _ => ⟨okr, hv, fun k hk => absurd hk (Nat.not_lt_zero k), fun k hk => absurd hk (Nat.not_lt_zero k), d45⟩, by decide, by decide, by decide⟩, by rw [f9 46 2 rfl, f8 46 2 rfl]; exact x2, fun k hk => absurd hk (Nat.not_lt_zero k), by rw [f9 46 9 rfl, f8 46 9 rfl]; exact x9, fun z => absurd z (by decide), by rw [f9 46 11 rfl, f8 46 11 rfl, x11]; exact x11', by rw [f9 46 14 rfl, f8 46 14 rfl]; exact x14, by rw [f9 46 19 rfl, f8 46 19 rfl]; exact x19, by rw [f9 46 20 rfl, f8 46 20 rfl]; exact x20, fun j hj => by rw [f9 55 j rfl]; exact w55 j hj, fun j hj => by rw [f9 56 j rfl]; exact w56 j hj, fun _ => ⟨⟨D, fun _ _ _ _ => rfl, r8.of (fun k _ => f9 49 k rfl), g53, g54⟩, ?_, ?_, fun k hk => absurd hk (Nat.not_lt_zero k), fun k hk => absurd hk (Nat.not_lt_zero k)⟩⟩
          · rw [f9 46 17 rfl, x17]
            congr 1
            show 2 ^ D 3 - 1 = zall D / 8
            unfold zall; omega
          · rw [f9 46 18 rfl, x18]
            show nI 0 = nI (dzK D (zall D))
            rw [dzK_all]
        | succ r ih =>
          intro j hj I6 f6 hc
          refine fx_188k_196 ?_
          rw [z_le (by decide) (by omega), z_ix (by omega), z_add, f6 50 j rfl]
          refine ⟨fun z => by omega, fun _ => ⟨z_in (by omega) (by decide), z_in (by omega) (by decide), ih (j + 1) (by omega) _ (f6.up rfl) (fun i hi => ?_)⟩⟩
          by_cases e : i = j
          · subst e; rw [up_s]
          · rw [up_k e]; exact hc i (by omega)
      exact lp 279 0 rfl I5 fr.rf (fun i hi => absurd hi (Nat.not_lt_zero i))
    -- more lines
    have lp77 : ∀ fu a D nc I', fr rdT I1 I' → I' 46 2 = nI 0 → mT T.2 n a I' → mDr T.2 D nc I' → okD D nc → n + 2 ≤ a + fu → restF T.2 n fu a D nc = R → mm_w Q (mm_wc (d + 9)) bk_188 77 [some (.ref 46), none, none] [] ((fl, n1, n2, p, q, ad), I', J) := by
      intro fu
      induction fu with
      | zero =>
        intro a D nc I' F' q2 hT hD ho hfu
        have := hT.2.1
        omega
      | succ fu ih =>
        intro a D nc I' F' q2 hT hD ho hfu e
        have hkl := tkK_lt T.2 n a
        rw [restF] at e
        refine fx_188k_77 ⟨fun z => absurd hT.2.2.1 z, fun _ => ?_⟩
        rw [hT.2.2.2.2.2.1, z_eq (by omega) (by decide)]
        refine ⟨fun n59 => fx_188k_104 ⟨fun z => absurd hT.2.2.1 z, fun _ => ?_⟩, fun e59 => ct_176n hT (fun I3 f3 h3 => ⟨_, _, rfl, rfl, ?_⟩)⟩
        · rw [if_neg n59] at e
          rw [hT.2.2.2.2.2.1, z_eq (by omega) (by decide)]
          refine ⟨fun e0 => ?_, fun n0 => ct_177 hT (by decide) (by decide) (fun I3 f3 h3 => ⟨_, _, rfl, rfl, ?_⟩)⟩
          · rw [if_pos e0] at e
            obtain ⟨b0, -, -, -, b3, b4, -, b6, -⟩ := id ho
            have bad : (D 0 = 0 ∨ D 3 = 0 ∨ D 4 = 0 ∨ D 6 = 0) → mm_w Q (mm_wc (d + 9)) bk_188 171 [some (.ref 46), none, none] [] ((fl, n1, n2, p, q, ad), I', J) := fun hl => by
              rw [if_pos hl] at e
              refine fx_188k_171 (ct_177 hT (by decide) (by decide) (fun I3 f3 h3 => ⟨_, _, rfl, rfl, g181 I3 (F'.tr (f3.sub rfl)) (by rw [f3 46 2 rfl]; exact q2) (by rw [← e]; exact h3)⟩))
            refine fx_188k_127 ⟨fun z => absurd hT.2.2.1 z, fun _ => ?_⟩
            rw [hD.1 0 (by decide), hD.1 3 (by decide), hD.1 4 (by decide), hD.1 6 (by decide), z_eq (a := D 0) (by omega) (by decide), z_eq (a := D 3) (by omega) (by decide), z_eq (a := D 4) (by omega) (by decide), z_eq (a := D 6) (by omega) (by decide)]
            refine ⟨fun z => bad (.inl z), fun d0 => ⟨fun z => bad (.inr (.inl z)), fun d3 => ⟨fun z => bad (.inr (.inr (.inl z))), fun d4 => ⟨fun d6 => ?_, fun z => bad (.inr (.inr (.inr z)))⟩⟩⟩⟩
            rw [if_neg (by rintro (z | z | z | z) <;> omega)] at e
            exact g196 I' a D nc F' q2 hT hD ho d0 d3 d4 d6 e.symm
          · rw [if_neg n0] at e
            have h3' : mFl R I3 := by rw [← e]; exact h3
            exact fx_188k_127 ⟨fun _ => g181 I3 (F'.tr (f3.sub rfl)) (by rw [f3 46 2 rfl]; exact q2) h3', fun z => absurd z h3'.n13⟩
        · rw [if_pos e59] at e
          have F3 := F'.tr (f3.sub rfl)
          have hadv := adv (h := by rw [e59]; decide) hT.2.1
          refine ct_190 h3 (hD.fr f3 rfl) ho rfl (fun I4 f4 h4 => ⟨_, _, rfl, rfl, ?_⟩)
          have F4 : fr rdT I1 I4 := F3.tr (f4.sub rfl)
          have q4 : I4 46 2 = nI 0 := by rw [f4 46 2 rfl, f3 46 2 rfl]; exact q2
          rcases h4 with ⟨a1, D1, nc1, el, hT1, hD1⟩ | hf
          · rw [el] at e
            obtain ⟨g1, g2, g3⟩ := lineF_ok hadv.2 ho el
            exact ih a1 D1 nc1 I4 F4 q4 hT1 hD1 g3 (by omega) e
          · obtain ⟨c, pl, el, rest⟩ := hf
            rw [el] at e
            exact g77 I4 F4 q4 ⟨c, pl, e.symm, rest⟩
    -- the beginning
    have lp39 : ∀ r j, r + j = 279 → ∀ I', fr [(50, [])] I2 I' → (∀ i, i < j → I' 50 i = nI 0) → mm_w Q (mm_wc (d + 9)) bk_188 39 [some (.ref 46), some (.int (nI n)), some (.int (nI j))] [] ((fl, n1, n2, p, q, ad), I', J) := by
      intro r
      induction r with
      | zero =>
        intro j hj I3 f3 hc
        refine fx_188k_39 ?_
        rw [z_le (by decide) (by omega)]
        refine ⟨fun _ => ?_, fun z => absurd (by omega) z⟩
        have F3 : fr rdT I1 (mm_up (mm_up I3 46 3 (nI n)) 46 5 (nI 0)) := ((nS2.tr (f3.sub rfl)).up rfl).up rfl
        have t3 : mTp T.2 n (mm_up (mm_up I3 46 3 (nI n)) 46 5 (nI 0)) := ⟨by rw [up_k (by decide), up_s], by omega, fun i hi => by rw [F3 47 i rfl]; exact h1.2.2.1 i (by omega), fun i hi => hT2 i (by omega), by rw [up_k (by decide), up_k (by decide), f3 46 9 rfl]; exact e9⟩
        have u13 : mm_up (mm_up I3 46 3 (nI n)) 46 5 (nI 0) 46 13 = nI 0 := by rw [up_k (by decide), up_k (by decide), f3 46 13 rfl]; exact e13
        have u2 : mm_up (mm_up I3 46 3 (nI n)) 46 5 (nI 0) 46 2 = nI 0 := by rw [up_k (by decide), up_k (by decide), f3 46 2 rfl]; exact e2
        have u5 : mm_up (mm_up I3 46 3 (nI n)) 46 5 (nI 0) 46 5 = nI 0 := up_s _ _ _ _
        have u50 : ∀ i, i < 279 → mm_up (mm_up I3 46 3 (nI n)) 46 5 (nI 0) 50 i = nI 0 := fun i hi => by rw [up_c (by decide), up_c (by decide)]; exact hc i (by omega)
        generalize mm_up (mm_up I3 46 3 (nI n)) 46 5 (nI 0) = I4 at *
        refine ct_176 t3 u13 u5 (Nat.zero_le _) (fun I5 f5 h5 => ⟨_, _, rfl, rfl, ?_⟩)
        have D5 : mDr T.2 (fun _ => 0) (fun _ => 0) I5 := ⟨fun i hi => by rw [f5 50 i rfl]; exact u50 i (by omega), fun m hm => .inl ⟨rfl, by rw [f5 50 _ rfl]; exact u50 _ (by omega)⟩⟩
        refine ct_190 h5 D5 okD_0 rfl (fun I6 f6 h6 => ⟨_, _, rfl, rfl, ?_⟩)
        have F6 : fr rdT I1 I6 := (F3.tr (f5.sub rfl)).tr (f6.sub rfl)
        have q6 : I6 46 2 = nI 0 := by rw [f6 46 2 rfl, f5 46 2 rfl]; exact u2
        unfold readF at hR
        rcases h6 with ⟨a1, D1, nc1, el, hT1, hD1⟩ | hf
        · rw [el] at hR
          obtain ⟨g1, g2, g3⟩ := lineF_ok h5.2.1 okD_0 el
          exact lp77 (n + 1) a1 D1 nc1 I6 F6 q6 hT1 hD1 g3 (by omega) hR
        · obtain ⟨c, pl, el, rest⟩ := hf
          rw [el] at hR
          exact g77 I6 F6 q6 ⟨c, pl, hR.symm, rest⟩
      | succ r ih =>
        intro j hj I3 f3 hc
        refine fx_188k_39 ?_
        rw [z_le (by decide) (by omega), z_ix (by omega), z_add]
        refine ⟨fun z => by omega, fun _ => ⟨z_in (by omega) (by decide), ih (j + 1) (by omega) _ (f3.up rfl) (fun i hi => ?_)⟩⟩
        by_cases e : i = j
        · subst e; rw [up_s]
        · rw [up_k e]; exact hc i (by omega)
    exact lp39 279 0 rfl I2 fr.rf (fun i hi => absurd hi (Nat.not_lt_zero i))
  · rw [decide_eq_false (fun z => hx (hin.mp z))]
    exact ⟨fun z => absurd rfl z, fun _ => ct_167 h1 (by decide) (by decide) (fun I' f' h' => ⟨_, _, _, rfl, rfl, k I' _ T to K P 2 f (f1.tr f') h' (.inl ⟨hx, rfl, rfl, rfl, rfl, rfl, rfl, rfl⟩)⟩)⟩
end RJ
