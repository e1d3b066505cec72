/-! reading: the class's lines -/
theorem ck_ne {q : Bool} {i j : Nat} (h : i ≠ j) : mm_ck q i ≠ mm_ck q j := by
  cases q
  · show 32 + i ≠ 32 + j; omega
  · show 18 + i ≠ 18 + j; omega
theorem ck_r {q : Bool} {j r : Nat} (h : r < 18) : r ≠ mm_ck q j := by
  cases q
  · show r ≠ 32 + j; omega
  · show r ≠ 18 + j; omega
/-- the draft, as far as it is told -/
def dK (I : mmI) (q : Bool) (D : Nat → Nat) : Prop :=
  (I (mm_ck q 1) 0 = nI 10 ∧ I (mm_ck q 5) 0 = nI 5 ∧ I (mm_ck q 8) 0 = nI 4) ∧ I (mm_ck q 1) 3 = nI (D 3) ∧ I (mm_ck q 5) 3 = nI (D 4) ∧ I (mm_ck q 8) 3 = nI (D 5) ∧ I (mm_ck q 0) 6 = nI (D 6) ∧ I (mm_ck q 0) 7 = (if D 0 = 0 then -1 else nI (D 1)) ∧ I (mm_ck q 0) 8 = nI (D 2) ∧ I (mm_ck q 0) 10 = nI (D 7) ∧ I (mm_ck q 0) 11 = (if D 8 = 1 then nI (D 9) else -2) ∧
  (∀ c, c < D 3 → I (mm_ck q 2) c = nI (D (13 + c))) ∧ (∀ c, c < D 3 → I (mm_ck q 3) c = nI (D (24 + c))) ∧ (∀ c, c < D 3 → I (mm_ck q 4) c = nI (D (35 + c))) ∧
  (∀ c, c < D 4 → I (mm_ck q 6) c = nI (D (46 + c))) ∧ (∀ c, c < D 4 → I (mm_ck q 7) c = nI (D (51 + c))) ∧ (∀ c, c < D 5 → I (mm_ck q 9) c = nI (D (56 + c))) ∧ (∀ c, c < D 5 → I (mm_ck q 10) c = nI (D (60 + c))) ∧
  (∀ c, c < D 6 → I (mm_ck q 11) c = nI (D (64 + c))) ∧ (∀ c, c < D 6 → I (mm_ck q 12) c = nI (D (68 + c))) ∧ (∀ k, k < 3 → I (mm_ck q 13) k = nI (if D 7 = 1 then D (10 + k) else if k = 1 then 1 else 0))
theorem dK.of {I I' : mmI} {q : Bool} {D : Nat → Nat} (h : dK I q D) (hf : ∀ j k, j < 14 → I' (mm_ck q j) k = I (mm_ck q j) k) : dK I' q D := by
  unfold dK at h ⊢
  simp (disch := decide) only [hf]
  exact h
theorem dK.fr {I I' : mmI} {q : Bool} {D : Nat → Nat} (h : dK I q D) {L : List (Nat × List Nat)} (hf : fr L I I') (hL : noR 18 46 L = true) : dK I' q D := h.of (fun _ k hj => hf.ck hL q hj k)
def frD (q : Bool) (I I' : mmI) : Prop := ∀ r k, inS cS r k = false → ((∀ j, j < 14 → r ≠ mm_ck q j) ∨ (k = 0 ∧ (r = mm_ck q 1 ∨ r = mm_ck q 5 ∨ r = mm_ck q 8))) → I' r k = I r k
theorem frD.rf {q : Bool} {I : mmI} : frD q I I := fun _ _ _ _ => rfl
theorem frD.tr {q : Bool} {I I' I'' : mmI} (h : frD q I I') (h2 : frD q I' I'') : frD q I I'' := fun r k a b => (h2 r k a b).trans (h r k a b)
theorem fr.D {q : Bool} {I I' : mmI} (h : fr cS I I') : frD q I I' := fun r k a _ => h r k a
theorem frD.up {q : Bool} {I I' : mmI} {j k : Nat} {x : Int32} (h : frD q I I') (hj : j < 14 ∧ (j = 1 ∨ j = 5 ∨ j = 8 → k ≠ 0)) : frD q I (mm_up I' (mm_ck q j) k x) := fun r i a b => by
  rw [up_eq, if_neg]
  · exact h r i a b
  · rintro ⟨e1, e2⟩
    rcases b with b | ⟨b0, b1⟩
    · exact b j hj.1 e1
    · have inj : ∀ t, mm_ck q j = mm_ck q t → j = t := fun t et => by
        rcases Nat.decEq j t with z | z
        · exact absurd et (ck_ne z)
        · exact z
      rw [e1] at b1
      rcases b1 with z | z | z
      · exact hj.2 (.inl (inj _ z)) (by omega)
      · exact hj.2 (.inr (.inl (inj _ z))) (by omega)
      · exact hj.2 (.inr (.inr (inj _ z))) (by omega)
def cDr (q : Bool) (D nc : Nat → Nat) (I : mmI) (J : mmJ) : Prop := dK I q D ∧ ∃ sl, cNs nc (D 3 + D 4 + D 5 + D 6) sl I J
def cEn (b : Nat → Nat) (N : Nat) (q : Bool) (R : zE) (I : mmI) (J : mmJ) : Prop := ∃ a D nc, R = .ok (a, D, nc) ∧ cTk b N a I J ∧ cDr q D nc I J
theorem cTk.ck {b : Nat → Nat} {N a j k : Nat} {q : Bool} {I : mmI} {J : mmJ} {x : Int32} (h : cTk b N a I J) : cTk b N a (mm_up I (mm_ck q j) k x) J := by
  obtain ⟨⟨t1, t2, t3, t4, t5⟩, a1, a2, a3, a4, a5, a6⟩ := h
  have o1 : ∀ i, mm_up I (mm_ck q j) k x 1 i = I 1 i := fun i => up_c (ck_r (by decide))
  exact ⟨⟨by rw [o1]; exact t1, t2, fun i hi => by rw [up_c (ck_r (by decide))]; exact t3 i hi, t4, by rw [o1]; exact t5⟩, a1, by rw [o1]; exact a2, by rw [o1]; exact a3, by rw [o1]; exact a4, fun z => by rw [o1]; exact a5 z, a6⟩
theorem cNs.ck {nc : Nat → Nat} {m j k : Nat} {q : Bool} {sl : Nat → Nat} {I : mmI} {J : mmJ} {x : Int32} (h : cNs nc m sl I J) : cNs nc m sl (mm_up I (mm_ck q j) k x) J := by
  obtain ⟨a, b, c, e⟩ := h
  refine ⟨by rw [up_c (ck_r (by decide))]; exact a, b, fun i hi => ?_, e⟩
  rw [up_c (ck_r (by decide)), up_c (ck_r (by decide))]
  exact c i hi
section SC
variable {d n1 n2 : Nat} {fl : Nat → Bool} {p q : Bool} {ad : Nat → Nat} {I : mmI} {J : mmJ} {Q : mmQ} {b nc D : Nat → Nat} {N a : Nat} {R : zE}
theorem cNs_cs {m : Nat} {sl : Nat → Nat} {I' : mmI} {J' : mmJ} (h : cNs nc m sl I J) (hf : fr aS I I') (hJ : J' 3 = J 3) : cNs nc m sl I' J' := h.fr hf hJ rfl rfl
theorem ct_62 (h : cTk b N a I J) (hD : cDr q D nc I J) (ho : okD D nc) (e : (if D 0 = 0 then cakeF b N (nx b N a) D nc else .error (3, a)) = R) (k1 : ∀ I' J', frD q I I' → cEn b N q R I' J' → Q (some (.int (nI 1))) ((fl, n1, n2, p, q, ad), I', J')) (k0 : ∀ I' J', frD q I I' → cFl R I' → Q (some (.int (nI 0))) ((fl, n1, n2, p, q, ad), I', J')) : mm_wc (d + 5) 62 [.ref 1] ((fl, n1, n2, p, q, ad), I, J) Q := by
  obtain ⟨hK, sl, hN⟩ := hD
  have h1 := ho.2.1
  obtain ⟨m, a3, a4, a5, a6, a7, a8, a10, a11, r2, r3, r4, r6, r7, r9, r10, r11, r12, sh⟩ := id hK
  refine fx_62 ?_
  by_cases d0 : D 0 = 0
  · rw [if_pos d0] at e
    rw [a7, if_pos d0]
    unfold cakeF at e
    refine ⟨fun _ => ct_77n h (fun I1 J1 f1 j1 h1 => ⟨_, _, rfl, rfl, ct_74_near h1 e (fun I2 J2 f2 j2 h2 e2 => ⟨_, _, _, rfl, rfl, fun z => absurd z n10, fun _ => ?_⟩) (fun I2 f2 h2 => ⟨_, _, _, rfl, rfl, fun _ => k0 I2 _ ((f1.sub (M := cS) rfl).D.tr (f2.sub (M := cS) rfl).D) h2, fun z => absurd rfl z⟩)⟩), fun z => absurd rfl z⟩
    have F2 : frD q I I2 := (f1.sub (M := cS) rfl).D.tr (f2.sub (M := cS) rfl).D
    refine ct_75 (by decide) (by decide) h2 e2 (fun I3 J3 f3 j3 h3 v3 l3 u3 e3 => ⟨_, _, _, rfl, rfl, fun _ => ?_, fun z => absurd z n10⟩) (fun I3 f3 h3 => ⟨_, _, _, rfl, rfl, fun z => absurd rfl z, fun _ => k0 I3 _ (F2.tr (f3.sub (M := cS) rfl).D) h3⟩)
    have F3 : frD q I (mm_up I3 (mm_ck q 0) 7 (I3 1 8)) := (F2.tr (f3.sub (M := cS) rfl).D).up (by omega)
    refine ct_74_wax (h3.ck) e3 (fun I4 J4 f4 j4 h4 e4 => ⟨_, _, _, rfl, rfl, fun z => absurd z n10, fun _ => ?_⟩) (fun I4 f4 h4 => ⟨_, _, _, rfl, rfl, fun _ => k0 I4 _ (F3.tr (f4.sub (M := cS) rfl).D) h4, fun z => absurd rfl z⟩)
    have F4 := F3.tr (f4.sub (M := cS) rfl).D
    refine ct_75 (by decide) (by decide) h4 e4 (fun I5 J5 f5 j5 h5 v5 l5 u5 e5 => ⟨_, _, _, rfl, rfl, fun _ => ?_, fun z => absurd z n10⟩) (fun I5 f5 h5 => ⟨_, _, _, rfl, rfl, fun z => absurd rfl z, fun _ => k0 I5 _ (F4.tr (f5.sub (M := cS) rfl).D) h5⟩)
    refine k1 _ J5 ((F4.tr (f5.sub (M := cS) rfl).D).up (by omega)) ⟨_, _, _, e5.symm, h5.ck, ?_, sl, ?_⟩
    · rw [v5]
      generalize tv b N (nx b N (nx b N a)) = v at *
      generalize tv b N (nx b N (nx b N (nx b N (nx b N a)))) = w at *
      have g : ∀ j k, j < 14 → ¬ (j = 0 ∧ (k = 7 ∨ k = 8)) → mm_up I5 (mm_ck q 0) 8 (nI w) (mm_ck q j) k = I (mm_ck q j) k := fun j k hj hn => by
        have e1 : I5 (mm_ck q j) k = mm_up I3 (mm_ck q 0) 7 (I3 1 8) (mm_ck q j) k := by rw [f5.ck rfl q hj, f4.ck rfl q hj]
        have e2 : I3 (mm_ck q j) k = I (mm_ck q j) k := by rw [f3.ck rfl q hj, f2.ck rfl q hj, f1.ck rfl q hj]
        by_cases ej : j = 0
        · subst ej
          rw [up_k (by omega), e1, up_k (by omega), e2]
        · rw [up_c (ck_ne ej), e1, up_c (ck_ne ej), e2]
      have g7 : mm_up I5 (mm_ck q 0) 8 (nI w) (mm_ck q 0) 7 = nI v := by rw [up_k (by decide), f5.ck rfl q (by decide), f4.ck rfl q (by decide), up_s, v3]
      have g8 : mm_up I5 (mm_ck q 0) 8 (nI w) (mm_ck q 0) 8 = nI w := up_s _ _ _ _
      generalize mm_up I5 (mm_ck q 0) 8 (nI w) = I6 at *
      have u : ∀ k, 3 ≤ k → up1 (up1 (up1 D 1 v) 2 w) 0 1 k = D k := fun k hk => by rw [up1_n (by omega), up1_n (by omega), up1_n (by omega)]
      have u0 : up1 (up1 (up1 D 1 v) 2 w) 0 1 0 = 1 := up1_s _ _ _
      have u1 : up1 (up1 (up1 D 1 v) 2 w) 0 1 1 = v := by rw [up1_n (by decide), up1_n (by decide), up1_s]
      have u2 : up1 (up1 (up1 D 1 v) 2 w) 0 1 2 = w := by rw [up1_n (by decide), up1_s]
      generalize up1 (up1 (up1 D 1 v) 2 w) 0 1 = E at *
      have u3' := u 3 (by decide)
      have u4 := u 4 (by decide)
      have u5' := u 5 (by decide)
      have u6 := u 6 (by decide)
      have u7 := u 7 (by decide)
      have u8 := u 8 (by decide)
      have u9 := u 9 (by decide)
      refine ⟨by rw [g 1 0 (by decide) (by omega), g 5 0 (by decide) (by omega), g 8 0 (by decide) (by omega)]; exact m, by rw [g 1 3 (by decide) (by omega), u3']; exact a3, by rw [g 5 3 (by decide) (by omega), u4]; exact a4, by rw [g 8 3 (by decide) (by omega), u5']; exact a5, by rw [g 0 6 (by decide) (by omega), u6]; exact a6, by rw [g7, u0, u1]; rfl, by rw [g8, u2], by rw [g 0 10 (by decide) (by omega), u7]; exact a10, by rw [g 0 11 (by decide) (by omega), u8, u9]; exact a11, ?_, ?_, ?_, ?_, ?_, ?_, ?_, ?_, ?_, ?_⟩
      · intro c hc; rw [u3'] at hc; rw [g 2 c (by decide) (by omega), u _ (by omega)]; exact r2 c hc
      · intro c hc; rw [u3'] at hc; rw [g 3 c (by decide) (by omega), u _ (by omega)]; exact r3 c hc
      · intro c hc; rw [u3'] at hc; rw [g 4 c (by decide) (by omega), u _ (by omega)]; exact r4 c hc
      · intro c hc; rw [u4] at hc; rw [g 6 c (by decide) (by omega), u _ (by omega)]; exact r6 c hc
      · intro c hc; rw [u4] at hc; rw [g 7 c (by decide) (by omega), u _ (by omega)]; exact r7 c hc
      · intro c hc; rw [u5'] at hc; rw [g 9 c (by decide) (by omega), u _ (by omega)]; exact r9 c hc
      · intro c hc; rw [u5'] at hc; rw [g 10 c (by decide) (by omega), u _ (by omega)]; exact r10 c hc
      · intro c hc; rw [u6] at hc; rw [g 11 c (by decide) (by omega), u _ (by omega)]; exact r11 c hc
      · intro c hc; rw [u6] at hc; rw [g 12 c (by decide) (by omega), u _ (by omega)]; exact r12 c hc
      · intro k hk; rw [g 13 k (by decide) (by omega), u7, u _ (by omega)]; exact sh k hk
    · rw [up1_n (by decide), up1_n (by decide), up1_n (by decide), up1_n (by decide), up1_n (by decide), up1_n (by decide), up1_n (by decide), up1_n (by decide), up1_n (by decide), up1_n (by decide), up1_n (by decide), up1_n (by decide)]
      have n3 := ((cNs_cs hN f1 j1).fr f2 j2 rfl rfl).fr f3 j3 rfl rfl
      exact ((n3.ck.fr f4 j4 rfl rfl).fr f5 j5 rfl rfl).ck
  · rw [if_neg d0] at e
    rw [a7, if_neg d0, z_m1 (by omega)]
    exact ⟨False.elim, fun _ => ct_60 h (by decide) (by decide) (fun I' f' h' => ⟨_, _, _, rfl, rfl, .inl rfl, k0 I' J (f'.sub (M := cS) rfl).D (by rw [← e]; exact h')⟩)⟩
end SC
