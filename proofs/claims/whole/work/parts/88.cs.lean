/-! the class's row: kept, and its public call -/
section CS
variable {d n1 n2 s1 s2 : Nat} {b0 b1 b2 p q : Bool} {ad : Nat → Nat} {J : mmJ} {Q : mmQ} {K : Nat → Nat} {I : mmI} {T : zT} {to : Bool} {P : zP} {tr l Lm : Nat} {f : zF}
theorem isD_n {G : Nat → Prop} {a b : Nat} (ha : a < 2 ^ 31) (hb : b < 2 ^ 31) (h : isD G (nI a)) (h' : isD G (nI b)) : a = b := by
  have := h.uq h'
  rwa [z_eq ha hb] at this
theorem isD_g {G : Nat → Prop} {a : Nat} (ha : a < 2 ^ 31) (h : isD G (nI a)) : G a := by
  rcases h with ⟨n, e1, e2, e3, -⟩ | ⟨e1, -⟩
  · rw [z_eq ha e2] at e1
    rw [e1]; exact e3
  · rw [z_m2 ha] at e1; exact e1.elim
abbrev rwS : List (Nat × List Nat) := foS ++ [(74, []), (76, []), (70, [9, 10, 11, 12, 13])]
theorem ct_92 {m i L : Nat} (h : CC T to K P tr f p q l I) (hs : SEi to K l Lm I) (hl : l < 2 ^ 30) (hLm : Lm + 1 < 2 ^ 30) (ht : to = true) (hv : vm K False m) (hL31 : L < 2 ^ 31) (hD : isD (goal0 (kall K) m) (nI L)) (hi : i < L) (k : ∀ I' w, fr rwS I I' → SEi to K l (Lm + 1) I' → rowP K L m w → Q (some (.int (nI (w i)))) ((mm_fl true b1 b2, n1, n2, p, q, ad), I', J)) : mm_wc (d + 6) 92 [.ref 70, .int (nI m), .int (nI i)] ((mm_fl true b1 b2, n1, n2, p, q, ad), I, J) Q := by
  refine fx_92 (ct_82 h hs hl ht hv (fun I1 f1 s1 e9 e10 c1 _ => ⟨_, _, rfl, rfl, fun e => ?_, fun e => ?_⟩))
  · obtain ⟨L', w, w1, w2, w3, w4⟩ := c1.2.2 e
    have eL := isD_n (by omega) hL31 w1 hD
    subst eL
    rw [z_lt (by omega) (by decide), z_le (by decide) (by omega), z_ix (by omega), w4 i hi]
    exact ⟨fun z => absurd z (Nat.not_lt_zero _), fun _ => ⟨fun z => absurd z (by omega), fun _ => ⟨z_in (by omega) (by decide), k I1 w (f1.sub rfl) (s1.up (by omega)) w3⟩⟩⟩
  · obtain ⟨hF, ⟨Lc, hLc, hLL⟩, -, -⟩ := id s1
    refine ct_93 ((h.cake ht).fr f1 rfl) ((h.bd ht).fr f1 rfl rfl rfl rfl) (by rw [f1 6 13 rfl]; exact h.ms) hF hLc (by omega) hv (isD_g hL31 hD) (fun I2 L' w f2 hF2 hL2 w1 w2 w3 w4 => ⟨_, _, rfl, rfl, ?_⟩)
    have eL := isD_n (by omega) hL31 w1 hD
    subst eL
    have ff : fr rwS I (mm_up I2 70 13 (nI 1)) := ((f1.sub rfl).tr (f2.sub rfl)).up rfl
    have fk : ∀ j, j ≠ 13 → mm_up I2 70 13 (nI 1) 70 j = I2 70 j := fun j hj => up_k hj
    have fc : ∀ a j, a ≠ 70 → mm_up I2 70 13 (nI 1) a j = I2 a j := fun a j ha => up_c ha
    have c2 : cac K m (mm_up I2 70 13 (nI 1)) := ⟨by rw [fk 11 (by decide), f2 70 11 rfl]; exact c1.1, by rw [fk 12 (by decide), f2 70 12 rfl]; exact c1.2.1, fun _ => ⟨L', w, w1, w2, w3, fun i hi => by rw [fc 76 i (by decide)]; exact w4 i hi⟩⟩
    have e9' : mm_up I2 70 13 (nI 1) 70 9 = nI l := by rw [fk 9 (by decide), f2 70 9 rfl]; exact e9
    have e10' : mm_up I2 70 13 (nI 1) 70 10 = nI m := by rw [fk 10 (by decide), f2 70 10 rfl]; exact e10
    have s3 : SEi to K l (Lm + 1) (mm_up I2 70 13 (nI 1)) := ⟨cF_of hF2 (fk 5 (by decide)) (fun i => fc 72 i (by decide)) (fun i => fc 71 i (by decide)), ⟨Lc + 1, cLs_of hL2 (fc 77 5 (by decide)) (fun i => fc 80 i (by decide)), by omega⟩, ⟨l, e9', Nat.le_refl _⟩, fun _ _ => ⟨m, hv, e10', c2⟩⟩
    rw [z_lt (by omega) (by decide), z_le (by decide) (by omega), z_ix (by omega), w4 i hi]
    exact ⟨fun z => absurd z (Nat.not_lt_zero _), fun _ => ⟨fun z => absurd z (by omega), fun _ => ⟨z_in (by omega) (by decide), k _ w ff s3 w3⟩⟩⟩
theorem se_now {I0 : mmI} {Lx w : Nat} (hw : w ≤ 6) (hw4 : w ≠ 4) (h : CC T to K P tr f p q l I) (hs : SEi to K l Lx I) (hf : fr seA I0 I) (k : ∀ I', fr seA I0 I' → CC T to K P w f p q l I' → SEi to K l Lx I' → Q (some (.int (-1))) ((mm_fl true b1 b2, s1 + owe 11 true, s2 + owe 53657 true, p, q, ad), I', J)) : mm_wc (d + 1) 159 [.ref 0, .int (nI w)] ((mm_fl true b1 b2, 0, 0, p, q, ad), I, J) (fun v τ => ∃ r4 I4 J4, v = some (.int r4) ∧ τ = (((mm_fl true b1 b2), 0, 0, p, q, ad), I4, J4) ∧ Q (some (.int r4)) (((mm_fl true b1 b2), (s1 + owe 11 b0 - owe 11 b0), (s2 + owe 53657 b0 - owe 53657 b0), p, q, ad), I4, J4)) :=
  ct_159 h hw hw4 (fun I' f' h' => ⟨_, _, _, rfl, rfl, by
    rw [Nat.add_sub_cancel, Nat.add_sub_cancel]
    exact k I' (hf.tr (f'.sub rfl)) h' (hs.of (Nat.le_refl _) (fun r k h1 h2 => f' r k (inS_no (lo := 70) (hi := 81) rfl h1 h2)))⟩)
theorem cd_131 {x : Int32} (h : CC T to K P tr f p q l I) (hs : b0 = true → SEi to K l Lm I) (hl : l < 2 ^ 30) (hL : Lm + 2 < 2 ^ 30) (k : ∀ c0 ad' I' v t, fr seA I I' → CC T to K P t f p q l I' → (c0 = true → SEi to K l (Lm + 2) I') → ra_row to K P x v t → Q (some (.int v)) ((mm_fl c0 b1 b2, s1 + owe 11 c0, s2 + owe 53657 c0, p, q, ad'), I', J)) : mm_wc (d + 7) 131 [.ref 0, .int x] ((mm_fl b0 b1 b2, s1 + owe 11 b0, s2 + owe 53657 b0, p, q, ad), I, J) Q := by
  refine fx_131 ?_
  rw [h.told, bI_0]
  refine ⟨fun e => se_no h hs (Nat.le_add_right _ _) (fun I' f' h' s' => k b0 ad I' _ _ f' h' s' (.inr (.inr ⟨rfl, rfl, .inl e⟩))), fun e => ?_⟩
  have ht : to = true := by simpa using e
  refine ⟨fun hx => ?_, fun hx => se_no h hs (Nat.le_add_right _ _) (fun I' f' h' s' => k b0 ad I' _ _ f' h' s' (.inr (.inr ⟨rfl, rfl, .inr (.inl hx)⟩)))⟩
  refine ⟨owe 11 b0, owe 53657 b0, Nat.le_add_left _ _, Nat.le_add_left _ _, ct_1010 h hs hl (fun ad2 I2 f2 s2 h2 => ⟨_, _, ad2, I2, rfl, rfl, ?_⟩)⟩
  rw [h2.now ht]
  have hv := (h2.vms ht).1
  refine ct_83 h2 s2 hl (by omega) ht hv (fun I3 r f3 s3 _ _ _ hd => ⟨_, _, _, rfl, rfl, ?_⟩)
  have h3 := CC_sf h2 f3 rfl rfl
  have f23 : fr seA I I3 := f2.tr (f3.sub rfl)
  refine ⟨fun hr2 => ?_, fun hr2 => se_now (by decide) (by decide) h3 (s3.up (Lm' := Lm + 2) (by omega)) f23 (fun I' f' h' s' => k true ad2 I' _ _ f' h' (fun _ => s') (.inr (.inl ⟨rfl, rfl, ht, hx, by rw [← hr2]; exact hd⟩)))⟩
  obtain ⟨L, eL, hL31, gL, gm⟩ := (id hd).resolve_right (fun z => hr2 z.1)
  rw [eL] at hd ⊢
  refine ⟨fun hxl => ?_, fun hxl => se_now (by decide) (by decide) h3 (s3.up (Lm' := Lm + 2) (by omega)) f23 (fun I' f' h' s' => k true ad2 I' _ _ f' h' (fun _ => s') (.inr (.inr ⟨rfl, rfl, .inr (.inr ⟨L, hL31, hd, hx, hxl⟩)⟩)))⟩
  rcases z_ca x with z | ⟨i, hi, rfl⟩
  · exact absurd z (by rw [Int32.not_lt]; exact hx)
  rw [z_lt (by omega) hL31] at hxl
  refine ⟨0, 0, Nat.zero_le _, Nat.zero_le _, ct_1010 (b0 := true) h3 (fun _ => s3) hl (fun ad4 I4 f4 s4 h4 => ⟨_, _, ad4, I4, rfl, rfl, ?_⟩)⟩
  rw [h4.now ht, Nat.sub_zero, Nat.sub_zero]
  refine ct_92 h4 s4 hl (by omega) ht hv hL31 hd hxl (fun I5 w f5 s5 hw => ⟨_, _, _, rfl, rfl, ?_⟩)
  exact se_yes (CC_sf h4 f5 rfl rfl) s5 ((f23.tr f4).tr (f5.sub rfl)) (fun I' f' h' s' => k true ad4 I' _ _ f' h' (fun _ => s') (.inl ⟨ht, i, L, w, rfl, hxl, hL31, hd, hw, rfl, rfl⟩))
end CS
