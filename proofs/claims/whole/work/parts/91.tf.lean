/-! team and each: the class's public calls -/
section TF
variable {d n1 n2 s1 s2 : Nat} {b0 b1 b2 p q : Bool} {ad : Nat → Nat} {J : mmJ} {Q : mmQ} {K : Nat → Nat} {I : mmI} {T : zT} {to : Bool} {P : zP} {tr l Lm : Nat} {f : zF}
theorem isT_3 {m : Nat} {r : Int32} (ok : okR K) (h : isT K m r) : r ≠ -3 := by
  have h6 := ok.h
  have hp6 : 2 ^ K 6 ≤ 2 ^ 4 := Nat.pow_le_pow_right (by decide) (by omega)
  rcases h with ⟨S, a1, a2, -⟩ | ⟨a2, -⟩
  · rw [a2, Ne, z_m3 (by omega)]; exact id
  · rw [a2]; decide
theorem ct_100 {m : Nat} (h : CC T to K P tr f p q l I) (hs : SEi to K l Lm I) (hl : l < 2 ^ 30) (hLm : Lm + 400 < 2 ^ 30) (ht : to = true) (hv : vm K False m) (k : ∀ I' r, fr (foS ++ [(70, [9, 10, 11, 12, 13])]) I I' → SEi to K l (Lm + 384) I' → isT K m r → Q (some (.int r)) ((mm_fl true b1 b2, n1, n2, p, q, ad), I', J)) : mm_wc (d + 6) 100 [.ref 70, .int (nI m)] ((mm_fl true b1 b2, n1, n2, p, q, ad), I, J) Q := by
  refine fx_100 (ct_82 h hs hl ht hv (fun I1 f1 s1 e9 e10 c1 _ => ⟨_, _, rfl, rfl, fun e => ?_, fun e => ?_⟩))
  · rcases c1.2.1 with z | z
    · exact absurd z e
    · exact k I1 _ (f1.sub rfl) (s1.up (by omega)) z
  · obtain ⟨hF, ⟨L, hL, hLL⟩, -, -⟩ := id s1
    have hD1 : bD I1 K := (h.bd ht).fr f1 rfl rfl rfl rfl
    have hK1 : cK I1 p K := (h.cake ht).fr f1 rfl
    refine ct_101 hK1 hD1 (by rw [f1 6 13 rfl]; exact h.ms) hF hL (by omega) hv (fun I2 r L2 f2 hF2 hL2 hLL2 hd => ⟨_, _, _, rfl, rfl, ?_⟩)
    have ff : fr (foS ++ [(70, [9, 10, 11, 12, 13])]) I (mm_up I2 70 12 r) := ((f1.sub rfl).tr (f2.sub rfl)).up rfl
    have fk : ∀ j, j ≠ 12 → mm_up I2 70 12 r 70 j = I2 70 j := fun j hj => up_k hj
    have fc : ∀ a j, a ≠ 70 → mm_up I2 70 12 r a j = I2 a j := fun a j ha => up_c ha
    have e9' : mm_up I2 70 12 r 70 9 = nI l := by rw [fk 9 (by decide), f2 70 9 rfl]; exact e9
    have e10' : mm_up I2 70 12 r 70 10 = nI m := by rw [fk 10 (by decide), f2 70 10 rfl]; exact e10
    have c2 : cac K m (mm_up I2 70 12 r) := by
      refine ⟨by rw [fk 11 (by decide), f2 70 11 rfl]; exact c1.1, .inr (by rw [up_s]; exact hd), fun z => ?_⟩
      rw [fk 13 (by decide), f2 70 13 rfl] at z
      obtain ⟨L, w, w1, w2, w3, w4⟩ := c1.2.2 z
      exact ⟨L, w, w1, w2, w3, fun i hi => by rw [fc 76 i (by decide), f2 76 i rfl]; exact w4 i hi⟩
    exact k _ r ff ⟨cF_of hF2 (fk 5 (by decide)) (fun i => fc 72 i (by decide)) (fun i => fc 71 i (by decide)), ⟨L2, cLs_of hL2 (fc 77 5 (by decide)) (fun i => fc 80 i (by decide)), by omega⟩, ⟨l, e9', Nat.le_refl _⟩, fun _ _ => ⟨m, hv, e10', c2⟩⟩ hd
theorem cd_137 (h : CC T to K P tr f p q l I) (hs : b0 = true → SEi to K l Lm I) (hl : l < 2 ^ 30) (hL : Lm + 400 < 2 ^ 30) (k : ∀ c0 ad' I' v t, fr seA I I' → CC T to K P t f p q l I' → (c0 = true → SEi to K l (Lm + 384) I') → rf (to = true) (isT K P.1) v t → Q (some (.int v)) ((mm_fl c0 b1 b2, s1 + owe 11 c0, s2 + owe 53657 c0, p, q, ad'), I', J)) : mm_wc (d + 7) 137 [.ref 0] ((mm_fl b0 b1 b2, s1 + owe 11 b0, s2 + owe 53657 b0, p, q, ad), I, J) Q := by
  refine fx_137 ?_
  rw [h.told, bI_0]
  refine ⟨fun e => se_no h hs (Nat.le_add_right _ _) (fun I' f' h' s' => k b0 ad I' _ _ f' h' s' (.inr ⟨by rw [e]; decide, rfl, rfl⟩)), fun e => ?_⟩
  have ht : to = true := by simpa using e
  refine ⟨owe 11 b0, owe 53657 b0, Nat.le_add_left _ _, Nat.le_add_left _ _, ct_1010 h hs hl (fun ad2 I2 f2 s2 h2 => ⟨_, _, ad2, I2, rfl, rfl, ?_⟩)⟩
  rw [h2.now ht]
  refine ct_100 h2 s2 hl hL ht (h2.vms ht).1 (fun I3 r f3 s3 hd => ⟨_, _, _, rfl, rfl, ?_⟩)
  exact se_yes (CC_sf h2 f3 rfl rfl) s3 (f2.tr (f3.sub rfl)) (fun I' f' h' s' => k true ad2 I' _ _ f' h' (fun _ => s') (.inl ⟨ht, hd, rfl⟩))
theorem cd_136 (h : CC T to K P tr f p q l I) (hs : b0 = true → SEi to K l Lm I) (hl : l < 2 ^ 30) (hL : Lm + 400 < 2 ^ 30) (k : ∀ c0 ad' I' v t, fr seA I I' → CC T to K P t f p q l I' → (c0 = true → SEi to K l (Lm + 384) I') → rf (to = true) (va_each K P) v t → Q (some (.int v)) ((mm_fl c0 b1 b2, s1 + owe 11 c0, s2 + owe 53657 c0, p, q, ad'), I', J)) : mm_wc (d + 7) 136 [.ref 0] ((mm_fl b0 b1 b2, s1 + owe 11 b0, s2 + owe 53657 b0, p, q, ad), I, J) Q := by
  refine fx_136 ?_
  rw [h.told, bI_0]
  refine ⟨fun e => ?_, fun e => se_no h hs (Nat.le_add_right _ _) (fun I' f' h' s' => k b0 ad I' _ _ f' h' s' (.inr ⟨by rw [e]; decide, rfl, rfl⟩))⟩
  have ht : to = true := by simpa using e
  have h6 := (h.ok ht).h
  have hp6 : 2 ^ K 6 ≤ 2 ^ 4 := Nat.pow_le_pow_right (by decide) (by omega)
  refine ⟨owe 11 b0, owe 53657 b0, Nat.le_add_left _ _, Nat.le_add_left _ _, ct_1010 h hs hl (fun ad2 I2 f2 s2 h2 => ⟨_, _, ad2, I2, rfl, rfl, ?_⟩)⟩
  rw [h2.now ht]
  refine ct_100 h2 s2 hl hL ht (h2.vms ht).1 (fun I3 r f3 s3 hd => ⟨_, _, _, rfl, rfl, fun e => ?_, fun e => ?_⟩)
  · rcases id hd with ⟨S, a1, a2, -⟩ | ⟨a2, -⟩
    · rw [a2]
      refine ct_278 (by omega) ⟨_, _, _, rfl, rfl, ?_⟩
      exact se_yes (CC_sf h2 f3 rfl rfl) s3 (f2.tr (f3.sub rfl)) (fun I' f' h' s' => k true ad2 I' _ _ f' h' (fun _ => s') (.inl ⟨ht, ⟨r, hd, .inr ⟨S, a1, a2, rfl⟩⟩, rfl⟩))
    · exact absurd a2 e
  · exact se_yes (CC_sf h2 f3 rfl rfl) s3 (f2.tr (f3.sub rfl)) (fun I' f' h' s' => k true ad2 I' _ _ f' h' (fun _ => s') (.inl ⟨ht, ⟨r, hd, .inl ⟨e, rfl⟩⟩, rfl⟩))
theorem va_each.uq {v v' : Int32} (ok : okR K) (h : va_each K P v) (h' : va_each K P v') : v = v' := by
  have h6 := ok.h
  have hp6 : 2 ^ K 6 ≤ 2 ^ 4 := Nat.pow_le_pow_right (by decide) (by omega)
  obtain ⟨r, a, b⟩ := h
  obtain ⟨r', a', b'⟩ := h'
  have := a.uq a'
  subst this
  rcases b with ⟨e1, e2⟩ | ⟨S, e0, e1, e2⟩ <;> rcases b' with ⟨e1', e2'⟩ | ⟨S', e0', e1', e2'⟩
  · rw [e2, e2']
  · rw [e1, eq_comm, z_m2 (by omega)] at e1'; exact e1'.elim
  · rw [e1', eq_comm, z_m2 (by omega)] at e1; exact e1.elim
  · rw [e1, z_eq (by omega) (by omega)] at e1'
    rw [e2, e2', e1']
end TF
