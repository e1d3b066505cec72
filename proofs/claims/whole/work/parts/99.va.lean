/-! the searches' calls: room is owed only where they answer -/
section VA
variable {d n1 n2 : Nat} {b0 b1 b2 p q : Bool} {ad : Nat → Nat} {J : mmJ} {Q : mmQ} {K : Nat → Nat} {I : mmI} {T : zT} {to : Bool} {P : zP} {tr l Lm : Nat} {f : zF}
theorem sy_yes {I0 : mmI} {Lx : Nat} {r : Int32} (h : CC T to K P tr f p q l I) (hs : SEi to K l Lx I) (hf : fr seA I0 I) (k : ∀ I', fr seA I0 I' → CC T to K P 0 f p q l I' → SEi to K l Lx I' → Q (some (.int r)) ((mm_fl true b1 b2, n1, n2, p, q, ad), I', J)) : mm_wc (d + 1) 160 [.ref 0, .int r] ((mm_fl true b1 b2, 0, 0, p, q, ad), I, J) (fun v τ => ∃ r4 I4 J4, v = some (.int r4) ∧ τ = (((mm_fl true b1 b2), 0, 0, p, q, ad), I4, J4) ∧ Q (some (.int r4)) (((mm_fl true b1 b2), n1, n2, p, q, ad), I4, J4)) :=
  ct_160 h (fun I' f' h' => ⟨_, _, _, rfl, rfl, k I' (hf.tr (f'.sub rfl)) h' (hs.of (Nat.le_refl _) (fun r k h1 h2 => f' r k (inS_no (lo := 70) (hi := 81) rfl h1 h2)))⟩)
theorem sy_now {I0 : mmI} {Lx w : Nat} (hw : w ≤ 6) (hw4 : w ≠ 4) (h : CC T to K P tr f p q l I) (hs : SEi to K l Lx I) (hf : fr seA I0 I) (k : ∀ I', fr seA I0 I' → CC T to K P w f p q l I' → SEi to K l Lx I' → Q (some (.int (-1))) ((mm_fl true b1 b2, n1, n2, p, q, ad), I', J)) : mm_wc (d + 1) 159 [.ref 0, .int (nI w)] ((mm_fl true b1 b2, 0, 0, p, q, ad), I, J) (fun v τ => ∃ r4 I4 J4, v = some (.int r4) ∧ τ = (((mm_fl true b1 b2), 0, 0, p, q, ad), I4, J4) ∧ Q (some (.int r4)) (((mm_fl true b1 b2), n1, n2, p, q, ad), I4, J4)) :=
  ct_159 h hw hw4 (fun I' f' h' => ⟨_, _, _, rfl, rfl, k I' (hf.tr (f'.sub rfl)) h' (hs.of (Nat.le_refl _) (fun r k h1 h2 => f' r k (inS_no (lo := 70) (hi := 81) rfl h1 h2)))⟩)
theorem ce_130 (h : CC T to K P tr f p q l I) (hs : b0 = true → SEi to K l Lm I) (hl : l < 2 ^ 30) (hL : Lm + 1 < 2 ^ 30) (hR : (to = true) → owe 11 b0 ≤ n1 ∧ owe 53657 b0 ≤ n2) (k : ∀ c0 m1 m2 ad' I' v t, (c0 = true ∨ c0 = b0 ∧ ¬ (to = true)) → fr seA I I' → CC T to K P t f p q l I' → (c0 = true → SEi to K l (Lm + 1) I') → rf (to = true) (isD (goal0 (ksc K 0 0 (fanK K) (fun _ => True)) P.1)) v t → Q (some (.int v)) ((mm_fl c0 b1 b2, m1, m2, p, q, ad'), I', J)) : mm_wc (d + 6) 130 [.ref 0] ((mm_fl b0 b1 b2, n1, n2, p, q, ad), I, J) Q := by
  refine fx_130 ?_
  rw [h.told, bI_0]
  refine ⟨fun e => se_no h hs (Nat.le_succ _) (fun I' f' h' s' => k b0 _ _ ad I' _ _ (.inr ⟨rfl, by rw [e]; decide⟩) f' h' s' (.inr ⟨by rw [e]; decide, rfl, rfl⟩)), fun e => ?_⟩
  have ht : to = true := by simpa using e
  refine ⟨owe 11 b0, owe 53657 b0, (hR ht).1, (hR ht).2, ct_1010 h hs hl (fun ad2 I2 f2 s2 h2 => ⟨_, _, ad2, I2, rfl, rfl, ?_⟩)⟩
  rw [h2.now ht]
  refine ct_83 h2 s2 hl hL ht (h2.vms ht).1 (fun I3 r f3 s3 _ _ _ hd => ⟨_, _, _, rfl, rfl, ?_⟩)
  exact sy_yes (CC_sf h2 f3 rfl rfl) s3 (f2.tr (f3.sub rfl)) (fun I' f' h' s' => k true _ _ ad2 I' _ _ (.inl rfl) f' h' (fun _ => s') (.inl ⟨ht, hd, rfl⟩))
theorem ce_131 {x : Int32} (h : CC T to K P tr f p q l I) (hs : b0 = true → SEi to K l Lm I) (hl : l < 2 ^ 30) (hL : Lm + 2 < 2 ^ 30) (hR : (to = true ∧ nI 0 ≤ x) → owe 11 b0 ≤ n1 ∧ owe 53657 b0 ≤ n2) (k : ∀ c0 m1 m2 ad' I' v t, (c0 = true ∨ c0 = b0 ∧ ¬ (to = true ∧ nI 0 ≤ x)) → fr seA I I' → CC T to K P t f p q l I' → (c0 = true → SEi to K l (Lm + 2) I') → ra_row to K P x v t → Q (some (.int v)) ((mm_fl c0 b1 b2, m1, m2, p, q, ad'), I', J)) : mm_wc (d + 7) 131 [.ref 0, .int x] ((mm_fl b0 b1 b2, n1, n2, p, q, ad), I, J) Q := by
  refine fx_131 ?_
  rw [h.told, bI_0]
  refine ⟨fun e => se_no h hs (Nat.le_add_right _ _) (fun I' f' h' s' => k b0 _ _ ad I' _ _ (.inr ⟨rfl, fun z => by rw [e] at z; cases z.1⟩) f' h' s' (.inr (.inr ⟨rfl, rfl, .inl e⟩))), fun e => ?_⟩
  have ht : to = true := by simpa using e
  refine ⟨fun hx => ?_, fun hx => se_no h hs (Nat.le_add_right _ _) (fun I' f' h' s' => k b0 _ _ ad I' _ _ (.inr ⟨rfl, fun z => hx z.2⟩) f' h' s' (.inr (.inr ⟨rfl, rfl, .inr (.inl hx)⟩)))⟩
  refine ⟨owe 11 b0, owe 53657 b0, (hR ⟨ht, hx⟩).1, (hR ⟨ht, hx⟩).2, ct_1010 h hs hl (fun ad2 I2 f2 s2 h2 => ⟨_, _, ad2, I2, rfl, rfl, ?_⟩)⟩
  rw [h2.now ht]
  have hv := (h2.vms ht).1
  refine ct_83 h2 s2 hl (by omega) ht hv (fun I3 r f3 s3 _ _ _ hd => ⟨_, _, _, rfl, rfl, ?_⟩)
  have h3 := CC_sf h2 f3 rfl rfl
  have f23 : fr seA I I3 := f2.tr (f3.sub rfl)
  refine ⟨fun hr2 => ?_, fun hr2 => sy_now (by decide) (by decide) h3 (s3.up (Lm' := Lm + 2) (by omega)) f23 (fun I' f' h' s' => k true _ _ ad2 I' _ _ (.inl rfl) f' h' (fun _ => s') (.inr (.inl ⟨rfl, rfl, ht, hx, by rw [← hr2]; exact hd⟩)))⟩
  obtain ⟨L, eL, hL31, gL, gm⟩ := (id hd).resolve_right (fun z => hr2 z.1)
  rw [eL] at hd ⊢
  refine ⟨fun hxl => ?_, fun hxl => sy_now (by decide) (by decide) h3 (s3.up (Lm' := Lm + 2) (by omega)) f23 (fun I' f' h' s' => k true _ _ ad2 I' _ _ (.inl rfl) f' h' (fun _ => s') (.inr (.inr ⟨rfl, rfl, .inr (.inr ⟨L, hL31, hd, hx, hxl⟩)⟩)))⟩
  rcases z_ca x with z | ⟨i, hi, rfl⟩
  · exact absurd z (by rw [Int32.not_lt]; exact hx)
  rw [z_lt (by omega) hL31] at hxl
  refine ⟨0, 0, Nat.zero_le _, Nat.zero_le _, ct_1010 (b0 := true) h3 (fun _ => s3) hl (fun ad4 I4 f4 s4 h4 => ⟨_, _, ad4, I4, rfl, rfl, ?_⟩)⟩
  rw [h4.now ht]
  refine ct_92 h4 s4 hl (by omega) ht hv hL31 hd hxl (fun I5 w f5 s5 hw => ⟨_, _, _, rfl, rfl, ?_⟩)
  exact sy_yes (CC_sf h4 f5 rfl rfl) s5 ((f23.tr f4).tr (f5.sub rfl)) (fun I' f' h' s' => k true _ _ ad4 I' _ _ (.inl rfl) f' h' (fun _ => s') (.inl ⟨ht, i, L, w, rfl, hxl, hL31, hd, hw, rfl, rfl⟩))
theorem ce_132 {x : Int32} (h : CC T to K P tr f p q l I) (hs : b0 = true → SEi to K l Lm I) (hl : l < 2 ^ 30) (hL : Lm + 1 < 2 ^ 30) (hR : (to = true ∧ ix (K 4) x) → owe 11 b0 ≤ n1 ∧ owe 53657 b0 ≤ n2) (k : ∀ c0 m1 m2 ad' I' v t, (c0 = true ∨ c0 = b0 ∧ ¬ (to = true ∧ ix (K 4) x)) → fr seA I I' → CC T to K P t f p q l I' → (c0 = true → SEi to K l (Lm + 1) I') → rf (to = true ∧ ix (K 4) x) (va_from K P x) v t → Q (some (.int v)) ((mm_fl c0 b1 b2, m1, m2, p, q, ad'), I', J)) : mm_wc (d + 5) 132 [.ref 0, .int x] ((mm_fl b0 b1 b2, n1, n2, p, q, ad), I, J) Q := by
  refine fx_132 (ct_154 h (fun c ht hc ec => ⟨_, _, _, rfl, rfl, fun _ => ?_, fun z => absurd z n10⟩) (fun hn => ⟨_, _, _, rfl, rfl, fun z => absurd rfl z, fun _ => se_no h hs (Nat.le_succ _) (fun I' f' h' s' => k b0 _ _ ad I' _ _ (.inr ⟨rfl, hn⟩) f' h' s' (.inr ⟨hn, rfl, rfl⟩))⟩))
  have ok := h.ok ht
  have hc' := ok.p
  refine ⟨owe 11 b0, owe 53657 b0, (hR ⟨ht, c, hc, ec⟩).1, (hR ⟨ht, c, hc, ec⟩).2, ct_1010 h hs hl (fun ad2 I2 f2 s2 h2 => ⟨_, _, ad2, I2, rfl, rfl, ?_⟩)⟩
  obtain ⟨hF, ⟨L, hLs, hLL⟩, -, -⟩ := id s2
  rw [h2.now ht, ec]
  refine ct_84 (h2.cake ht) (h2.bd ht) h2.ms hF hLs (by omega) (by decide) (h2.vms ht).1 (fun _ I3 _ _ r _ _ _ f3 hF3 hL3 hd => ⟨_, _, _, rfl, rfl, ?_⟩)
  have s3 := (s2.run (f3.sub rfl) hF3 hL3).up (Lm' := Lm + 1) (by omega)
  rw [lP_c ok true (by omega) (by decide)] at hd
  refine sy_yes (CC_sf h2 f3 rfl rfl) s3 (f2.tr (f3.sub rfl)) (fun I' f' h' s' => k true _ _ ad2 I' _ _ (.inl rfl) f' h' (fun _ => s') (.inl ⟨⟨ht, c, hc, ec⟩, ⟨c, hc, ec, ?_⟩, rfl⟩))
  have e : (fun b => (ow K 1 b = c) ↔ true = true) = fun b => b / 16 % K 4 = c := by funext b; simp [ow]
  rw [e] at hd
  exact hd
theorem ce_133 {x : Int32} (h : CC T to K P tr f p q l I) (hs : b0 = true → SEi to K l Lm I) (hl : l < 2 ^ 30) (hL : Lm + 1 < 2 ^ 30) (hR : (to = true ∧ ix (K 6) x) → owe 11 b0 ≤ n1 ∧ owe 53657 b0 ≤ n2) (k : ∀ c0 m1 m2 ad' I' v t, (c0 = true ∨ c0 = b0 ∧ ¬ (to = true ∧ ix (K 6) x)) → fr seA I I' → CC T to K P t f p q l I' → (c0 = true → SEi to K l (Lm + 1) I') → rf (to = true ∧ ix (K 6) x) (va_by K P x) v t → Q (some (.int v)) ((mm_fl c0 b1 b2, m1, m2, p, q, ad'), I', J)) : mm_wc (d + 5) 133 [.ref 0, .int x] ((mm_fl b0 b1 b2, n1, n2, p, q, ad), I, J) Q := by
  refine fx_133 (ct_155 h (fun c ht hc ec => ⟨_, _, _, rfl, rfl, fun _ => ?_, fun z => absurd z n10⟩) (fun hn => ⟨_, _, _, rfl, rfl, fun z => absurd rfl z, fun _ => se_no h hs (Nat.le_succ _) (fun I' f' h' s' => k b0 _ _ ad I' _ _ (.inr ⟨rfl, hn⟩) f' h' s' (.inr ⟨hn, rfl, rfl⟩))⟩))
  have ok := h.ok ht
  have hc' := ok.h
  refine ⟨owe 11 b0, owe 53657 b0, (hR ⟨ht, c, hc, ec⟩).1, (hR ⟨ht, c, hc, ec⟩).2, ct_1010 h hs hl (fun ad2 I2 f2 s2 h2 => ⟨_, _, ad2, I2, rfl, rfl, ?_⟩)⟩
  obtain ⟨hF, ⟨L, hLs, hLL⟩, -, -⟩ := id s2
  rw [h2.now ht, ec]
  refine ct_84 (h2.cake ht) (h2.bd ht) h2.ms hF hLs (by omega) (by decide) (h2.vms ht).1 (fun _ I3 _ _ r _ _ _ f3 hF3 hL3 hd => ⟨_, _, _, rfl, rfl, ?_⟩)
  have s3 := (s2.run (f3.sub rfl) hF3 hL3).up (Lm' := Lm + 1) (by omega)
  rw [lP_c ok true (by omega) (by decide)] at hd
  refine sy_yes (CC_sf h2 f3 rfl rfl) s3 (f2.tr (f3.sub rfl)) (fun I' f' h' s' => k true _ _ ad2 I' _ _ (.inl rfl) f' h' (fun _ => s') (.inl ⟨⟨ht, c, hc, ec⟩, ⟨c, hc, ec, ?_⟩, rfl⟩))
  have e : (fun b => (ow K 2 b = c) ↔ true = true) = fun b => b / 16 / K 4 = c := by funext b; simp [ow]
  rw [e] at hd
  exact hd
theorem ce_134 (h : CC T to K P tr f p q l I) (hs : b0 = true → SEi to K l Lm I) (hl : l < 2 ^ 30) (hL : Lm + 1 < 2 ^ 30) (hR : (to = true) → owe 11 b0 ≤ n1 ∧ owe 53657 b0 ≤ n2) (k : ∀ c0 m1 m2 ad' I' v t, (c0 = true ∨ c0 = b0 ∧ ¬ (to = true)) → fr seA I I' → CC T to K P t f p q l I' → (c0 = true → SEi to K l (Lm + 1) I') → rf (to = true) (va_inTime K P) v t → Q (some (.int v)) ((mm_fl c0 b1 b2, m1, m2, p, q, ad'), I', J)) : mm_wc (d + 6) 134 [.ref 0] ((mm_fl b0 b1 b2, n1, n2, p, q, ad), I, J) Q := by
  refine fx_134 ?_
  rw [h.told, bI_0]
  refine ⟨fun e => ?_, fun e => se_no h hs (Nat.le_succ _) (fun I' f' h' s' => k b0 _ _ ad I' _ _ (.inr ⟨rfl, by rw [e]; decide⟩) f' h' s' (.inr ⟨by rw [e]; decide, rfl, rfl⟩))⟩
  have ht : to = true := by simpa using e
  refine ⟨owe 11 b0, owe 53657 b0, (hR ht).1, (hR ht).2, ct_1010 h hs hl (fun ad2 I2 f2 s2 h2 => ⟨_, _, ad2, I2, rfl, rfl, ?_⟩)⟩
  rw [h2.now ht]
  refine ct_83 h2 s2 hl hL ht (h2.vms ht).1 (fun I3 r f3 s3 _ _ _ hd => ⟨_, _, _, rfl, rfl, ?_⟩)
  have h3 := CC_sf h2 f3 rfl rfl
  have e8 : I3 (mm_ck p 0) 8 = nI (K 2) := (h3.cake ht).2.2.2.2.2.2.1
  rw [e8]
  refine ⟨fun z => sy_yes h3 s3 (f2.tr (f3.sub rfl)) (fun I' f' h' s' => k true _ _ ad2 I' _ _ (.inl rfl) f' h' (fun _ => s') (.inl ⟨ht, ⟨r, hd, ?_⟩, rfl⟩)), fun z => ⟨fun w => sy_yes h3 s3 (f2.tr (f3.sub rfl)) (fun I' f' h' s' => k true _ _ ad2 I' _ _ (.inl rfl) f' h' (fun _ => s') (.inl ⟨ht, ⟨r, hd, ?_⟩, rfl⟩)), fun w => sy_yes h3 s3 (f2.tr (f3.sub rfl)) (fun I' f' h' s' => k true _ _ ad2 I' _ _ (.inl rfl) f' h' (fun _ => s') (.inl ⟨ht, ⟨r, hd, ?_⟩, rfl⟩))⟩⟩
  · rw [if_neg (fun y => y.1 z)]
  · rw [if_neg (fun y => y.2 w)]
  · rw [if_pos ⟨z, w⟩]
theorem ce_135 {x y : Int32} (h : CC T to K P tr f p q l I) (hs : b0 = true → SEi to K l Lm I) (hl : l < 2 ^ 30) (hL : Lm + 1 < 2 ^ 30) (hR : (to = true ∧ ix (K 6) x ∧ ix (K 4) y) → owe 11 b0 ≤ n1 ∧ owe 53657 b0 ≤ n2) (k : ∀ c0 m1 m2 ad' I' v t, (c0 = true ∨ c0 = b0 ∧ ¬ (to = true ∧ ix (K 6) x ∧ ix (K 4) y)) → fr seA I I' → CC T to K P t f p q l I' → (c0 = true → SEi to K l (Lm + 1) I') → rf (to = true ∧ ix (K 6) x ∧ ix (K 4) y) (va_walk K P x y) v t → Q (some (.int v)) ((mm_fl c0 b1 b2, m1, m2, p, q, ad'), I', J)) : mm_wc (d + 6) 135 [.ref 0, .int x, .int y] ((mm_fl b0 b1 b2, n1, n2, p, q, ad), I, J) Q := by
  refine fx_135 (ct_155 h (fun g ht hg eg => ⟨_, _, _, rfl, rfl, fun z => absurd z n10, fun _ => ?_⟩) (fun hn => ⟨_, _, _, rfl, rfl, fun _ => se_no h hs (Nat.le_succ _) (fun I' f' h' s' => k b0 _ _ ad I' _ _ (.inr ⟨rfl, fun z => hn ⟨z.1, z.2.1⟩⟩) f' h' s' (.inr ⟨fun z => hn ⟨z.1, z.2.1⟩, rfl, rfl⟩)), fun z => absurd rfl z⟩))
  refine ct_154 h (fun pl _ hpl epl => ⟨_, _, _, rfl, rfl, fun _ => ?_, fun z => absurd z n10⟩) (fun hn => ⟨_, _, _, rfl, rfl, fun z => absurd rfl z, fun _ => se_no h hs (Nat.le_succ _) (fun I' f' h' s' => k b0 _ _ ad I' _ _ (.inr ⟨rfl, fun z => hn ⟨z.1, z.2.2⟩⟩) f' h' s' (.inr ⟨fun z => hn ⟨z.1, z.2.2⟩, rfl, rfl⟩))⟩)
  refine ⟨owe 11 b0, owe 53657 b0, (hR ⟨ht, ⟨g, hg, eg⟩, ⟨pl, hpl, epl⟩⟩).1, (hR ⟨ht, ⟨g, hg, eg⟩, ⟨pl, hpl, epl⟩⟩).2, ct_1010 h hs hl (fun ad2 I2 f2 s2 h2 => ⟨_, _, ad2, I2, rfl, rfl, ?_⟩)⟩
  obtain ⟨hF, ⟨L, hLs, hLL⟩, -, -⟩ := id s2
  rw [h2.now ht, eg, epl]
  refine ct_96 (h2.cake ht) (h2.bd ht) h2.ms hF hLs (by omega) (h2.vms ht).1 hg hpl (fun I3 r f3 hF3 hL3 hd => ⟨_, _, _, rfl, rfl, ?_⟩)
  have s3 : SEi to K l (Lm + 1) I3 := SE_run s2 f3 ⟨rfl, rfl, rfl, rfl, rfl⟩ rfl hF3 hL3 (by omega) (by omega)
  refine sy_yes (CC_sf h2 f3 rfl rfl) s3 (f2.tr (f3.sub rfl)) (fun I' f' h' s' => k true _ _ ad2 I' _ _ (.inl rfl) f' h' (fun _ => s') (.inl ⟨⟨ht, ⟨g, hg, eg⟩, ⟨pl, hpl, epl⟩⟩, ⟨g, pl, hg, eg, hpl, epl, hd⟩, rfl⟩))
theorem ce_136 (h : CC T to K P tr f p q l I) (hs : b0 = true → SEi to K l Lm I) (hl : l < 2 ^ 30) (hL : Lm + 400 < 2 ^ 30) (hR : (to = true) → owe 11 b0 ≤ n1 ∧ owe 53657 b0 ≤ n2) (k : ∀ c0 m1 m2 ad' I' v t, (c0 = true ∨ c0 = b0 ∧ ¬ (to = true)) → fr seA I I' → CC T to K P t f p q l I' → (c0 = true → SEi to K l (Lm + 384) I') → rf (to = true) (va_each K P) v t → Q (some (.int v)) ((mm_fl c0 b1 b2, m1, m2, p, q, ad'), I', J)) : mm_wc (d + 7) 136 [.ref 0] ((mm_fl b0 b1 b2, n1, n2, p, q, ad), I, J) Q := by
  refine fx_136 ?_
  rw [h.told, bI_0]
  refine ⟨fun e => ?_, fun e => se_no h hs (Nat.le_add_right _ _) (fun I' f' h' s' => k b0 _ _ ad I' _ _ (.inr ⟨rfl, by rw [e]; decide⟩) f' h' s' (.inr ⟨by rw [e]; decide, rfl, rfl⟩))⟩
  have ht : to = true := by simpa using e
  have h6 := (h.ok ht).h
  have hp6 : 2 ^ K 6 ≤ 2 ^ 4 := Nat.pow_le_pow_right (by decide) (by omega)
  refine ⟨owe 11 b0, owe 53657 b0, (hR ht).1, (hR ht).2, ct_1010 h hs hl (fun ad2 I2 f2 s2 h2 => ⟨_, _, ad2, I2, rfl, rfl, ?_⟩)⟩
  rw [h2.now ht]
  refine ct_100 h2 s2 hl hL ht (h2.vms ht).1 (fun I3 r f3 s3 hd => ⟨_, _, _, rfl, rfl, fun e => ?_, fun e => ?_⟩)
  · rcases id hd with ⟨S, a1, a2, -⟩ | ⟨a2, -⟩
    · rw [a2]
      refine ct_278 (by omega) ⟨_, _, _, rfl, rfl, ?_⟩
      exact sy_yes (CC_sf h2 f3 rfl rfl) s3 (f2.tr (f3.sub rfl)) (fun I' f' h' s' => k true _ _ ad2 I' _ _ (.inl rfl) f' h' (fun _ => s') (.inl ⟨ht, ⟨r, hd, .inr ⟨S, a1, a2, rfl⟩⟩, rfl⟩))
    · exact absurd a2 e
  · exact sy_yes (CC_sf h2 f3 rfl rfl) s3 (f2.tr (f3.sub rfl)) (fun I' f' h' s' => k true _ _ ad2 I' _ _ (.inl rfl) f' h' (fun _ => s') (.inl ⟨ht, ⟨r, hd, .inl ⟨e, rfl⟩⟩, rfl⟩))
theorem ce_137 (h : CC T to K P tr f p q l I) (hs : b0 = true → SEi to K l Lm I) (hl : l < 2 ^ 30) (hL : Lm + 400 < 2 ^ 30) (hR : (to = true) → owe 11 b0 ≤ n1 ∧ owe 53657 b0 ≤ n2) (k : ∀ c0 m1 m2 ad' I' v t, (c0 = true ∨ c0 = b0 ∧ ¬ (to = true)) → fr seA I I' → CC T to K P t f p q l I' → (c0 = true → SEi to K l (Lm + 384) I') → rf (to = true) (isT K P.1) v t → Q (some (.int v)) ((mm_fl c0 b1 b2, m1, m2, p, q, ad'), I', J)) : mm_wc (d + 7) 137 [.ref 0] ((mm_fl b0 b1 b2, n1, n2, p, q, ad), I, J) Q := by
  refine fx_137 ?_
  rw [h.told, bI_0]
  refine ⟨fun e => se_no h hs (Nat.le_add_right _ _) (fun I' f' h' s' => k b0 _ _ ad I' _ _ (.inr ⟨rfl, by rw [e]; decide⟩) f' h' s' (.inr ⟨by rw [e]; decide, rfl, rfl⟩)), fun e => ?_⟩
  have ht : to = true := by simpa using e
  refine ⟨owe 11 b0, owe 53657 b0, (hR ht).1, (hR ht).2, ct_1010 h hs hl (fun ad2 I2 f2 s2 h2 => ⟨_, _, ad2, I2, rfl, rfl, ?_⟩)⟩
  rw [h2.now ht]
  refine ct_100 h2 s2 hl hL ht (h2.vms ht).1 (fun I3 r f3 s3 hd => ⟨_, _, _, rfl, rfl, ?_⟩)
  exact sy_yes (CC_sf h2 f3 rfl rfl) s3 (f2.tr (f3.sub rfl)) (fun I' f' h' s' => k true _ _ ad2 I' _ _ (.inl rfl) f' h' (fun _ => s') (.inl ⟨ht, hd, rfl⟩))
theorem ce_139 {x : Int32} (h : CC T to K P tr f p q l I) (hs : b0 = true → SEi to K l Lm I) (hl : l < 2 ^ 30) (hL : Lm + 1 < 2 ^ 30) (hR : (to = true ∧ ix (K 3) x) → owe 11 b0 ≤ n1 ∧ owe 53657 b0 ≤ n2) (k : ∀ c0 m1 m2 ad' I' v t, (c0 = true ∨ c0 = b0 ∧ ¬ (to = true ∧ ix (K 3) x)) → fr seA I I' → CC T to K P t f p q l I' → (c0 = true → SEi to K l (Lm + 1) I') → rf (to = true ∧ ix (K 3) x) (va_soonest K P x) v t → Q (some (.int v)) ((mm_fl c0 b1 b2, m1, m2, p, q, ad'), I', J)) : mm_wc (d + 5) 139 [.ref 0, .int x] ((mm_fl b0 b1 b2, n1, n2, p, q, ad), I, J) Q := by
  refine fx_139 (ct_153 h (fun c ht hc ec => ⟨_, _, _, rfl, rfl, fun _ => ?_, fun z => absurd z n10⟩) (fun hn => ⟨_, _, _, rfl, rfl, fun z => absurd rfl z, fun _ => se_no h hs (Nat.le_succ _) (fun I' f' h' s' => k b0 _ _ ad I' _ _ (.inr ⟨rfl, hn⟩) f' h' s' (.inr ⟨hn, rfl, rfl⟩))⟩))
  refine ⟨owe 11 b0, owe 53657 b0, (hR ⟨ht, c, hc, ec⟩).1, (hR ⟨ht, c, hc, ec⟩).2, ct_1010 h hs hl (fun ad2 I2 f2 s2 h2 => ⟨_, _, ad2, I2, rfl, rfl, ?_⟩)⟩
  obtain ⟨hF, ⟨L, hLs, hLL⟩, -, -⟩ := id s2
  rw [h2.now ht, ec]
  refine ct_88 (h2.cake ht) (h2.bd ht) h2.ms hF hLs (by omega) (h2.vms ht).1 hc (fun I3 r f3 hF3 hL3 hd => ⟨_, _, _, rfl, rfl, ?_⟩)
  have s3 := (s2.run (f3.sub rfl) hF3 hL3).up (Lm' := Lm + 1) (by omega)
  exact sy_yes (CC_sf h2 f3 rfl rfl) s3 (f2.tr (f3.sub rfl)) (fun I' f' h' s' => k true _ _ ad2 I' _ _ (.inl rfl) f' h' (fun _ => s') (.inl ⟨⟨ht, c, hc, ec⟩, ⟨c, hc, ec, hd⟩, rfl⟩))
theorem ce_140 {x : Int32} (h : CC T to K P tr f p q l I) (hs : b0 = true → SEi to K l Lm I) (hl : l < 2 ^ 30) (hL : Lm + 1 < 2 ^ 30) (hR : (to = true ∧ ix 10 x) → owe 11 b0 ≤ n1 ∧ owe 53657 b0 ≤ n2) (k : ∀ c0 m1 m2 ad' I' v t, (c0 = true ∨ c0 = b0 ∧ ¬ (to = true ∧ ix 10 x)) → fr seA I I' → CC T to K P t f p q l I' → (c0 = true → SEi to K l (Lm + 1) I') → ra_few to K P x v t → Q (some (.int v)) ((mm_fl c0 b1 b2, m1, m2, p, q, ad'), I', J)) : mm_wc (d + 5) 140 [.ref 0, .int x] ((mm_fl b0 b1 b2, n1, n2, p, q, ad), I, J) Q := by
  have hsU : b0 = true → SEi to K l (Lm + 1) I := fun e => (hs e).up (by omega)
  have no : ∀ w, w ≤ 6 → w ≠ 4 → ra_few to K P x (-1) w → ¬ (to = true ∧ ix 10 x) → mm_wc (d + 4) 159 [.ref 0, .int (nI w)] ((mm_fl b0 b1 b2, 0, 0, p, q, ad), I, J) (fun v τ => ∃ r4 I4 J4, v = some (.int r4) ∧ τ = (((mm_fl b0 b1 b2), 0, 0, p, q, ad), I4, J4) ∧ Q (some (.int r4)) (((mm_fl b0 b1 b2), n1, n2, p, q, ad), I4, J4)) := fun w h1 h2 hr hq => ct_159 h h1 h2 (fun I' f' h' => ⟨_, _, _, rfl, rfl, k b0 _ _ ad I' _ _ (.inr ⟨rfl, hq⟩) (f'.sub rfl) h' (fun e => (hsU e).of (Nat.le_refl _) (fun r k h1 h2 => f' r k (inS_no (lo := 70) (hi := 81) rfl h1 h2))) hr⟩)
  refine fx_140 ?_
  rw [h.told, bI_0]
  refine ⟨fun e => ?_, fun e => no 1 (by decide) (by decide) (.inr (.inr ⟨e, rfl, rfl⟩)) (fun z => by rw [e] at z; cases z.1)⟩
  have ht : to = true := by simpa using e
  rcases z_ca x with hx | ⟨i, hi, ei⟩
  · have hq : ¬ ix 10 x := fun ⟨c, hc, ec⟩ => by
      rw [ec, z_lt (by omega) (by decide)] at hx; omega
    exact ⟨fun _ => no 2 (by decide) (by decide) (.inr (.inl ⟨ht, hq, rfl, rfl⟩)) (fun z => hq z.2), fun z => absurd hx z⟩
  · have hq : ¬ i ≤ 9 → ¬ ix 10 x := fun h9 ⟨c, hc, ec⟩ => by
      rw [ei, z_eq (by omega) (by omega)] at ec; omega
    subst ei
    rw [z_lt (by omega) (by decide), z_le (by omega) (by decide)]
    refine ⟨fun z => absurd z (Nat.not_lt_zero _), fun _ => ⟨fun h9 => ?_, fun h9 => no 2 (by decide) (by decide) (.inr (.inl ⟨ht, hq h9, rfl, rfl⟩)) (fun z => hq h9 z.2)⟩⟩
    · refine ⟨owe 11 b0, owe 53657 b0, (hR ⟨ht, i, by omega, rfl⟩).1, (hR ⟨ht, i, by omega, rfl⟩).2, ct_1010 h hs hl (fun ad2 I2 f2 s2 h2 => ⟨_, _, ad2, I2, rfl, rfl, ?_⟩)⟩
      obtain ⟨hF, ⟨L, hLs, hLL⟩, -, -⟩ := id s2
      rw [h2.now ht]
      refine ct_104 (h2.cake ht) (h2.bd ht) h2.ms hF hLs (by omega) (h2.vms ht).1 (by omega) (fun I3 v f3 hF3 hL3 hd => ⟨_, _, _, rfl, rfl, ?_⟩)
      have s3 : SEi to K l (Lm + 1) I3 := SE_run s2 f3 ⟨rfl, rfl, rfl, rfl, rfl⟩ rfl hF3 hL3 (by omega) (by omega)
      exact sy_yes (CC_sf h2 f3 rfl rfl) s3 (f2.tr (f3.sub rfl)) (fun I' f' h' s' => k true _ _ ad2 I' _ _ (.inl rfl) f' h' (fun _ => s') (.inl ⟨ht, ⟨i, by omega, rfl, hd⟩, rfl⟩))
theorem ce_146 {x : Int32} (h : CC T to K P tr f p q l I) (hs : b0 = true → SEi to K l Lm I) (hl : l < 2 ^ 30) (hL : Lm + 1 < 2 ^ 30) (hR : (to = true ∧ ix (K 5) x) → owe 11 b0 ≤ n1 ∧ owe 53657 b0 ≤ n2) (k : ∀ c0 m1 m2 ad' I' v t, (c0 = true ∨ c0 = b0 ∧ ¬ (to = true ∧ ix (K 5) x)) → fr seA I I' → CC T to K P t f p q l I' → (c0 = true → SEi to K l (Lm + 1) I') → rf (to = true ∧ ix (K 5) x) (va_more K P x) v t → Q (some (.int v)) ((mm_fl c0 b1 b2, m1, m2, p, q, ad'), I', J)) : mm_wc (d + 6) 146 [.ref 0, .int x] ((mm_fl b0 b1 b2, n1, n2, p, q, ad), I, J) Q := by
  have no : ¬ (to = true ∧ ix (K 5) x) → _ := fun hn => se_no (d := d + 4) (n1 := n1) (n2 := n2) (ad := ad) (b1 := b1) (b2 := b2) (J := J) (Q := Q) h hs (Nat.le_succ _) (fun I' f' h' s' => k b0 _ _ ad I' _ _ (.inr ⟨rfl, hn⟩) f' h' s' (.inr ⟨hn, rfl, rfl⟩))
  refine fx_146 ?_
  rw [h.told, bI_0]
  refine ⟨fun e => no (fun z => by rw [e] at z; cases z.1), fun e => ?_⟩
  have ht : to = true := by simpa using e
  have h5 := (h.ok ht).s
  have e3 := (h.cake ht).2.2.2.1
  rw [e3]
  rcases z_ca x with hx | ⟨c, hc, ec⟩
  · refine ⟨fun _ => no (fun ⟨_, c, hc, ec⟩ => ?_), fun z => absurd hx z⟩
    rw [ec, z_lt (by omega) (by decide)] at hx
    omega
  · subst ec
    rw [z_lt (by omega) (by decide), z_lt (by omega) (by omega)]
    refine ⟨fun z => absurd z (Nat.not_lt_zero _), fun _ => ⟨fun hc5 => ?_, fun hn => no (fun ⟨_, c', hc', ec'⟩ => ?_)⟩⟩
    · refine ⟨owe 11 b0, owe 53657 b0, (hR ⟨ht, c, hc5, rfl⟩).1, (hR ⟨ht, c, hc5, rfl⟩).2, ct_1010 h hs hl (fun ad2 I2 f2 s2 h2 => ⟨_, _, ad2, I2, rfl, rfl, ?_⟩)⟩
      obtain ⟨hF, ⟨L, hLs, hLL⟩, -, -⟩ := id s2
      rw [h2.now ht]
      refine ct_87 (h2.cake ht) (h2.bd ht) h2.2.2.2.2.2.2.2.2.2.2.2.2.2.2.2.2.2 h2.ms hF hLs (by omega) (h2.vms ht).1 hc5 (fun I3 r f3 hF3 hL3 hd => ⟨_, _, _, rfl, rfl, ?_⟩)
      have s3 : SEi to K l (Lm + 1) I3 := SE_run s2 f3 ⟨rfl, rfl, rfl, rfl, rfl⟩ rfl hF3 hL3 (by omega) (by omega)
      exact sy_yes (CC_sf h2 f3 rfl rfl) s3 (f2.tr (f3.sub rfl)) (fun I' f' h' s' => k true _ _ ad2 I' _ _ (.inl rfl) f' h' (fun _ => s') (.inl ⟨⟨ht, c, hc5, rfl⟩, ⟨c, hc5, rfl, hd⟩, rfl⟩))
    · rw [z_eq (by omega) (by omega)] at ec'
      omega
theorem ce_147 {x y : Int32} (h : CC T to K P tr f p q l I) (hs : b0 = true → SEi to K l Lm I) (hl : l < 2 ^ 30) (hL : Lm + 1 < 2 ^ 30) (hR : (to = true ∧ lsC K x y) → owe 11 b0 ≤ n1 ∧ owe 53657 b0 ≤ n2) (k : ∀ c0 m1 m2 ad' I' v t, (c0 = true ∨ c0 = b0 ∧ ¬ (to = true ∧ lsC K x y)) → fr seA I I' → CC T to K P t f p q l I' → (c0 = true → SEi to K l (Lm + 1) I') → rf (to = true ∧ lsC K x y) (va_less K P x y) v t → Q (some (.int v)) ((mm_fl c0 b1 b2, m1, m2, p, q, ad'), I', J)) : mm_wc (d + 5) 147 [.ref 0, .int x, .int y] ((mm_fl b0 b1 b2, n1, n2, p, q, ad), I, J) Q := by
  have no : ¬ (to = true ∧ lsC K x y) → _ := fun hn => se_no (d := d + 3) (n1 := n1) (n2 := n2) (ad := ad) (b1 := b1) (b2 := b2) (J := J) (Q := Q) h hs (Nat.le_succ _) (fun I' f' h' s' => k b0 _ _ ad I' _ _ (.inr ⟨rfl, hn⟩) f' h' s' (.inr ⟨hn, rfl, rfl⟩))
  have n20 : nI 2 ≠ nI 0 := by decide
  have n21 : nI 2 ≠ nI 1 := by decide
  refine fx_147 ⟨fun e0 => ⟨fun e1 => ⟨fun e2 => no (fun z => ?_), fun ex => ?_⟩, fun ex => ?_⟩, fun ex => ?_⟩
  · rcases z.2 with w | w | w
    · exact e0 w.1
    · exact e1 w.1
    · exact e2 w.1
  · refine ct_155 h (fun c ht hc ec => ⟨_, _, _, rfl, rfl, fun z => absurd z n10, fun _ => ?_⟩) (fun hn => ⟨_, _, _, rfl, rfl, fun _ => no (fun z => hn ⟨z.1, ?_⟩), fun z => absurd rfl z⟩)
    · have ok := h.ok ht
      have hc' := ok.h
      refine ⟨owe 11 b0, owe 53657 b0, (hR ⟨ht, .inr (.inr ⟨ex, c, hc, ec⟩)⟩).1, (hR ⟨ht, .inr (.inr ⟨ex, c, hc, ec⟩)⟩).2, ct_1010 h hs hl (fun ad2 I2 f2 s2 h2 => ⟨_, _, ad2, I2, rfl, rfl, ?_⟩)⟩
      obtain ⟨hF, ⟨L, hLs, hLL⟩, -, -⟩ := id s2
      rw [h2.now ht, ec, ex]
      refine ct_85 (so := 2) (h2.cake ht) (h2.bd ht) h2.ms hF hLs (by omega) (by decide) (h2.vms ht).1 (fun I3 r f3 hF3 hL3 hd => ⟨_, _, _, rfl, rfl, ?_⟩)
      have s3 : SEi to K l (Lm + 1) I3 := SE_run s2 f3 ⟨rfl, rfl, rfl, rfl, rfl⟩ rfl hF3 hL3 (by omega) (by omega)
      rw [lP_c ok false (by omega) (by decide)] at hd
      refine sy_yes (CC_sf h2 f3 rfl rfl) s3 (f2.tr (f3.sub rfl)) (fun I' f' h' s' => k true _ _ ad2 I' _ _ (.inl rfl) f' h' (fun _ => s') (.inl ⟨⟨ht, .inr (.inr ⟨ex, c, hc, ec⟩)⟩, .inr (.inr ⟨c, hc, ex, ec, ?_⟩), rfl⟩))
      have e : (fun b => (ow K 2 b = c) ↔ false = true) = fun b => ¬ b / 16 / K 4 = c := by funext b; simp [ow]
      rw [e] at hd
      exact hd
    · rcases z.2 with w | w | w
      · exact absurd w.1 e0
      · exact absurd w.1 e1
      · exact w.2
  · refine ct_154 h (fun c ht hc ec => ⟨_, _, _, rfl, rfl, fun _ => ?_, fun z => absurd z n10⟩) (fun hn => ⟨_, _, _, rfl, rfl, fun z => absurd rfl z, fun _ => ⟨fun _ => no (fun z => hn ⟨z.1, ?_⟩), fun e2 => absurd (e2.symm.trans ex) n21⟩⟩)
    · have ok := h.ok ht
      have hc' := ok.p
      refine ⟨owe 11 b0, owe 53657 b0, (hR ⟨ht, .inr (.inl ⟨ex, c, hc, ec⟩)⟩).1, (hR ⟨ht, .inr (.inl ⟨ex, c, hc, ec⟩)⟩).2, ct_1010 h hs hl (fun ad2 I2 f2 s2 h2 => ⟨_, _, ad2, I2, rfl, rfl, ?_⟩)⟩
      obtain ⟨hF, ⟨L, hLs, hLL⟩, -, -⟩ := id s2
      rw [h2.now ht, ec, ex]
      refine ct_85 (so := 1) (h2.cake ht) (h2.bd ht) h2.ms hF hLs (by omega) (by decide) (h2.vms ht).1 (fun I3 r f3 hF3 hL3 hd => ⟨_, _, _, rfl, rfl, ?_⟩)
      have s3 : SEi to K l (Lm + 1) I3 := SE_run s2 f3 ⟨rfl, rfl, rfl, rfl, rfl⟩ rfl hF3 hL3 (by omega) (by omega)
      rw [lP_c ok false (by omega) (by decide)] at hd
      refine sy_yes (CC_sf h2 f3 rfl rfl) s3 (f2.tr (f3.sub rfl)) (fun I' f' h' s' => k true _ _ ad2 I' _ _ (.inl rfl) f' h' (fun _ => s') (.inl ⟨⟨ht, .inr (.inl ⟨ex, c, hc, ec⟩)⟩, .inr (.inl ⟨c, hc, ex, ec, ?_⟩), rfl⟩))
      have e : (fun b => (ow K 1 b = c) ↔ false = true) = fun b => ¬ b / 16 % K 4 = c := by funext b; simp [ow]
      rw [e] at hd
      exact hd
    · rcases z.2 with w | w | w
      · exact absurd w.1 e0
      · exact w.2
      · exact absurd (w.1.symm.trans ex) n21
  · refine ct_153 h (fun c ht hc ec => ⟨_, _, _, rfl, rfl, fun z => absurd z n10, fun _ => ?_⟩) (fun hn => ⟨_, _, _, rfl, rfl, fun _ => ⟨fun _ => ⟨fun _ => no (fun z => hn ⟨z.1, ?_⟩), fun e2 => absurd (e2.symm.trans ex) n20⟩, fun e1 => absurd (e1.symm.trans ex) n10⟩, fun z => absurd rfl z⟩)
    · refine ⟨owe 11 b0, owe 53657 b0, (hR ⟨ht, .inl ⟨ex, c, hc, ec⟩⟩).1, (hR ⟨ht, .inl ⟨ex, c, hc, ec⟩⟩).2, ct_1010 h hs hl (fun ad2 I2 f2 s2 h2 => ⟨_, _, ad2, I2, rfl, rfl, ?_⟩)⟩
      obtain ⟨hF, ⟨L, hLs, hLL⟩, -, -⟩ := id s2
      rw [h2.now ht, ec]
      refine ct_86 (h2.cake ht) (h2.bd ht) hF hLs (by omega) (h2.vms ht).1 hc (fun I3 r f3 e13 hF3 hL3 hd => ⟨_, _, _, rfl, rfl, ?_⟩)
      have f3' := fr_13 f3 (e13.trans h2.ms.symm)
      have s3 : SEi to K l (Lm + 1) I3 := SE_run s2 f3' ⟨rfl, rfl, rfl, rfl, rfl⟩ rfl hF3 hL3 (by omega) (by omega)
      exact sy_yes (CC_sf h2 f3' rfl rfl) s3 (f2.tr (f3'.sub rfl)) (fun I' f' h' s' => k true _ _ ad2 I' _ _ (.inl rfl) f' h' (fun _ => s') (.inl ⟨⟨ht, .inl ⟨ex, c, hc, ec⟩⟩, .inl ⟨c, hc, ex, ec, hd⟩, rfl⟩))
    · rcases z.2 with w | w | w
      · exact w.2
      · exact absurd (w.1.symm.trans ex) n10
      · exact absurd (w.1.symm.trans ex) n20
end VA
