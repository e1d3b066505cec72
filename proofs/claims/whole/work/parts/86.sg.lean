/-! the class: what is made when first asked for; the searches' public calls -/
def owe (n : Nat) (b : Bool) : Nat := if b = true then 0 else n
abbrev seA : List (Nat × List Nat) := [(0, [7]), (6, [14]), (70, []), (71, []), (72, []), (73, []), (74, []), (75, []), (76, []), (77, []), (78, []), (79, []), (80, [])]
theorem zr_fr {I : mmI} : fr seA I (mm_zr 70 81 I) := by
  intro r k h
  show (if 70 ≤ r ∧ r < 81 then (fun _ => (0 : Int32)) else I r) k = I r k
  rw [if_neg]
  rintro ⟨h1, h2⟩
  have : r = 70 ∨ r = 71 ∨ r = 72 ∨ r = 73 ∨ r = 74 ∨ r = 75 ∨ r = 76 ∨ r = 77 ∨ r = 78 ∨ r = 79 ∨ r = 80 := by omega
  rcases this with e | e | e | e | e | e | e | e | e | e | e <;> subst e <;> exact absurd h (by simp [inS, seA])
theorem zr_se {to : Bool} {K : Nat → Nat} {l Lm : Nat} {I : mmI} (h : to = true → 1 ≤ l) (hl : l < 2 ^ 30) : SEi to K l Lm (mm_zr 70 81 I) := by
  have z : ∀ r k, 70 ≤ r → r < 81 → mm_zr 70 81 I r k = nI 0 := fun r k h1 h2 => by
    show (if 70 ≤ r ∧ r < 81 then (fun _ => (0 : Int32)) else I r) k = nI 0
    rw [if_pos ⟨h1, h2⟩]; rfl
  refine ⟨⟨0, fun _ => 0, z 70 5 (by decide) (by decide), by decide, fun i hi => absurd hi (Nat.not_lt_zero i), fun s _ _ => z 71 s (by decide) (by decide)⟩, ⟨0, ⟨z 77 5 (by decide) (by decide), by decide, fun f _ => ⟨0, Nat.le_refl _, z 80 f (by decide) (by decide)⟩⟩, Nat.zero_le _⟩, ⟨0, z 70 9 (by decide) (by decide), Nat.zero_le _⟩, fun ht e => ?_⟩
  rw [z 70 9 (by decide) (by decide)] at e
  have := h ht
  exact absurd ((z_eq (by decide) (by omega)).mp e) (by omega)
theorem fl_0 (b1 b2 : Bool) : (fun j => if j = 0 then true else mm_fl false b1 b2 j) = mm_fl true b1 b2 := by
  funext j
  match j with
  | 0 => rfl
  | 1 => rfl
  | 2 => rfl
  | n + 3 => rfl
theorem ksc_cg {K : Nat → Nat} {ms gl : Nat} {fan : Nat → Nat} {A B : Nat → Prop} (h : ∀ b, b < nB K → (A b ↔ B b)) : ksc K ms gl fan A = ksc K ms gl fan B := by
  funext m m'
  exact propext ⟨fun ⟨b, h1, h2, h3⟩ => ⟨b, h1, (h b h1).mp h2, h3⟩, fun ⟨b, h1, h2, h3⟩ => ⟨b, h1, (h b h1).mpr h2, h3⟩⟩
theorem lP_c {K : Nat → Nat} (ok : okR K) {so j : Nat} (it : Bool) (hj : j < 100) (hso : so ≠ 4) : ksc K 0 0 (fanK K) (lP K so (nI j) it) = ksc K 0 0 (fanK K) (fun b => (ow K so b = j) ↔ it = true) := by
  refine ksc_cg (fun b hb => ?_)
  have hB := nB_le ok
  have h1 : b / 16 % K 4 ≤ b / 16 := Nat.mod_le _ _
  have h2 : b / 16 / K 4 ≤ b / 16 := Nat.div_le_self _ _
  have h3 : b / 16 ≤ b := Nat.div_le_self _ _
  have h4 : ow K so b < 2 ^ 31 := by unfold ow; split <;> omega
  unfold lP
  rw [z_eq h4 (by omega)]
  exact ⟨fun z => z.resolve_left hso, .inr⟩
theorem SE_run {to : Bool} {K : Nat → Nat} {l Lm Lx L : Nat} {I I' : mmI} {S : List (Nat × List Nat)} (h : SEi to K l Lm I) (hf : fr S I I') (o : inS S 70 9 = false ∧ inS S 70 10 = false ∧ inS S 70 11 = false ∧ inS S 70 12 = false ∧ inS S 70 13 = false) (o6 : noR 76 77 S = true) (hF : cF I') (hL : cLs I' L) (hx : Lm ≤ Lx) (hx' : L ≤ Lx) : SEi to K l Lx I' := by
  obtain ⟨-, -, ⟨l', c1, c2⟩, e⟩ := h
  refine ⟨hF, ⟨L, hL, hx'⟩, ⟨l', by rw [hf 70 9 o.1]; exact c1, c2⟩, fun ht hl => ?_⟩
  rw [hf 70 9 o.1] at hl
  obtain ⟨m, m1, m2, m3⟩ := e ht hl
  exact ⟨m, m1, by rw [hf 70 10 o.2.1]; exact m2, cac_of m3 (hf 70 11 o.2.2.1) (hf 70 12 o.2.2.2.1) (hf 70 13 o.2.2.2.2) (fun i => hf 76 i (inS_no o6 (by decide) (by decide)))⟩
section SG
variable {d n1 n2 s1 s2 : Nat} {b0 b1 b2 p q : Bool} {ad : Nat → Nat} {J : mmJ} {Q : mmQ} {K : Nat → Nat} {I : mmI} {T : zT} {to : Bool} {P : zP} {tr l Lm : Nat} {f : zF}
theorem CC_se {tr' : Nat} {I' : mmI} (h : CC T to K P tr f p q l I) (hf : fr seA I I') (h5 : I' 0 7 = nI tr') (h6 : tr' ≤ 6) (h7 : tr' = 4 → tr = 4) : CC T to K P tr' f p q l I' :=
  CC_tr h hf ⟨rfl, rfl, rfl⟩ rfl ⟨rfl, rfl, rfl, rfl, rfl⟩ rfl rfl h5 h6 h7
theorem CC_sf {L : List (Nat × List Nat)} {I' : mmI} (h : CC T to K P tr f p q l I) (hf : fr L I I') (h1 : subS L seA = true) (h2 : inS L 0 7 = false) : CC T to K P tr f p q l I' :=
  CC_se h (hf.sub h1) (by rw [hf 0 7 h2]; exact h.2.2.1) h.1.2.2.2.2.2.2.1 id
theorem fr_13 {L : List (Nat × List Nat)} {I' : mmI} (hf : fr (L ++ [(6, [13])]) I I') (h : I' 6 13 = I 6 13) : fr L I I' := by
  intro r k hk
  by_cases e : r = 6 ∧ k = 13
  · rw [e.1, e.2]; exact h
  · refine hf r k ?_
    rw [inS, List.any_append, ← inS, hk, Bool.false_or]
    simp
    intro e6 e13
    exact e ⟨e6.symm, e13⟩
theorem ct_1010 (h : CC T to K P tr f p q l I) (hs : b0 = true → SEi to K l Lm I) (hl : l < 2 ^ 30) (k : ∀ ad' I', fr seA I I' → SEi to K l Lm I' → CC T to K P tr f p q l I' → Q (some (.ref 70)) ((mm_fl true b1 b2, 0, 0, p, q, ad'), I', J)) : mm_wc (d + 1) 1010 [.ref 0] ((mm_fl b0 b1 b2, owe 11 b0, owe 53657 b0, p, q, ad), I, J) Q := by
  show mm_lz 0 70 11 53657 70 81 ((mm_fl b0 b1 b2, owe 11 b0, owe 53657 b0, p, q, ad), I, J) Q
  cases b0 with
  | true => exact k ad I fr.rf (hs rfl) h
  | false =>
    refine ⟨Nat.le_refl _, Nat.le_refl _, fun ad' _ => ?_⟩
    have := k ad' (mm_zr 70 81 I) zr_fr (zr_se h.2.2.2.2.2.2.2.2.2.2.2.2.2.2.2.2.1 hl) (CC_se h zr_fr (by rw [show mm_zr 70 81 I 0 7 = I 0 7 from rfl]; exact h.2.2.1) h.1.2.2.2.2.2.2.1 id)
    show Q (some (.ref 70)) (((fun j => if j = 0 then true else mm_fl false b1 b2 j), owe 11 false - 11, owe 53657 false - 53657, p, q, ad'), mm_zr 70 81 I, J)
    rw [fl_0, show owe 11 false - 11 = 0 by simp [owe], show owe 53657 false - 53657 = 0 by simp [owe]]
    exact this
theorem se_yes {I0 : mmI} {Lx : Nat} {r : Int32} (h : CC T to K P tr f p q l I) (hs : SEi to K l Lx I) (hf : fr seA I0 I) (k : ∀ I', fr seA I0 I' → CC T to K P 0 f p q l I' → SEi to K l Lx I' → Q (some (.int r)) ((mm_fl true b1 b2, s1 + owe 11 true, s2 + owe 53657 true, p, q, ad), I', J)) : mm_wc (d + 1) 160 [.ref 0, .int r] ((mm_fl true b1 b2, 0, 0, p, q, ad), I, J) (fun v τ => ∃ r4 I4 J4, v = some (.int r4) ∧ τ = (((mm_fl true b1 b2), 0, 0, p, q, ad), I4, J4) ∧ Q (some (.int r4)) (((mm_fl true b1 b2), (s1 + owe 11 b0 - owe 11 b0), (s2 + owe 53657 b0 - owe 53657 b0), p, q, ad), I4, J4)) :=
  ct_160 h (fun I' f' h' => ⟨_, _, _, rfl, rfl, by
    rw [Nat.add_sub_cancel, Nat.add_sub_cancel]
    exact k I' (hf.tr (f'.sub rfl)) h' (hs.of (Nat.le_refl _) (fun r k h1 h2 => f' r k (inS_no (lo := 70) (hi := 81) rfl h1 h2)))⟩)
theorem se_no {Lx : Nat} (h : CC T to K P tr f p q l I) (hs : b0 = true → SEi to K l Lm I) (hL : Lm ≤ Lx) (k : ∀ I', fr seA I I' → CC T to K P 1 f p q l I' → (b0 = true → SEi to K l Lx I') → Q (some (.int (-1))) ((mm_fl b0 b1 b2, n1, n2, p, q, ad), I', J)) : mm_wc (d + 1) 159 [.ref 0, .int (nI 1)] ((mm_fl b0 b1 b2, 0, 0, p, q, ad), I, J) (fun v τ => ∃ r4 I4 J4, v = some (.int r4) ∧ τ = (((mm_fl b0 b1 b2), 0, 0, p, q, ad), I4, J4) ∧ Q (some (.int r4)) (((mm_fl b0 b1 b2), n1, n2, p, q, ad), I4, J4)) :=
  ct_159 h (by decide) (by decide) (fun I' f' h' => ⟨_, _, _, rfl, rfl, k I' (f'.sub rfl) h' (fun e => (hs e).of hL (fun r k h1 h2 => f' r k (inS_no (lo := 70) (hi := 81) rfl h1 h2)))⟩)
theorem cd_130 (h : CC T to K P tr f p q l I) (hs : b0 = true → SEi to K l Lm I) (hl : l < 2 ^ 30) (hL : Lm + 1 < 2 ^ 30) (k : ∀ c0 ad' I' v t, fr seA I I' → CC T to K P t f p q l I' → (c0 = true → SEi to K l (Lm + 1) I') → rf (to = true) (isD (goal0 (ksc K 0 0 (fanK K) (fun _ => True)) P.1)) v t → Q (some (.int v)) ((mm_fl c0 b1 b2, s1 + owe 11 c0, s2 + owe 53657 c0, p, q, ad'), I', J)) : mm_wc (d + 6) 130 [.ref 0] ((mm_fl b0 b1 b2, s1 + owe 11 b0, s2 + owe 53657 b0, p, q, ad), I, J) Q := by
  refine fx_130 ?_
  rw [h.told, bI_0]
  refine ⟨fun e => se_no h hs (Nat.le_succ _) (fun I' f' h' s' => k b0 ad I' _ _ f' h' s' (.inr ⟨by rw [e]; decide, rfl, rfl⟩)), fun e => ?_⟩
  have ht : to = true := by simpa using e
  refine ⟨owe 11 b0, owe 53657 b0, Nat.le_add_left _ _, Nat.le_add_left _ _, ct_1010 h hs hl (fun ad2 I2 f2 s2 h2 => ⟨_, _, ad2, I2, rfl, rfl, ?_⟩)⟩
  rw [h2.now ht]
  refine ct_83 h2 s2 hl hL ht (h2.vms ht).1 (fun I3 r f3 s3 _ _ _ hd => ⟨_, _, _, rfl, rfl, ?_⟩)
  exact se_yes (CC_sf h2 f3 rfl rfl) s3 (f2.tr (f3.sub rfl)) (fun I' f' h' s' => k true ad2 I' _ _ f' h' (fun _ => s') (.inl ⟨ht, hd, rfl⟩))
theorem cd_132 {x : Int32} (h : CC T to K P tr f p q l I) (hs : b0 = true → SEi to K l Lm I) (hl : l < 2 ^ 30) (hL : Lm + 1 < 2 ^ 30) (k : ∀ c0 ad' I' v t, fr seA I I' → CC T to K P t f p q l I' → (c0 = true → SEi to K l (Lm + 1) I') → rf (to = true ∧ ix (K 4) x) (va_from K P x) v t → Q (some (.int v)) ((mm_fl c0 b1 b2, s1 + owe 11 c0, s2 + owe 53657 c0, p, q, ad'), I', J)) : mm_wc (d + 5) 132 [.ref 0, .int x] ((mm_fl b0 b1 b2, s1 + owe 11 b0, s2 + owe 53657 b0, p, q, ad), I, J) Q := by
  refine fx_132 (ct_154 h (fun c ht hc ec => ⟨_, _, _, rfl, rfl, fun _ => ?_, fun z => absurd z n10⟩) (fun hn => ⟨_, _, _, rfl, rfl, fun z => absurd rfl z, fun _ => se_no h hs (Nat.le_succ _) (fun I' f' h' s' => k b0 ad I' _ _ f' h' s' (.inr ⟨hn, rfl, rfl⟩))⟩))
  have ok := h.ok ht
  have hc' := ok.p
  refine ⟨owe 11 b0, owe 53657 b0, Nat.le_add_left _ _, Nat.le_add_left _ _, ct_1010 h hs hl (fun ad2 I2 f2 s2 h2 => ⟨_, _, ad2, I2, rfl, rfl, ?_⟩)⟩
  obtain ⟨hF, ⟨L, hLs, hLL⟩, -, -⟩ := id s2
  rw [h2.now ht, ec]
  refine ct_84 (h2.cake ht) (h2.bd ht) h2.ms hF hLs (by omega) (by decide) (h2.vms ht).1 (fun _ I3 _ _ r _ _ _ f3 hF3 hL3 hd => ⟨_, _, _, rfl, rfl, ?_⟩)
  have s3 := (s2.run (f3.sub rfl) hF3 hL3).up (Lm' := Lm + 1) (by omega)
  rw [lP_c ok true (by omega) (by decide)] at hd
  refine se_yes (CC_sf h2 f3 rfl rfl) s3 (f2.tr (f3.sub rfl)) (fun I' f' h' s' => k true ad2 I' _ _ f' h' (fun _ => s') (.inl ⟨⟨ht, c, hc, ec⟩, ⟨c, hc, ec, ?_⟩, rfl⟩))
  have e : (fun b => (ow K 1 b = c) ↔ true = true) = fun b => b / 16 % K 4 = c := by funext b; simp [ow]
  rw [e] at hd
  exact hd
theorem cd_133 {x : Int32} (h : CC T to K P tr f p q l I) (hs : b0 = true → SEi to K l Lm I) (hl : l < 2 ^ 30) (hL : Lm + 1 < 2 ^ 30) (k : ∀ c0 ad' I' v t, fr seA I I' → CC T to K P t f p q l I' → (c0 = true → SEi to K l (Lm + 1) I') → rf (to = true ∧ ix (K 6) x) (va_by K P x) v t → Q (some (.int v)) ((mm_fl c0 b1 b2, s1 + owe 11 c0, s2 + owe 53657 c0, p, q, ad'), I', J)) : mm_wc (d + 5) 133 [.ref 0, .int x] ((mm_fl b0 b1 b2, s1 + owe 11 b0, s2 + owe 53657 b0, p, q, ad), I, J) Q := by
  refine fx_133 (ct_155 h (fun c ht hc ec => ⟨_, _, _, rfl, rfl, fun _ => ?_, fun z => absurd z n10⟩) (fun hn => ⟨_, _, _, rfl, rfl, fun z => absurd rfl z, fun _ => se_no h hs (Nat.le_succ _) (fun I' f' h' s' => k b0 ad I' _ _ f' h' s' (.inr ⟨hn, rfl, rfl⟩))⟩))
  have ok := h.ok ht
  have hc' := ok.h
  refine ⟨owe 11 b0, owe 53657 b0, Nat.le_add_left _ _, Nat.le_add_left _ _, ct_1010 h hs hl (fun ad2 I2 f2 s2 h2 => ⟨_, _, ad2, I2, rfl, rfl, ?_⟩)⟩
  obtain ⟨hF, ⟨L, hLs, hLL⟩, -, -⟩ := id s2
  rw [h2.now ht, ec]
  refine ct_84 (h2.cake ht) (h2.bd ht) h2.ms hF hLs (by omega) (by decide) (h2.vms ht).1 (fun _ I3 _ _ r _ _ _ f3 hF3 hL3 hd => ⟨_, _, _, rfl, rfl, ?_⟩)
  have s3 := (s2.run (f3.sub rfl) hF3 hL3).up (Lm' := Lm + 1) (by omega)
  rw [lP_c ok true (by omega) (by decide)] at hd
  refine se_yes (CC_sf h2 f3 rfl rfl) s3 (f2.tr (f3.sub rfl)) (fun I' f' h' s' => k true ad2 I' _ _ f' h' (fun _ => s') (.inl ⟨⟨ht, c, hc, ec⟩, ⟨c, hc, ec, ?_⟩, rfl⟩))
  have e : (fun b => (ow K 2 b = c) ↔ true = true) = fun b => b / 16 / K 4 = c := by funext b; simp [ow]
  rw [e] at hd
  exact hd
theorem cd_134 (h : CC T to K P tr f p q l I) (hs : b0 = true → SEi to K l Lm I) (hl : l < 2 ^ 30) (hL : Lm + 1 < 2 ^ 30) (k : ∀ c0 ad' I' v t, fr seA I I' → CC T to K P t f p q l I' → (c0 = true → SEi to K l (Lm + 1) I') → rf (to = true) (va_inTime K P) v t → Q (some (.int v)) ((mm_fl c0 b1 b2, s1 + owe 11 c0, s2 + owe 53657 c0, p, q, ad'), I', J)) : mm_wc (d + 6) 134 [.ref 0] ((mm_fl b0 b1 b2, s1 + owe 11 b0, s2 + owe 53657 b0, p, q, ad), I, J) Q := by
  refine fx_134 ?_
  rw [h.told, bI_0]
  refine ⟨fun e => ?_, fun e => se_no h hs (Nat.le_succ _) (fun I' f' h' s' => k b0 ad I' _ _ f' h' s' (.inr ⟨by rw [e]; decide, rfl, rfl⟩))⟩
  have ht : to = true := by simpa using e
  refine ⟨owe 11 b0, owe 53657 b0, Nat.le_add_left _ _, Nat.le_add_left _ _, ct_1010 h hs hl (fun ad2 I2 f2 s2 h2 => ⟨_, _, ad2, I2, rfl, rfl, ?_⟩)⟩
  rw [h2.now ht]
  refine ct_83 h2 s2 hl hL ht (h2.vms ht).1 (fun I3 r f3 s3 _ _ _ hd => ⟨_, _, _, rfl, rfl, ?_⟩)
  have h3 := CC_sf h2 f3 rfl rfl
  have e8 : I3 (mm_ck p 0) 8 = nI (K 2) := (h3.cake ht).2.2.2.2.2.2.1
  rw [e8]
  refine ⟨fun z => se_yes h3 s3 (f2.tr (f3.sub rfl)) (fun I' f' h' s' => k true ad2 I' _ _ f' h' (fun _ => s') (.inl ⟨ht, ⟨r, hd, ?_⟩, rfl⟩)), fun z => ⟨fun w => se_yes h3 s3 (f2.tr (f3.sub rfl)) (fun I' f' h' s' => k true ad2 I' _ _ f' h' (fun _ => s') (.inl ⟨ht, ⟨r, hd, ?_⟩, rfl⟩)), fun w => se_yes h3 s3 (f2.tr (f3.sub rfl)) (fun I' f' h' s' => k true ad2 I' _ _ f' h' (fun _ => s') (.inl ⟨ht, ⟨r, hd, ?_⟩, rfl⟩))⟩⟩
  · rw [if_neg (fun y => y.1 z)]
  · rw [if_neg (fun y => y.2 w)]
  · rw [if_pos ⟨z, w⟩]
theorem cd_139 {x : Int32} (h : CC T to K P tr f p q l I) (hs : b0 = true → SEi to K l Lm I) (hl : l < 2 ^ 30) (hL : Lm + 1 < 2 ^ 30) (k : ∀ c0 ad' I' v t, fr seA I I' → CC T to K P t f p q l I' → (c0 = true → SEi to K l (Lm + 1) I') → rf (to = true ∧ ix (K 3) x) (va_soonest K P x) v t → Q (some (.int v)) ((mm_fl c0 b1 b2, s1 + owe 11 c0, s2 + owe 53657 c0, p, q, ad'), I', J)) : mm_wc (d + 5) 139 [.ref 0, .int x] ((mm_fl b0 b1 b2, s1 + owe 11 b0, s2 + owe 53657 b0, p, q, ad), I, J) Q := by
  refine fx_139 (ct_153 h (fun c ht hc ec => ⟨_, _, _, rfl, rfl, fun _ => ?_, fun z => absurd z n10⟩) (fun hn => ⟨_, _, _, rfl, rfl, fun z => absurd rfl z, fun _ => se_no h hs (Nat.le_succ _) (fun I' f' h' s' => k b0 ad I' _ _ f' h' s' (.inr ⟨hn, rfl, rfl⟩))⟩))
  refine ⟨owe 11 b0, owe 53657 b0, Nat.le_add_left _ _, Nat.le_add_left _ _, ct_1010 h hs hl (fun ad2 I2 f2 s2 h2 => ⟨_, _, ad2, I2, rfl, rfl, ?_⟩)⟩
  obtain ⟨hF, ⟨L, hLs, hLL⟩, -, -⟩ := id s2
  rw [h2.now ht, ec]
  refine ct_88 (h2.cake ht) (h2.bd ht) h2.ms hF hLs (by omega) (h2.vms ht).1 hc (fun I3 r f3 hF3 hL3 hd => ⟨_, _, _, rfl, rfl, ?_⟩)
  have s3 := (s2.run (f3.sub rfl) hF3 hL3).up (Lm' := Lm + 1) (by omega)
  exact se_yes (CC_sf h2 f3 rfl rfl) s3 (f2.tr (f3.sub rfl)) (fun I' f' h' s' => k true ad2 I' _ _ f' h' (fun _ => s') (.inl ⟨⟨ht, c, hc, ec⟩, ⟨c, hc, ec, hd⟩, rfl⟩))
theorem cd_146 {x : Int32} (h : CC T to K P tr f p q l I) (hs : b0 = true → SEi to K l Lm I) (hl : l < 2 ^ 30) (hL : Lm + 1 < 2 ^ 30) (k : ∀ c0 ad' I' v t, fr seA I I' → CC T to K P t f p q l I' → (c0 = true → SEi to K l (Lm + 1) I') → rf (to = true ∧ ix (K 5) x) (va_more K P x) v t → Q (some (.int v)) ((mm_fl c0 b1 b2, s1 + owe 11 c0, s2 + owe 53657 c0, p, q, ad'), I', J)) : mm_wc (d + 6) 146 [.ref 0, .int x] ((mm_fl b0 b1 b2, s1 + owe 11 b0, s2 + owe 53657 b0, p, q, ad), I, J) Q := by
  have no : ¬ (to = true ∧ ix (K 5) x) → _ := fun hn => se_no (d := d + 4) (n1 := s1 + owe 11 b0) (n2 := s2 + owe 53657 b0) (ad := ad) (b1 := b1) (b2 := b2) (J := J) (Q := Q) h hs (Nat.le_succ _) (fun I' f' h' s' => k b0 ad I' _ _ f' h' s' (.inr ⟨hn, rfl, rfl⟩))
  refine fx_146 ?_
  rw [h.told, bI_0]
  refine ⟨fun e => no (fun z => by rw [e] at z; cases z.1), fun e => ?_⟩
  have ht : to = true := by simpa using e
  have h5 := (h.ok ht).s
  have e3 := (h.cake ht).2.2.2.1
  rw [e3]
  rcases z_ca x with hx | ⟨c, hc, ec⟩
  · refine ⟨fun _ => no (fun ⟨_, c, hc, ec⟩ => ?_), fun z => absurd hx z⟩
    rw [ec, z_lt (by omega) (by decide)] at hx
    omega
  · rw [ec, z_lt (by omega) (by decide), z_lt (by omega) (by omega)]
    refine ⟨fun z => absurd z (Nat.not_lt_zero _), fun _ => ⟨fun hc5 => ?_, fun hn => no (fun ⟨_, c', hc', ec'⟩ => ?_)⟩⟩
    · refine ⟨owe 11 b0, owe 53657 b0, Nat.le_add_left _ _, Nat.le_add_left _ _, ct_1010 h hs hl (fun ad2 I2 f2 s2 h2 => ⟨_, _, ad2, I2, rfl, rfl, ?_⟩)⟩
      obtain ⟨hF, ⟨L, hLs, hLL⟩, -, -⟩ := id s2
      rw [h2.now ht]
      refine ct_87 (h2.cake ht) (h2.bd ht) h2.2.2.2.2.2.2.2.2.2.2.2.2.2.2.2.2.2 h2.ms hF hLs (by omega) (h2.vms ht).1 hc5 (fun I3 r f3 hF3 hL3 hd => ⟨_, _, _, rfl, rfl, ?_⟩)
      have s3 : SEi to K l (Lm + 1) I3 := SE_run s2 f3 ⟨rfl, rfl, rfl, rfl, rfl⟩ rfl hF3 hL3 (by omega) (by omega)
      exact se_yes (CC_sf h2 f3 rfl rfl) s3 (f2.tr (f3.sub rfl)) (fun I' f' h' s' => k true ad2 I' _ _ f' h' (fun _ => s') (.inl ⟨⟨ht, c, hc5, ec⟩, ⟨c, hc5, ec, hd⟩, rfl⟩))
    · rw [ec, z_eq (by omega) (by omega)] at ec'
      omega
theorem cd_147 {x y : Int32} (h : CC T to K P tr f p q l I) (hs : b0 = true → SEi to K l Lm I) (hl : l < 2 ^ 30) (hL : Lm + 1 < 2 ^ 30) (k : ∀ c0 ad' I' v t, fr seA I I' → CC T to K P t f p q l I' → (c0 = true → SEi to K l (Lm + 1) I') → rf (to = true ∧ lsC K x y) (va_less K P x y) v t → Q (some (.int v)) ((mm_fl c0 b1 b2, s1 + owe 11 c0, s2 + owe 53657 c0, p, q, ad'), I', J)) : mm_wc (d + 5) 147 [.ref 0, .int x, .int y] ((mm_fl b0 b1 b2, s1 + owe 11 b0, s2 + owe 53657 b0, p, q, ad), I, J) Q := by
  have no : ¬ (to = true ∧ lsC K x y) → _ := fun hn => se_no (d := d + 3) (n1 := s1 + owe 11 b0) (n2 := s2 + owe 53657 b0) (ad := ad) (b1 := b1) (b2 := b2) (J := J) (Q := Q) h hs (Nat.le_succ _) (fun I' f' h' s' => k b0 ad I' _ _ f' h' s' (.inr ⟨hn, rfl, rfl⟩))
  have n20 : nI 2 ≠ nI 0 := by decide
  have n21 : nI 2 ≠ nI 1 := by decide
  refine fx_147 ⟨fun e0 => ⟨fun e1 => ⟨fun e2 => no (fun z => ?_), fun ex => ?_⟩, fun ex => ?_⟩, fun ex => ?_⟩
  · rcases z.2 with w | w | w
    · exact e0 w.1
    · exact e1 w.1
    · exact e2 w.1
  · refine ct_155 h (fun c ht hc ec => ⟨_, _, _, rfl, rfl, fun z => absurd z n10, fun _ => ?_⟩) (fun hn => ⟨_, _, _, rfl, rfl, fun _ => no (fun z => hn ⟨z.1, ?_⟩), fun z => absurd rfl z⟩)
    · have ok := h.ok ht
      have hc' := ok.h
      refine ⟨owe 11 b0, owe 53657 b0, Nat.le_add_left _ _, Nat.le_add_left _ _, ct_1010 h hs hl (fun ad2 I2 f2 s2 h2 => ⟨_, _, ad2, I2, rfl, rfl, ?_⟩)⟩
      obtain ⟨hF, ⟨L, hLs, hLL⟩, -, -⟩ := id s2
      rw [h2.now ht, ec, ex]
      refine ct_85 (so := 2) (h2.cake ht) (h2.bd ht) h2.ms hF hLs (by omega) (by decide) (h2.vms ht).1 (fun I3 r f3 hF3 hL3 hd => ⟨_, _, _, rfl, rfl, ?_⟩)
      have s3 : SEi to K l (Lm + 1) I3 := SE_run s2 f3 ⟨rfl, rfl, rfl, rfl, rfl⟩ rfl hF3 hL3 (by omega) (by omega)
      rw [lP_c ok false (by omega) (by decide)] at hd
      refine se_yes (CC_sf h2 f3 rfl rfl) s3 (f2.tr (f3.sub rfl)) (fun I' f' h' s' => k true ad2 I' _ _ f' h' (fun _ => s') (.inl ⟨⟨ht, .inr (.inr ⟨ex, c, hc, ec⟩)⟩, .inr (.inr ⟨c, hc, ex, ec, ?_⟩), rfl⟩))
      have e : (fun b => (ow K 2 b = c) ↔ false = true) = fun b => ¬ b / 16 / K 4 = c := by funext b; simp [ow]
      rw [e] at hd
      exact hd
    · rcases z.2 with w | w | w
      · exact absurd w.1 e0
      · exact absurd w.1 e1
      · exact w.2
  · refine ct_154 h (fun c ht hc ec => ⟨_, _, _, rfl, rfl, fun _ => ?_, fun z => absurd z n10⟩) (fun hn => ⟨_, _, _, rfl, rfl, fun z => absurd rfl z, fun _ => ⟨fun _ => no (fun z => hn ⟨z.1, ?_⟩), fun e2 => absurd (e2.symm.trans ex) n21⟩⟩)
    · have ok := h.ok ht
      have hc' := ok.p
      refine ⟨owe 11 b0, owe 53657 b0, Nat.le_add_left _ _, Nat.le_add_left _ _, ct_1010 h hs hl (fun ad2 I2 f2 s2 h2 => ⟨_, _, ad2, I2, rfl, rfl, ?_⟩)⟩
      obtain ⟨hF, ⟨L, hLs, hLL⟩, -, -⟩ := id s2
      rw [h2.now ht, ec, ex]
      refine ct_85 (so := 1) (h2.cake ht) (h2.bd ht) h2.ms hF hLs (by omega) (by decide) (h2.vms ht).1 (fun I3 r f3 hF3 hL3 hd => ⟨_, _, _, rfl, rfl, ?_⟩)
      have s3 : SEi to K l (Lm + 1) I3 := SE_run s2 f3 ⟨rfl, rfl, rfl, rfl, rfl⟩ rfl hF3 hL3 (by omega) (by omega)
      rw [lP_c ok false (by omega) (by decide)] at hd
      refine se_yes (CC_sf h2 f3 rfl rfl) s3 (f2.tr (f3.sub rfl)) (fun I' f' h' s' => k true ad2 I' _ _ f' h' (fun _ => s') (.inl ⟨⟨ht, .inr (.inl ⟨ex, c, hc, ec⟩)⟩, .inr (.inl ⟨c, hc, ex, ec, ?_⟩), rfl⟩))
      have e : (fun b => (ow K 1 b = c) ↔ false = true) = fun b => ¬ b / 16 % K 4 = c := by funext b; simp [ow]
      rw [e] at hd
      exact hd
    · rcases z.2 with w | w | w
      · exact absurd w.1 e0
      · exact w.2
      · exact absurd (w.1.symm.trans ex) n21
  · refine ct_153 h (fun c ht hc ec => ⟨_, _, _, rfl, rfl, fun z => absurd z n10, fun _ => ?_⟩) (fun hn => ⟨_, _, _, rfl, rfl, fun _ => ⟨fun _ => ⟨fun _ => no (fun z => hn ⟨z.1, ?_⟩), fun e2 => absurd (e2.symm.trans ex) n20⟩, fun e1 => absurd (e1.symm.trans ex) n10⟩, fun z => absurd rfl z⟩)
    · refine ⟨owe 11 b0, owe 53657 b0, Nat.le_add_left _ _, Nat.le_add_left _ _, ct_1010 h hs hl (fun ad2 I2 f2 s2 h2 => ⟨_, _, ad2, I2, rfl, rfl, ?_⟩)⟩
      obtain ⟨hF, ⟨L, hLs, hLL⟩, -, -⟩ := id s2
      rw [h2.now ht, ec]
      refine ct_86 (h2.cake ht) (h2.bd ht) hF hLs (by omega) (h2.vms ht).1 hc (fun I3 r f3 e13 hF3 hL3 hd => ⟨_, _, _, rfl, rfl, ?_⟩)
      have f3' := fr_13 f3 (e13.trans h2.ms.symm)
      have s3 : SEi to K l (Lm + 1) I3 := SE_run s2 f3' ⟨rfl, rfl, rfl, rfl, rfl⟩ rfl hF3 hL3 (by omega) (by omega)
      exact se_yes (CC_sf h2 f3' rfl rfl) s3 (f2.tr (f3'.sub rfl)) (fun I' f' h' s' => k true ad2 I' _ _ f' h' (fun _ => s') (.inl ⟨⟨ht, .inl ⟨ex, c, hc, ec⟩⟩, .inl ⟨c, hc, ex, ec, hd⟩, rfl⟩))
    · rcases z.2 with w | w | w
      · exact w.2
      · exact absurd (w.1.symm.trans ex) n10
      · exact absurd (w.1.symm.trans ex) n20
end SG
