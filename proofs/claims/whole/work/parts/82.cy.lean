/-! the class: calls that read, calls that act -/
section CY
variable {d n1 n2 : Nat} {b0 b1 b2 p q : Bool} {ad : Nat → Nat} {J : mmJ} {Q : mmQ} {T : zT} {to : Bool} {K : Nat → Nat} {P : zP} {tr l : Nat} {f : zF} {I : mmI}
theorem isy2 {x : Int32} {n : Nat} {A B : Prop} (hn : n < 2 ^ 31) (k1 : ∀ c, c < n → x = nI c → A) (k0 : ¬ ix n x → B) : (x < nI 0 → B) ∧ (¬ x < nI 0 → (x < nI n → A) ∧ (¬ x < nI n → B)) := by
  rcases z_ca x with z | ⟨a, ha, rfl⟩
  · refine ⟨fun _ => k0 ?_, fun e => absurd z e⟩
    rintro ⟨c, hc, rfl⟩
    rw [z_lt (by omega) (by decide)] at z; omega
  · rw [z_lt ha (by decide), z_lt ha hn]
    refine ⟨fun e => absurd e (by omega), fun _ => ⟨fun e => k1 a e rfl, fun e => k0 ?_⟩⟩
    rintro ⟨c, hc, e2⟩
    rw [z_eq ha (by omega)] at e2; omega
theorem cno (h : CC T to K P tr f p q l I) {C : Prop} {V : Int32 → Prop} (k : ∀ I' v t, fr trS I I' → CC T to K P t f p q l I' → rf C V v t → Q (some (.int v)) ((mm_fl b0 b1 b2, n1, n2, p, q, ad), I', J)) (hn : ¬ C) : mm_wc (d + 1) 159 [.ref 0, .int (nI 1)] ((mm_fl b0 b1 b2, 0, 0, p, q, ad), I, J) (fun v τ => ∃ r3 I3 J3, v = some (.int r3) ∧ τ = ((mm_fl b0 b1 b2, 0, 0, p, q, ad), I3, J3) ∧ Q (some (.int r3)) ((mm_fl b0 b1 b2, n1, n2, p, q, ad), I3, J3)) :=
  ct_159 h (by decide) (by decide) (fun I' f' h' => ⟨_, _, _, rfl, rfl, k I' _ _ f' h' (.inr ⟨hn, rfl, rfl⟩)⟩)
theorem cye (h : CC T to K P tr f p q l I) {C : Prop} {V : Int32 → Prop} (k : ∀ I' v t, fr trS I I' → CC T to K P t f p q l I' → rf C V v t → Q (some (.int v)) ((mm_fl b0 b1 b2, n1, n2, p, q, ad), I', J)) {v : Int32} (hc : C) (hv : V v) : mm_wc (d + 1) 160 [.ref 0, .int v] ((mm_fl b0 b1 b2, 0, 0, p, q, ad), I, J) (fun v τ => ∃ r3 I3 J3, v = some (.int r3) ∧ τ = ((mm_fl b0 b1 b2, 0, 0, p, q, ad), I3, J3) ∧ Q (some (.int r3)) ((mm_fl b0 b1 b2, n1, n2, p, q, ad), I3, J3)) :=
  ct_160 h (fun I' f' h' => ⟨_, _, _, rfl, rfl, k I' _ _ f' h' (.inl ⟨hc, hv, rfl⟩)⟩)
theorem cd_117 {x y w : Int32} (h : CC T to K P tr f p q l I) (k : ∀ I' v t, fr trS I I' → CC T to K P t f p q l I' → rf (to = true ∧ ix (K 6) x ∧ ix (K 4) y ∧ ix 16 w) (va_breath K x y w) v t → Q (some (.int v)) ((mm_fl b0 b1 b2, n1, n2, p, q, ad), I', J)) : mm_wc (d + 2) 117 [.ref 0, .int x, .int y, .int w] ((mm_fl b0 b1 b2, n1, n2, p, q, ad), I, J) Q := by
  refine fx_117 (ct_155 h (fun a ht ha ea => ⟨_, _, _, rfl, rfl, fun z => absurd z n10, fun _ => ?_⟩) (fun hn => ⟨_, _, _, rfl, rfl, fun _ => cno h k (fun z => hn ⟨z.1, z.2.1⟩), fun z => absurd rfl z⟩))
  refine ct_154 h (fun b _ hb eb => ⟨_, _, _, rfl, rfl, fun z => absurd z n10, fun _ => ?_⟩) (fun hn => ⟨_, _, _, rfl, rfl, fun _ => cno h k (fun z => hn ⟨z.1, z.2.2.1⟩), fun z => absurd rfl z⟩)
  refine isy2 (by decide) (fun j hj ej => ?_) (fun hn => cno h k (fun z => hn z.2.2.2))
  rw [ea, eb, ej]
  exact ct_9 (h.cake ht) ⟨_, _, _, rfl, rfl, cye h k ⟨ht, ⟨a, ha, ea⟩, ⟨b, hb, eb⟩, ⟨j, hj, ej⟩⟩ ⟨a, b, j, ha, ea, hb, eb, hj, ej, rfl⟩⟩
theorem cd_118 {x w : Int32} (h : CC T to K P tr f p q l I) (k : ∀ I' v t, fr trS I I' → CC T to K P t f p q l I' → rf (to = true ∧ ix (nB K) x ∧ ix 3 w) (va_breathOf K x w) v t → Q (some (.int v)) ((mm_fl b0 b1 b2, n1, n2, p, q, ad), I', J)) : mm_wc (d + 2) 118 [.ref 0, .int x, .int w] ((mm_fl b0 b1 b2, n1, n2, p, q, ad), I, J) Q := by
  refine fx_118 (ct_156 h (fun b ht hb eb => ⟨_, _, _, rfl, rfl, fun z => absurd z n10, fun _ => ?_⟩) (fun hn => ⟨_, _, _, rfl, rfl, fun _ => cno h k (fun z => hn ⟨z.1, z.2.1⟩), fun z => absurd rfl z⟩))
  have hB := nB_le (h.ok ht)
  have hK := h.cake ht
  have yes : ∀ j v, j < 3 → w = nI j → v = nI (if j = 0 then b / 16 / K 4 else if j = 1 then b / 16 % K 4 else b % 16) → mm_wc (d + 1) 160 [.ref 0, .int v] ((mm_fl b0 b1 b2, 0, 0, p, q, ad), I, J) (fun v τ => ∃ r3 I3 J3, v = some (.int r3) ∧ τ = ((mm_fl b0 b1 b2, 0, 0, p, q, ad), I3, J3) ∧ Q (some (.int r3)) ((mm_fl b0 b1 b2, n1, n2, p, q, ad), I3, J3)) := fun j v hj ej hv => cye h k ⟨ht, ⟨b, hb, eb⟩, ⟨j, hj, ej⟩⟩ ⟨b, j, hb, eb, hj, ej, hv⟩
  rw [eb]
  rcases z_ca w with z | ⟨a, ha, ew⟩
  · exact ⟨fun _ => cno h k (fun y => by obtain ⟨-, -, j, hj, ej⟩ := y; rw [ej, z_lt (by omega) (by decide)] at z; omega), fun e => absurd z e⟩
  · rw [ew, z_lt ha (by decide), z_le ha (by decide), z_eq ha (by decide), z_eq ha (by decide)]
    refine ⟨fun e => absurd e (by omega), fun _ => ⟨fun e => ⟨fun e0 => ⟨fun e1 => ct_10 (by omega) ⟨_, _, _, rfl, rfl, yes 2 _ (by decide) (by rw [ew]; congr 1; omega) rfl⟩, fun e1 => ct_11 hK (by omega) ⟨_, _, _, rfl, rfl, yes 1 _ (by decide) (by rw [ew, e1]) rfl⟩⟩, fun e0 => ct_12 hK (by omega) ⟨_, _, _, rfl, rfl, yes 0 _ (by decide) (by rw [ew, e0]) rfl⟩⟩, fun e => cno h k (fun y => ?_)⟩⟩
    obtain ⟨-, -, j, hj, ej⟩ := y
    rw [ew, z_eq ha (by omega)] at ej; omega
theorem cd_119 (h : CC T to K P tr f p q l I) (k : ∀ I' v t, fr trS I I' → CC T to K P t f p q l I' → rf (to = true) (fun v => v = nI (nfan K (nB K))) v t → Q (some (.int v)) ((mm_fl b0 b1 b2, n1, n2, p, q, ad), I', J)) : mm_wc (d + 2) 119 [.ref 0] ((mm_fl b0 b1 b2, n1, n2, p, q, ad), I, J) Q := by
  refine fx_119 ?_
  rw [h.told, bI_0]
  refine ⟨fun e => cno h k (by rw [e]; decide), fun e => ?_⟩
  have ht : to = true := by simpa using e
  exact ct_13 (h.bd ht) ⟨_, _, _, rfl, rfl, cye h k ht rfl⟩
theorem cd_120 (h : CC T to K P tr f p q l I) (k : ∀ I' v t, fr trS I I' → CC T to K P t f p q l I' → rf (to = true) (fun v => v = nI (sprK K (nB K))) v t → Q (some (.int v)) ((mm_fl b0 b1 b2, n1, n2, p, q, ad), I', J)) : mm_wc (d + 3) 120 [.ref 0] ((mm_fl b0 b1 b2, n1, n2, p, q, ad), I, J) Q := by
  refine fx_120 ?_
  rw [h.told, bI_0]
  refine ⟨fun e => cno h k (by rw [e]; decide), fun e => ?_⟩
  have ht : to = true := by simpa using e
  exact ct_14 (h.cake ht) (h.bd ht) ⟨_, _, _, rfl, rfl, cye h k ht rfl⟩
theorem cd_121 {x : Int32} {it : Bool} (h : CC T to K P tr f p q l I) (k : ∀ I' v t, fr trS I I' → CC T to K P t f p q l I' → rf (to = true ∧ ix (K 3) x) (va_lights K x it) v t → Q (some (.int v)) ((mm_fl b0 b1 b2, n1, n2, p, q, ad), I', J)) : mm_wc (d + 3) 121 [.ref 0, .int x, .int (bI it)] ((mm_fl b0 b1 b2, n1, n2, p, q, ad), I, J) Q := by
  refine fx_121 (ct_153 h (fun c ht hc ec => ⟨_, _, _, rfl, rfl, fun _ => ?_, fun z => absurd z n10⟩) (fun hn => ⟨_, _, _, rfl, rfl, fun z => absurd rfl z, fun _ => cno h k hn⟩))
  have ok := h.ok ht
  have h3 := ok.c
  have h2c : 2 ^ c < 2 ^ K 3 := Nat.pow_lt_pow_right (by decide) hc
  have h2d := lt_p11 ok h2c
  rw [ec, bI_0, z_bit (by omega), z_ix (by omega), (h.bd ht).2.2.2.2.2.2.2 _ h2c]
  refine ⟨fun e => ⟨z_in h2d (by decide), cye h k ⟨ht, c, hc, ec⟩ ⟨c, hc, ec, ?_⟩⟩, fun e => ct_8 (h.cake ht) hc ⟨_, _, _, rfl, rfl, cye h k ⟨ht, c, hc, ec⟩ ⟨c, hc, ec, ?_⟩⟩⟩
  · rw [e]
    simp only [Bool.false_eq_true, if_false]
    have := litS_or (K := K) (S := 0) hc
    rw [Nat.or_zero, litS_0, Nat.or_zero] at this
    rw [this]
  · have e : it = true := by simpa using e
    rw [if_pos e]
theorem cd_122 (h : CC T to K P tr f p q l I) (k : ∀ I' v t, fr trS I I' → CC T to K P t f p q l I' → rf (to = true) (fun v => v = nI (P.1 / 8)) v t → Q (some (.int v)) ((mm_fl b0 b1 b2, n1, n2, p, q, ad), I', J)) : mm_wc (d + 2) 122 [.ref 0] ((mm_fl b0 b1 b2, n1, n2, p, q, ad), I, J) Q := by
  refine fx_122 ?_
  rw [h.told, bI_0]
  refine ⟨fun e => cno h k (by rw [e]; decide), fun e => ?_⟩
  have ht : to = true := by simpa using e
  have := (h.vms ht).1.lt (h.ok ht)
  rw [h.now ht]
  exact ct_17 (by omega) ⟨_, _, _, rfl, rfl, cye h k ht rfl⟩
theorem cd_123 (h : CC T to K P tr f p q l I) (k : ∀ I' v t, fr trS I I' → CC T to K P t f p q l I' → rf (to = true) (fun v => v = nI (dzK K P.1)) v t → Q (some (.int v)) ((mm_fl b0 b1 b2, n1, n2, p, q, ad), I', J)) : mm_wc (d + 2) 123 [.ref 0] ((mm_fl b0 b1 b2, n1, n2, p, q, ad), I, J) Q := by
  refine fx_123 ?_
  rw [h.told, bI_0]
  refine ⟨fun e => cno h k (by rw [e]; decide), fun e => ?_⟩
  have ht : to = true := by simpa using e
  have := (h.vms ht).1.lt (h.ok ht)
  rw [h.now ht]
  exact ct_19 (h.bd ht) (by omega) ⟨_, _, _, rfl, rfl, cye h k ht rfl⟩
theorem cd_124 {x : Int32} (h : CC T to K P tr f p q l I) (k : ∀ I' v t, fr trS I I' → CC T to K P t f p q l I' → ra_gain to K P x v t → Q (some (.int v)) ((mm_fl b0 b1 b2, n1, n2, p, q, ad), I', J)) : mm_wc (d + 4) 124 [.ref 0, .int x] ((mm_fl b0 b1 b2, n1, n2, p, q, ad), I, J) Q := by
  refine fx_124 (ct_156 h (fun b ht hb eb => ⟨_, _, _, rfl, rfl, fun _ => ?_, fun z => absurd z n10⟩) (fun hn => ⟨_, _, _, rfl, rfl, fun z => absurd rfl z, fun _ => k _ _ _ (fr.rf.up rfl) (h.trb (w := 1) (by decide) (by decide)) (.inr ⟨hn, rfl, rfl⟩)⟩))
  have hB := nB_le (h.ok ht)
  rw [eb, z_ix (by omega), h.now ht, (h.bd ht).2.2.1 b hb]
  exact ⟨z_in (by omega) (by decide), ct_25 (h.bd ht) h.ms (h.vms ht).1 ⟨_, _, _, rfl, rfl, ct_160 h (fun I' f' h' => ⟨_, _, _, rfl, rfl, k I' _ _ f' h' (.inl ⟨ht, ⟨b, hb, eb, rfl⟩, rfl⟩)⟩)⟩⟩
theorem cd_125 (h : CC T to K P tr f p q l I) (k : ∀ I' v t, fr trS I I' → CC T to K P t f p q l I' → rf (to = true) (va_greedy K P) v t → Q (some (.int v)) ((mm_fl b0 b1 b2, n1, n2, p, q, ad), I', J)) : mm_wc (d + 5) 125 [.ref 0] ((mm_fl b0 b1 b2, n1, n2, p, q, ad), I, J) Q := by
  refine fx_125 ?_
  rw [h.told, bI_0]
  refine ⟨fun e => cno h k (by rw [e]; decide), fun e => ?_⟩
  have ht : to = true := by simpa using e
  rw [h.now ht]
  exact ct_26 (h.bd ht) h.ms (h.vms ht).1 (fun b hb => ⟨_, _, _, rfl, rfl, cye h k ht ⟨b, hb, rfl⟩⟩)
theorem cd_138 (h : CC T to K P tr f p q l I) (k : ∀ I' v t, fr trS I I' → CC T to K P t f p q l I' → rf (to = true) (va_gEnd K P) v t → Q (some (.int v)) ((mm_fl b0 b1 b2, n1, n2, p, q, ad), I', J)) : mm_wc (d + 6) 138 [.ref 0] ((mm_fl b0 b1 b2, n1, n2, p, q, ad), I, J) Q := by
  refine fx_138 ?_
  rw [h.told, bI_0]
  refine ⟨fun e => cno h k (by rw [e]; decide), fun e => ?_⟩
  have ht : to = true := by simpa using e
  rw [h.now ht]
  exact ct_27 (h.cake ht) (h.bd ht) h.ms (h.vms ht).1 (fun r hr hv => ⟨_, _, _, rfl, rfl, ct_18 (hv.lt (h.ok ht)) ⟨_, _, _, rfl, rfl, cye h k ht ⟨r, hr, rfl⟩⟩⟩)
/-- a new past -/
theorem CC_past {P' : zP} {I' : mmI} (h : CC T to K P tr f p q l I) (ht : to = true) (hf : fr [(15, [0, 2, 4]), (16, []), (17, [])] I I') (hv : vm K False P'.1 ∧ (∀ k, k < P'.2.1 → vm K False (P'.2.2.1 k)) ∧ (∀ k, k < P'.2.2.2.1 → vm K False (P'.2.2.2.2 k))) (hn : P'.2.1 ≤ 20) (hi : P'.2.2.2.1 ≤ 3) (h0 : I' 15 0 = nI P'.1) (h2 : I' 15 2 = nI P'.2.1) (h4 : I' 15 4 = nI P'.2.2.2.1) (h16 : ∀ k, k < P'.2.1 → I' 16 k = nI (P'.2.2.1 k)) (h17 : ∀ k, k < P'.2.2.2.1 → I' 17 k = nI (P'.2.2.2.2 k)) : CC T to K P' tr f p q l I' := by
  obtain ⟨⟨z1, z2, z3, z4, z5, z6, z7, z8, z9⟩, a2, a3, a4, a5, a6, a7, a8, a9, a10, a11, a12, a13, a14, a15, a16, a17, a18⟩ := h
  obtain ⟨y1, y2, y3, y4, y5⟩ := z6 ht
  have ock : ∀ c j k, j < 14 → I' (mm_ck c j) k = I (mm_ck c j) k := fun c j k hj => hf.ck rfl c hj k
  refine ⟨⟨z1, z2, hn, hi, fun z => (by rw [ht] at z; cases z), fun _ => ⟨y1, hv.1, hv.2.1, hv.2.2, y5⟩, z7, z8, z9⟩, by rw [hf 0 1 rfl]; exact a2, by rw [hf 0 7 rfl]; exact a3, by rw [hf 0 8 rfl]; exact a4, fun z => by rw [hf 0 9 rfl]; exact a5 z, by rw [hf 1 1 rfl]; exact a6, fun k hk => by rw [hf 2 k rfl]; exact a7 k hk, fun c => by rw [ock c 1 0 (by decide), ock c 5 0 (by decide), ock c 8 0 (by decide)]; exact a8 c, a9, h2, h4, h16, h17, fun z => ⟨h0, (a14 z).2.1.fr hf rfl, (a14 z).2.2.fr hf rfl rfl rfl rfl⟩, by rw [hf 6 13 rfl]; exact a15, by rw [hf 6 1 rfl]; exact a16, a17, ⟨fun j hj => by rw [hf 66 j rfl]; exact a18.1 j hj, fun j hj => by rw [hf 67 j rfl]; exact a18.2 j hj⟩⟩
abbrev paS : List (Nat × List Nat) := [(0, [7]), (15, []), (16, []), (17, [])]
theorem ct_50 {m : Nat} (h : CC T to K P tr f p q l I) (ht : to = true) (hm : vm K False m) (k : ∀ I', fr paS I I' → CC T to K (pAct P m) tr f p q l I' → I' 15 0 = nI m → Q none ((mm_fl b0 b1 b2, n1, n2, p, q, ad), I', J)) : mm_wc (d + 2) 50 [.ref 15, .int (nI m)] ((mm_fl b0 b1 b2, n1, n2, p, q, ad), I, J) Q := by
  have hna := h.1.2.2.1
  have hni := h.1.2.2.2.1
  obtain ⟨v1, v2, v3⟩ := h.vms ht
  obtain ⟨-, -, -, -, -, -, -, -, -, a10, a11, a12, a13, -⟩ := id h
  have e0 := h.now ht
  refine fx_50 ?_
  rw [a10, z_lt (by omega) (by decide), z_ix (by omega), z_add, e0]
  refine ⟨fun e => ⟨z_in (by omega) (by decide), ?_⟩, fun e => sx_cpy ⟨_, _, rfl, rfl, ?_⟩⟩
  · have e20 : P.2.1 ≠ 20 := by omega
    refine k _ (((fr.rf.up rfl).up rfl).up rfl) (CC_past h ht (((fr.rf.up rfl).up rfl).up rfl) ⟨hm, fun j hj => ?_, v3⟩ ?_ hni (up_s _ _ _ _) ?_ ?_ (fun j hj => ?_) (fun j hj => ?_)) (up_s _ _ _ _)
    · unfold pAct at hj ⊢
      simp only [e20, if_false] at hj ⊢
      by_cases ej : j = P.2.1
      · subst ej; rw [ap_eq]; exact v1
      · rw [ap_lt (by omega)]; exact v2 j (by omega)
    · unfold pAct; simp only [e20, if_false]; omega
    · unfold pAct; simp only [e20, if_false]; rw [up_k (by decide), up_s]
    · simp (disch := omega) only [up_k, up_c]; exact a11
    · unfold pAct at hj ⊢
      simp only [e20, if_false] at hj ⊢
      simp (disch := omega) only [up_c]
      by_cases ej : j = P.2.1
      · subst ej; rw [ap_eq, up_s]
      · rw [ap_lt (by omega), up_k ej]; exact a12 j (by omega)
    · simp (disch := omega) only [up_c]; exact a13 j hj
  · have e20 : P.2.1 = 20 := by omega
    have fR : fr paS I (mm_row I 16 (va_cpy (I 16) (I 16) 1 0 19)) := fun r k hr => by
      unfold mm_row
      rw [if_neg]
      intro z; subst z
      exact absurd hr (by simp [inS])
    have fR2 : fr [(15, [0, 2, 4]), (16, []), (17, [])] I (mm_row I 16 (va_cpy (I 16) (I 16) 1 0 19)) := fun r k hr => by
      unfold mm_row
      rw [if_neg]
      intro z; subst z
      exact absurd hr (by simp [inS])
    have r16 : ∀ k, mm_row I 16 (va_cpy (I 16) (I 16) 1 0 19) 16 k = va_cpy (I 16) (I 16) 1 0 19 k := fun k => by unfold mm_row; rw [if_pos rfl]
    have rr : ∀ r k, r ≠ 16 → mm_row I 16 (va_cpy (I 16) (I 16) 1 0 19) r k = I r k := fun r k hr => by unfold mm_row; rw [if_neg hr]
    show Q none (_, mm_up (mm_up (mm_up (mm_up (mm_row I 16 (va_cpy (I 16) (I 16) 1 0 19)) 15 2 (nI 19)) 16 19 (mm_row I 16 (va_cpy (I 16) (I 16) 1 0 19) 15 0)) 15 2 (nI 20)) 15 0 (nI m), J)
    rw [rr 15 0 (by decide), e0]
    refine k _ ((((fR.up rfl).up rfl).up rfl).up rfl) (CC_past h ht ((((fR2.up rfl).up rfl).up rfl).up rfl) ⟨hm, fun j hj => ?_, v3⟩ ?_ hni (up_s _ _ _ _) ?_ ?_ (fun j hj => ?_) (fun j hj => ?_)) (up_s _ _ _ _)
    · unfold pAct at hj ⊢
      simp only [e20, if_true] at hj ⊢
      split
      · exact v1
      · exact v2 (j + 1) (by omega)
    · unfold pAct; simp only [e20, if_true]; omega
    · unfold pAct; simp only [e20, if_true]; rw [up_k (by decide), up_s]
    · simp (disch := omega) only [up_k, up_c]; rw [rr 15 4 (by decide)]; exact a11
    · unfold pAct at hj ⊢
      simp only [e20, if_true] at hj ⊢
      simp (disch := omega) only [up_c]
      by_cases ej : j = 19
      · subst ej; rw [up_s]; simp
      · rw [up_k ej]
        simp (disch := omega) only [up_c]
        rw [r16 j, pk_cpy_in (by omega) (by omega), if_neg ej, show 1 + (j - 0) = j + 1 by omega]
        exact a12 (j + 1) (by omega)
    · simp (disch := omega) only [up_c]; rw [rr 17 j (by decide)]; exact a13 j hj
theorem cd_126 {x : Int32} (h : CC T to K P tr f p q l I) (k : ∀ I' v P' t, fr paS I I' → CC T to K P' t f p q l I' → ra_blow to K P x v P' t → Q (some (.int v)) ((mm_fl b0 b1 b2, n1, n2, p, q, ad), I', J)) : mm_wc (d + 3) 126 [.ref 0, .int x] ((mm_fl b0 b1 b2, n1, n2, p, q, ad), I, J) Q := by
  refine fx_126 (ct_156 h (fun b ht hb eb => ⟨_, _, _, rfl, rfl, fun _ => ?_, fun z => absurd z n10⟩) (fun hn => ⟨_, _, _, rfl, rfl, fun z => absurd rfl z, fun _ => ct_159 h (by decide) (by decide) (fun I' f' h' => ⟨_, _, _, rfl, rfl, k I' _ _ _ (f'.sub rfl) h' (.inr ⟨hn, rfl, rfl, rfl⟩)⟩)⟩))
  have hB := nB_le (h.ok ht)
  have hv' := zst_vm (h.ok ht) (h.vms ht).1 b
  rw [eb, z_ix (by omega), h.now ht, (h.bd ht).2.2.1 b hb]
  refine ⟨z_in (by omega) (by decide), ct_24n (h.bd ht) h.ms (h.vms ht).1 ⟨_, _, _, rfl, rfl, ct_50 h ht hv' (fun I2 f2 h2 e2 => ⟨_, _, rfl, rfl, ?_⟩)⟩⟩
  rw [e2]
  exact ct_18 (hv'.lt (h.ok ht)) ⟨_, _, _, rfl, rfl, ct_160 h2 (fun I' f' h' => ⟨_, _, _, rfl, rfl, k I' _ _ _ (f2.tr (f'.sub rfl)) h' (.inl ⟨b, ht, hb, eb, rfl, rfl, rfl⟩)⟩)⟩
theorem cd_127 {x : Int32} (h : CC T to K P tr f p q l I) (k : ∀ I' v P' t, fr paS I I' → CC T to K P' t f p q l I' → ra_light to K P x v P' t → Q (some (.int v)) ((mm_fl b0 b1 b2, n1, n2, p, q, ad), I', J)) : mm_wc (d + 3) 127 [.ref 0, .int x] ((mm_fl b0 b1 b2, n1, n2, p, q, ad), I, J) Q := by
  refine fx_127 (ct_153 h (fun c ht hc ec => ⟨_, _, _, rfl, rfl, fun _ => ?_, fun z => absurd z n10⟩) (fun hn => ⟨_, _, _, rfl, rfl, fun z => absurd rfl z, fun _ => ct_161 h (by decide) (by decide) (fun I' f' h' => ⟨_, _, _, rfl, rfl, .inl rfl, k I' _ _ _ (f'.sub rfl) h' (.inr (.inr ⟨hn, rfl, rfl, rfl⟩))⟩)⟩))
  have ok := h.ok ht
  have h3 := ok.c
  have hv := (h.vms ht).1
  rw [ec, h.now ht]
  refine ct_20 (hv.lt ok) (by omega) ⟨_, _, _, rfl, rfl, ?_⟩
  rw [bI_0]
  refine ⟨fun e => ?_, fun e => ct_161 h (by decide) (by decide) (fun I' f' h' => ⟨_, _, _, rfl, rfl, .inl rfl, k I' _ _ _ (f'.sub rfl) h' (.inr (.inl ⟨c, ht, hc, ec, by simpa using e, rfl, rfl, rfl⟩))⟩)⟩
  rw [h.now ht]
  exact ct_21 (h.bd ht) hv hc ⟨_, _, _, rfl, rfl, ct_50 h ht (zlit_vm hv hc) (fun I2 f2 h2 _ => ⟨_, _, rfl, rfl, ct_162 h2 (fun I' f' h' => ⟨_, _, _, rfl, rfl, .inr rfl, k I' _ _ _ (f2.tr (f'.sub rfl)) h' (.inl ⟨c, ht, hc, ec, e, rfl, rfl, rfl⟩)⟩)⟩)⟩
theorem cd_128 (h : CC T to K P tr f p q l I) (k : ∀ I' v P' t, fr paS I I' → CC T to K P' t f p q l I' → ra_all to K P v P' t → Q (some (.int v)) ((mm_fl b0 b1 b2, n1, n2, p, q, ad), I', J)) : mm_wc (d + 3) 128 [.ref 0] ((mm_fl b0 b1 b2, n1, n2, p, q, ad), I, J) Q := by
  refine fx_128 ?_
  rw [h.told, bI_0]
  refine ⟨fun e => ?_, fun e => ct_161 h (by decide) (by decide) (fun I' f' h' => ⟨_, _, _, rfl, rfl, .inl rfl, k I' _ _ _ (f'.sub rfl) h' (.inr ⟨e, rfl, rfl, rfl⟩)⟩)⟩
  have ht : to = true := by simpa using e
  exact ct_16 (h.cake ht) (h.bd ht) ⟨_, _, _, rfl, rfl, ct_50 h ht (zall_vm K) (fun I2 f2 h2 _ => ⟨_, _, rfl, rfl, ct_162 h2 (fun I' f' h' => ⟨_, _, _, rfl, rfl, .inr rfl, k I' _ _ _ (f2.tr (f'.sub rfl)) h' (.inl ⟨ht, rfl, rfl, rfl⟩)⟩)⟩)⟩
theorem cd_129 (h : CC T to K P tr f p q l I) (k : ∀ I' v P' t, fr paS I I' → CC T to K P' t f p q l I' → ra_undo P v P' t → Q (some (.int v)) ((mm_fl b0 b1 b2, n1, n2, p, q, ad), I', J)) : mm_wc (d + 2) 129 [.ref 0] ((mm_fl b0 b1 b2, n1, n2, p, q, ad), I, J) Q := by
  have hna := h.1.2.2.1
  obtain ⟨-, -, -, -, -, -, -, -, -, a10, a11, a12, a13, -⟩ := id h
  refine fx_129 (fx_51 ?_)
  rw [a10, z_lt (by decide) (by omega)]
  refine ⟨fun e => ?_, fun e => ⟨_, _, _, rfl, rfl, fun _ => ct_161 h (by decide) (by decide) (fun I' f' h' => ⟨_, _, _, rfl, rfl, .inl rfl, k I' _ _ _ (f'.sub rfl) h' (.inr ⟨by omega, rfl, rfl, rfl⟩)⟩), fun z => absurd rfl z⟩⟩
  have ht : to = true := by
    cases hto : to
    · exact absurd (h.1.2.2.2.2.1 hto).1 (by omega)
    · rfl
  obtain ⟨v1, v2, v3⟩ := h.vms ht
  rw [z_sub (by omega), z_ix (by omega), a12 (P.2.1 - 1) (by omega)]
  refine ⟨z_in (by omega) (by decide), _, _, _, rfl, rfl, fun z => absurd z n10, fun _ => ?_⟩
  have h2 : CC T to K (P.2.2.1 (P.2.1 - 1), P.2.1 - 1, P.2.2) tr f p q l (mm_up (mm_up I 15 2 (nI (P.2.1 - 1))) 15 0 (nI (P.2.2.1 (P.2.1 - 1)))) := CC_past h ht ((fr.rf.up rfl).up rfl) ⟨v2 _ (by omega), fun j hj => v2 j (by have : j < P.2.1 - 1 := hj; omega), v3⟩ (by show P.2.1 - 1 ≤ 20; omega) h.1.2.2.2.1 (up_s _ _ _ _) (by rw [up_k (by decide), up_s]) (by rw [up_k (by decide), up_k (by decide)]; exact a11) (fun j hj => by rw [up_c (by decide), up_c (by decide)]; exact a12 j (by have : j < P.2.1 - 1 := hj; omega)) (fun j hj => by rw [up_c (by decide), up_c (by decide)]; exact a13 j hj)
  exact ct_162 h2 (fun I' f' h' => ⟨_, _, _, rfl, rfl, .inr rfl, k I' _ _ _ (((fr.rf.up rfl).up rfl).tr (f'.sub rfl)) h' (.inl ⟨by omega, rfl, rfl, rfl⟩)⟩)
theorem cd_148 (h : CC T to K P tr f p q l I) (k : ∀ I' v P' t, fr paS I I' → CC T to K P' t f p q l I' → ra_image to P v P' t → Q (some (.int v)) ((mm_fl b0 b1 b2, n1, n2, p, q, ad), I', J)) : mm_wc (d + 2) 148 [.ref 0] ((mm_fl b0 b1 b2, n1, n2, p, q, ad), I, J) Q := by
  have hni := h.1.2.2.2.1
  obtain ⟨-, -, -, -, -, -, -, -, -, a10, a11, a12, a13, -⟩ := id h
  refine fx_148 ?_
  rw [h.told, bI_0]
  refine ⟨fun e => fx_52 ?_, fun e => ct_159 h (by decide) (by decide) (fun I' f' h' => ⟨_, _, _, rfl, rfl, k I' _ _ _ (f'.sub rfl) h' (.inr (.inr ⟨e, rfl, rfl, rfl⟩))⟩)⟩
  have ht : to = true := by simpa using e
  obtain ⟨v1, v2, v3⟩ := h.vms ht
  rw [a11, z_lt (by omega) (by decide), z_ix (by omega), z_add, z_sub (by omega), Nat.add_sub_cancel, h.now ht]
  refine ⟨fun e3 => ⟨z_in (by omega) (by decide), _, _, _, rfl, rfl, fun _ => ?_, fun z => absurd z (by rw [z_m1 (by omega)]; exact id)⟩, fun e3 => ⟨_, _, _, rfl, rfl, fun z => absurd rfl z, fun _ => ct_159 h (by decide) (by decide) (fun I' f' h' => ⟨_, _, _, rfl, rfl, k I' _ _ _ (f'.sub rfl) h' (.inr (.inl ⟨ht, by omega, rfl, rfl, rfl⟩))⟩)⟩⟩
  have h2 : CC T to K (P.1, P.2.1, P.2.2.1, P.2.2.2.1 + 1, ap P.2.2.2.2 P.2.2.2.1 P.1) tr f p q l (mm_up (mm_up I 17 P.2.2.2.1 (nI P.1)) 15 4 (nI (P.2.2.2.1 + 1))) := by
    refine CC_past h ht ((fr.rf.up rfl).up rfl) ⟨v1, v2, fun j hj => ?_⟩ h.1.2.2.1 (by show P.2.2.2.1 + 1 ≤ 3; omega) (by rw [up_k (by decide), up_c (by decide)]; exact h.now ht) (by rw [up_k (by decide), up_c (by decide)]; exact a10) (up_s _ _ _ _) (fun j hj => by rw [up_c (by decide), up_c (by decide)]; exact a12 j hj) (fun j hj => ?_)
    · have hj : j < P.2.2.2.1 + 1 := hj
      show vm K False (ap P.2.2.2.2 P.2.2.2.1 P.1 j)
      by_cases ej : j = P.2.2.2.1
      · subst ej; rw [ap_eq]; exact v1
      · rw [ap_lt (by omega)]; exact v3 j (by omega)
    · have hj : j < P.2.2.2.1 + 1 := hj
      show _ = nI (ap P.2.2.2.2 P.2.2.2.1 P.1 j)
      rw [up_c (by decide)]
      by_cases ej : j = P.2.2.2.1
      · subst ej; rw [ap_eq, up_s]
      · rw [ap_lt (by omega), up_k ej]; exact a13 j (by omega)
  exact ct_160 h2 (fun I' f' h' => ⟨_, _, _, rfl, rfl, k I' _ _ _ (((fr.rf.up rfl).up rfl).tr (f'.sub rfl)) h' (.inl ⟨ht, by omega, rfl, rfl, rfl⟩)⟩)
theorem cd_149 {x : Int32} (h : CC T to K P tr f p q l I) (k : ∀ I' v P' t, fr paS I I' → CC T to K P' t f p q l I' → ra_back P x v P' t → Q (some (.int v)) ((mm_fl b0 b1 b2, n1, n2, p, q, ad), I', J)) : mm_wc (d + 2) 149 [.ref 0, .int x] ((mm_fl b0 b1 b2, n1, n2, p, q, ad), I, J) Q := by
  have hni := h.1.2.2.2.1
  obtain ⟨-, -, -, -, -, -, -, -, -, a10, a11, a12, a13, -⟩ := id h
  refine fx_149 (fx_53 ?_)
  rw [a11]
  refine isy2 (by omega) (fun j hj ej => ?_) (fun hn => ⟨_, _, _, rfl, rfl, fun _ => ct_161 h (by decide) (by decide) (fun I' f' h' => ⟨_, _, _, rfl, rfl, .inl rfl, k I' _ _ _ (f'.sub rfl) h' (.inr ⟨hn, rfl, rfl, rfl⟩)⟩), fun z => absurd rfl z⟩)
  have ht : to = true := by
    cases hto : to
    · exact absurd (h.1.2.2.2.2.1 hto).2 (by omega)
    · rfl
  obtain ⟨v1, v2, v3⟩ := h.vms ht
  rw [ej, z_ix (by omega), a13 j hj]
  refine ⟨z_in (by omega) (by decide), _, _, _, rfl, rfl, fun z => absurd z n10, fun _ => ?_⟩
  have h2 : CC T to K (P.2.2.2.2 j, 0, P.2.2) tr f p q l (mm_up (mm_up I 15 0 (nI (P.2.2.2.2 j))) 15 2 (nI 0)) := CC_past h ht ((fr.rf.up rfl).up rfl) ⟨v3 j hj, fun i hi => absurd hi (by show ¬ i < 0; omega), v3⟩ (by show 0 ≤ 20; omega) h.1.2.2.2.1 (by rw [up_k (by decide), up_s]) (up_s _ _ _ _) (by rw [up_k (by decide), up_k (by decide)]; exact a11) (fun i hi => absurd hi (by show ¬ i < 0; omega)) (fun i hi => by rw [up_c (by decide), up_c (by decide)]; exact a13 i hi)
  exact ct_162 h2 (fun I' f' h' => ⟨_, _, _, rfl, rfl, .inr rfl, k I' _ _ _ (((fr.rf.up rfl).up rfl).tr (f'.sub rfl)) h' (.inl ⟨j, hj, ej, rfl, rfl, rfl⟩)⟩)
end CY
