/-! the odds' calls: room is owed only where they answer -/
section VB
variable {d n1 n2 : Nat} {b0 b1 b2 p q : Bool} {ad : Nat → Nat} {J : mmJ} {Q : mmQ} {K : Nat → Nat} {I : mmI} {T : zT} {to : Bool} {P : zP} {tr l Lm : Nat} {f : zF}
theorem ce_141 {x : Int32} {lo : Bool} (h : CC T to K P tr f p q l I) (hs : b1 = true → ODi to K l I) (hl : l < 2 ^ 30) (hR : (to = true ∧ ∃ j, 1 ≤ j ∧ j ≤ 3 ∧ x = nI j) → owe 15 b1 ≤ n1 ∧ owe 35028 b1 ≤ n2) (k : ∀ c1 m1 m2 ad' I' v t, (c1 = true ∨ c1 = b1 ∧ ¬ (to = true ∧ ∃ j, 1 ≤ j ∧ j ≤ 3 ∧ x = nI j)) → fr odA I I' → CC T to K P t f p q l I' → (c1 = true → ODi to K l I') → ra_chance to K P x lo v t → Q (some (.long v)) ((mm_fl b0 c1 b2, m1, m2, p, q, ad'), I', J)) : mm_wc (d + 11) 141 [.ref 0, .int x, .int (bI lo)] ((mm_fl b0 b1 b2, n1, n2, p, q, ad), I, J) Q := by
  refine fx_141 (ct_157 (by decide) h (fun j ht j1 j3 ej => ⟨_, _, _, rfl, rfl, fun _ => ?_, fun z => absurd rfl z⟩) (fun I' ht hn f' h' => ⟨_, _, _, rfl, rfl, fun z => absurd z n10, fun _ => k b1 _ _ ad I' _ _ (.inr ⟨rfl, fun z => hn z.2⟩) (f'.sub rfl) h' (fun e => od_tr (hs e) f') (.inr (.inl ⟨ht, hn, rfl, rfl⟩))⟩) (fun I' ht f' h' => ⟨_, _, _, rfl, rfl, fun z => absurd z n10, fun _ => k b1 _ _ ad I' _ _ (.inr ⟨rfl, fun z => by rw [ht] at z; cases z.1⟩) (f'.sub rfl) h' (fun e => od_tr (hs e) f') (.inr (.inr ⟨ht, rfl, rfl⟩))⟩))
  refine ⟨owe 15 b1, owe 35028 b1, (hR ⟨ht, j, j1, j3, ej⟩).1, (hR ⟨ht, j, j1, j3, ej⟩).2, ct_1011 h hs hl (fun ad2 I2 f2 o2 h2 => ⟨_, _, ad2, I2, rfl, rfl, ?_⟩)⟩
  have ok := h2.ok ht
  have hwp := ws_pow ok (n := j) j3
  have hle := chA_le (K := K) j P.1
  rw [h2.now ht, ej]
  refine ct_39 h2 ht o2 j1 j3 (h2.vms ht).1 (fun I3 ch fs f3 o3 k3 => ⟨_, _, _, rfl, rfl, ?_⟩)
  have h3 := CC_of h2 f3 rfl rfl
  refine ⟨owe 15 true, owe 35028 true, Nat.zero_le _, Nat.zero_le _, ct_1011 h3 (fun _ => oB_od h3.l6 o3 k3) hl (fun ad4 I4 f4 o4 h4 => ⟨_, _, ad4, I4, rfl, rfl, ?_⟩)⟩
  refine fx_38 (ct_42 ht (h4.bd ht) (h4.cake ht) h4.ms h4.l6 o4 (fun I5 ch5 fs5 f5 o5 k5 => ⟨_, _, rfl, rfl, ct_281 o5.2.2.2.1 j3 ⟨_, _, _, rfl, rfl, ⟨_, _, _, rfl, rfl, ?_⟩⟩⟩))
  rw [nI_l (by omega), nI_l (by omega)]
  refine ct_163 (by omega) (by omega) (by omega) ⟨_, _, _, rfl, rfl, ?_⟩
  have h5 := CC_of h4 f5 rfl rfl
  exact k true _ _ ad4 _ _ 0 (.inl rfl) ((((f2.tr (f3.sub rfl)).tr f4).tr (f5.sub rfl)).up rfl) (h5.trb (w := 0) (by decide) (by decide)) (fun _ => od_tr (oB_od h5.l6 o5 k5) (fr.rf.up rfl)) (.inl ⟨ht, trivial, ⟨j, j1, j3, ej, rfl⟩, rfl⟩)
theorem ce_142 {x : Int32} (h : CC T to K P tr f p q l I) (hs : b1 = true → ODi to K l I) (hl : l < 2 ^ 30) (hR : (to = true ∧ (∃ j, 1 ≤ j ∧ j ≤ 3 ∧ x = nI j) ∧ P.1 / 8 ≠ 0) → owe 15 b1 ≤ n1 ∧ owe 35028 b1 ≤ n2) (k : ∀ c1 m1 m2 ad' I' v t, (c1 = true ∨ c1 = b1 ∧ ¬ (to = true ∧ (∃ j, 1 ≤ j ∧ j ≤ 3 ∧ x = nI j) ∧ P.1 / 8 ≠ 0)) → fr odA I I' → CC T to K P t f p q l I' → (c1 = true → ODi to K l I') → ra_best to K P x v t → Q (some (.int v)) ((mm_fl b0 c1 b2, m1, m2, p, q, ad'), I', J)) : mm_wc (d + 12) 142 [.ref 0, .int x] ((mm_fl b0 b1 b2, n1, n2, p, q, ad), I, J) Q := by
  refine fx_142 (ct_157 (by decide) h (fun j ht j1 j3 ej => ⟨_, _, _, rfl, rfl, fun _ => ?_, fun z => absurd rfl z⟩) (fun I' ht hn f' h' => ⟨_, _, _, rfl, rfl, fun z => absurd z n10, fun _ => k b1 _ _ ad I' _ _ (.inr ⟨rfl, fun z => hn z.2.1⟩) (f'.sub rfl) h' (fun e => od_tr (hs e) f') (.inr (.inl ⟨ht, hn, rfl, rfl⟩))⟩) (fun I' ht f' h' => ⟨_, _, _, rfl, rfl, fun z => absurd z n10, fun _ => k b1 _ _ ad I' _ _ (.inr ⟨rfl, fun z => by rw [ht] at z; cases z.1⟩) (f'.sub rfl) h' (fun e => od_tr (hs e) f') (.inr (.inr ⟨ht, rfl, rfl⟩))⟩))
  have ok := h.ok ht
  have hv := (h.vms ht).1
  have hl11 := hv.lt ok
  have hzc := zcnt_le (P.1 / 8)
  rw [h.now ht]
  refine ct_18 hl11 ⟨_, _, _, rfl, rfl, ?_⟩
  rw [z_eq (by omega) (by decide), zcnt_0 hl11]
  refine ⟨fun e0 => ?_, fun e0 => ct_160 h (fun I' f' h' => ⟨_, _, _, rfl, rfl, k b1 _ _ ad I' _ _ (.inr ⟨rfl, fun z => z.2.2 e0⟩) (f'.sub rfl) h' (fun e => od_tr (hs e) f') (.inl ⟨ht, trivial, ⟨j, j1, j3, ej, .inl ⟨e0, rfl⟩⟩, rfl⟩)⟩)⟩
  refine ⟨owe 15 b1, owe 35028 b1, (hR ⟨ht, ⟨j, j1, j3, ej⟩, e0⟩).1, (hR ⟨ht, ⟨j, j1, j3, ej⟩, e0⟩).2, ct_1011 h hs hl (fun ad2 I2 f2 o2 h2 => ⟨_, _, ad2, I2, rfl, rfl, ?_⟩)⟩
  rw [h2.now ht, ej]
  refine ct_41 h2 ht o2 j1 j3 hv e0 (fun I3 ch fs b f3 o3 k3 hb => ⟨_, _, _, rfl, rfl, ?_⟩)
  have h3 := CC_of h2 f3 rfl rfl
  refine ct_160 h3 (fun I' f' h' => ⟨_, _, _, rfl, rfl, ?_⟩)
  exact k true _ _ ad2 I' _ _ (.inl rfl) ((f2.tr (f3.sub rfl)).tr (f'.sub rfl)) h' (fun _ => od_tr (oB_od h3.l6 o3 k3) f') (.inl ⟨ht, trivial, ⟨j, j1, j3, ej, .inr ⟨e0, b, hb, rfl⟩⟩, rfl⟩)
theorem ce_143 {x : Int32} {lo : Bool} (h : CC T to K P tr f p q l I) (hs : b1 = true → ODi to K l I) (hl : l < 2 ^ 30) (hR : (to = true ∧ ∃ j, 1 ≤ j ∧ j ≤ 3 ∧ x = nI j) → owe 15 b1 ≤ n1 ∧ owe 35028 b1 ≤ n2) (k : ∀ c1 m1 m2 ad' I' v t, (c1 = true ∨ c1 = b1 ∧ ¬ (to = true ∧ ∃ j, 1 ≤ j ∧ j ≤ 3 ∧ x = nI j)) → fr odA I I' → CC T to K P t f p q l I' → (c1 = true → ODi to K l I') → ra_content to K P x lo v t → Q (some (.long v)) ((mm_fl b0 c1 b2, m1, m2, p, q, ad'), I', J)) : mm_wc (d + 11) 143 [.ref 0, .int x, .int (bI lo)] ((mm_fl b0 b1 b2, n1, n2, p, q, ad), I, J) Q := by
  refine fx_143 (ct_157 (by decide) h (fun j ht j1 j3 ej => ⟨_, _, _, rfl, rfl, fun _ => ?_, fun z => absurd rfl z⟩) (fun I' ht hn f' h' => ⟨_, _, _, rfl, rfl, fun z => absurd z n10, fun _ => k b1 _ _ ad I' _ _ (.inr ⟨rfl, fun z => hn z.2⟩) (f'.sub rfl) h' (fun e => od_tr (hs e) f') (.inr (.inl ⟨ht, hn, rfl, rfl⟩))⟩) (fun I' ht f' h' => ⟨_, _, _, rfl, rfl, fun z => absurd z n10, fun _ => k b1 _ _ ad I' _ _ (.inr ⟨rfl, fun z => by rw [ht] at z; cases z.1⟩) (f'.sub rfl) h' (fun e => od_tr (hs e) f') (.inr (.inr ⟨ht, rfl, rfl⟩))⟩))
  refine ⟨owe 15 b1, owe 35028 b1, (hR ⟨ht, j, j1, j3, ej⟩).1, (hR ⟨ht, j, j1, j3, ej⟩).2, ct_1011 h hs hl (fun ad2 I2 f2 o2 h2 => ⟨_, _, ad2, I2, rfl, rfl, ?_⟩)⟩
  have ok := h2.ok ht
  have hwp := ws_pow ok (n := j) j3
  have hle := ctA_le (K := K) j P.1
  rw [h2.now ht, ej]
  refine ct_40 h2 ht o2 j1 j3 (h2.vms ht).1 (fun I3 ch fs f3 o3 k3 => ⟨_, _, _, rfl, rfl, ?_⟩)
  have h3 := CC_of h2 f3 rfl rfl
  refine ⟨owe 15 true, owe 35028 true, Nat.zero_le _, Nat.zero_le _, ct_1011 h3 (fun _ => oB_od h3.l6 o3 k3) hl (fun ad4 I4 f4 o4 h4 => ⟨_, _, ad4, I4, rfl, rfl, ?_⟩)⟩
  refine fx_38 (ct_42 ht (h4.bd ht) (h4.cake ht) h4.ms h4.l6 o4 (fun I5 ch5 fs5 f5 o5 k5 => ⟨_, _, rfl, rfl, ct_281 o5.2.2.2.1 j3 ⟨_, _, _, rfl, rfl, ⟨_, _, _, rfl, rfl, ?_⟩⟩⟩))
  rw [nI_l (by omega), nI_l (by omega)]
  refine ct_163 (by omega) (by omega) (by omega) ⟨_, _, _, rfl, rfl, ?_⟩
  have h5 := CC_of h4 f5 rfl rfl
  exact k true _ _ ad4 _ _ 0 (.inl rfl) ((((f2.tr (f3.sub rfl)).tr f4).tr (f5.sub rfl)).up rfl) (h5.trb (w := 0) (by decide) (by decide)) (fun _ => od_tr (oB_od h5.l6 o5 k5) (fr.rf.up rfl)) (.inl ⟨ht, trivial, ⟨j, j1, j3, ej, rfl⟩, rfl⟩)
end VB
