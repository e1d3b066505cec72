/-! the class holds the state -/
def by8 (a : Nat) : Int32 := (Int32.toInt8 (nI a)).toInt32
def cMo (I : mmI) : Prop := ∀ c : Bool, I (mm_ck c 1) 0 = nI 10 ∧ I (mm_ck c 5) 0 = nI 5 ∧ I (mm_ck c 8) 0 = nI 4
def CC (T : zT) (to : Bool) (K : Nat → Nat) (P : zP) (tr : Nat) (f : zF) (p q : Bool) (l : Nat) (I : mmI) : Prop :=
  zOk T to K P tr f ∧ I 0 1 = bI to ∧ I 0 7 = nI tr ∧ I 0 8 = nI f.1 ∧ (tr = 4 → I 0 9 = nI f.2) ∧ I 1 1 = nI T.1 ∧ (∀ k, k < T.1 → I 2 k = by8 (T.2 k)) ∧ cMo I ∧ q = !p ∧
  I 15 2 = nI P.2.1 ∧ I 15 4 = nI P.2.2.2.1 ∧ (∀ k, k < P.2.1 → I 16 k = nI (P.2.2.1 k)) ∧ (∀ k, k < P.2.2.2.1 → I 17 k = nI (P.2.2.2.2 k)) ∧ (to = true → I 15 0 = nI P.1 ∧ cK I p K ∧ bD I K) ∧ I 6 13 = nI 0 ∧ I 6 1 = nI l ∧ (to = true → 1 ≤ l) ∧ cWy I
section CCs
variable {d n1 n2 : Nat} {b0 b1 b2 p q : Bool} {ad : Nat → Nat} {J : mmJ} {Q : mmQ} {T : zT} {to : Bool} {K : Nat → Nat} {P : zP} {tr l : Nat} {f : zF} {I : mmI}
theorem CC.told (h : CC T to K P tr f p q l I) : I 0 1 = bI to := h.2.1
theorem CC.now (h : CC T to K P tr f p q l I) (ht : to = true) : I 15 0 = nI P.1 := (h.2.2.2.2.2.2.2.2.2.2.2.2.2.1 ht).1
theorem CC.cake (h : CC T to K P tr f p q l I) (ht : to = true) : cK I p K := (h.2.2.2.2.2.2.2.2.2.2.2.2.2.1 ht).2.1
theorem CC.bd (h : CC T to K P tr f p q l I) (ht : to = true) : bD I K := (h.2.2.2.2.2.2.2.2.2.2.2.2.2.1 ht).2.2
theorem CC.ok (h : CC T to K P tr f p q l I) (ht : to = true) : okR K := (h.1.2.2.2.2.2.1 ht).1
theorem CC.vms (h : CC T to K P tr f p q l I) (ht : to = true) : vm K False P.1 ∧ (∀ k, k < P.2.1 → vm K False (P.2.2.1 k)) ∧ (∀ k, k < P.2.2.2.1 → vm K False (P.2.2.2.2 k)) := ⟨(h.1.2.2.2.2.2.1 ht).2.1, (h.1.2.2.2.2.2.1 ht).2.2.1, (h.1.2.2.2.2.2.1 ht).2.2.2.1⟩
theorem CC.ms (h : CC T to K P tr f p q l I) : I 6 13 = nI 0 := h.2.2.2.2.2.2.2.2.2.2.2.2.2.2.1
/-- where only what it doesn't speak of, and the trouble, are new -/
theorem CC_tr {tr' : Nat} {I' : mmI} (h : CC T to K P tr f p q l I) {L : List (Nat × List Nat)} (hf : fr L I I') (h0 : inS L 0 1 = false ∧ inS L 0 8 = false ∧ inS L 0 9 = false) (h1 : noR 1 6 L = true) (h2 : inS L 6 1 = false ∧ inS L 6 2 = false ∧ inS L 6 7 = false ∧ inS L 6 11 = false ∧ inS L 6 13 = false) (h3 : noR 7 46 L = true) (h4 : noR 66 68 L = true) (h5 : I' 0 7 = nI tr') (h6 : tr' ≤ 6) (h7 : tr' = 4 → tr = 4) : CC T to K P tr' f p q l I' := by
  obtain ⟨⟨z1, z2, z3, z4, z5, z6, z7, z8, z9⟩, a2, a3, a4, a5, a6, a7, a8, a9, a10, a11, a12, a13, a14, a15, a16, a17, a18⟩ := h
  have o1 : ∀ r k, 1 ≤ r → r < 6 → I' r k = I r k := fun r k g1 g2 => hf r k (inS_no h1 g1 g2)
  have o3 : ∀ r k, 7 ≤ r → r < 46 → I' r k = I r k := fun r k g1 g2 => hf r k (inS_no h3 g1 g2)
  have o4 : ∀ r k, 66 ≤ r → r < 68 → I' r k = I r k := fun r k g1 g2 => hf r k (inS_no h4 g1 g2)
  have ock : ∀ c j k, j < 14 → I' (mm_ck c j) k = I (mm_ck c j) k := fun c j k hj => o3 _ k (by have := (ck_in c hj).1; omega) (ck_in c hj).2
  refine ⟨⟨z1, z2, z3, z4, z5, z6, h6, z8, z9⟩, by rw [hf 0 1 h0.1]; exact a2, h5, by rw [hf 0 8 h0.2.1]; exact a4, fun z => by rw [hf 0 9 h0.2.2]; exact a5 (h7 z), by rw [o1 1 1 (by decide) (by decide)]; exact a6, fun k hk => by rw [o1 2 k (by decide) (by decide)]; exact a7 k hk, fun c => by rw [ock c 1 0 (by decide), ock c 5 0 (by decide), ock c 8 0 (by decide)]; exact a8 c, a9, by rw [o3 15 2 (by decide) (by decide)]; exact a10, by rw [o3 15 4 (by decide) (by decide)]; exact a11, fun k hk => by rw [o3 16 k (by decide) (by decide)]; exact a12 k hk, fun k hk => by rw [o3 17 k (by decide) (by decide)]; exact a13 k hk, fun z => ⟨by rw [o3 15 0 (by decide) (by decide)]; exact (a14 z).1, (a14 z).2.1.of (fun j k hj => ock p j k hj), (a14 z).2.2.of (hf 6 2 h2.2.1) (hf 6 7 h2.2.2.1) (hf 6 11 h2.2.2.2.1) (fun r k g1 g2 => o3 r k g1 (by omega))⟩, by rw [hf 6 13 h2.2.2.2.2]; exact a15, by rw [hf 6 1 h2.1]; exact a16, a17, ⟨fun j hj => by rw [o4 66 j (by decide) (by decide)]; exact a18.1 j hj, fun j hj => by rw [o4 67 j (by decide) (by decide)]; exact a18.2 j hj⟩⟩
theorem CC.trb (h : CC T to K P tr f p q l I) {w : Nat} (hw : w ≤ 6) (h4 : w ≠ 4) : CC T to K P w f p q l (mm_up I 0 7 (nI w)) :=
  CC_tr h (L := [(0, [7])]) (fr.rf.up rfl) ⟨rfl, rfl, rfl⟩ rfl ⟨rfl, rfl, rfl, rfl, rfl⟩ rfl rfl (up_s _ _ _ _) hw (fun z => absurd z h4)
abbrev trS : List (Nat × List Nat) := [(0, [7])]
theorem ct_159 (h : CC T to K P tr f p q l I) {w : Nat} (hw : w ≤ 6) (h4 : w ≠ 4) (k : ∀ I', fr trS I I' → CC T to K P w f p q l I' → Q (some (.int (-1))) ((mm_fl b0 b1 b2, n1, n2, p, q, ad), I', J)) : mm_wc (d + 1) 159 [.ref 0, .int (nI w)] ((mm_fl b0 b1 b2, n1, n2, p, q, ad), I, J) Q := fx_159 (k _ (fr.rf.up rfl) (h.trb hw h4))
theorem ct_160 {x : Int32} (h : CC T to K P tr f p q l I) (k : ∀ I', fr trS I I' → CC T to K P 0 f p q l I' → Q (some (.int x)) ((mm_fl b0 b1 b2, n1, n2, p, q, ad), I', J)) : mm_wc (d + 1) 160 [.ref 0, .int x] ((mm_fl b0 b1 b2, n1, n2, p, q, ad), I, J) Q := fx_160 (k _ (fr.rf.up rfl) (h.trb (w := 0) (by decide) (by decide)))
theorem ct_161 (h : CC T to K P tr f p q l I) {w : Nat} (hw : w ≤ 6) (h4 : w ≠ 4) (k : ∀ I', fr trS I I' → CC T to K P w f p q l I' → Q (some (.int (nI 0))) ((mm_fl b0 b1 b2, n1, n2, p, q, ad), I', J)) : mm_wc (d + 1) 161 [.ref 0, .int (nI w)] ((mm_fl b0 b1 b2, n1, n2, p, q, ad), I, J) Q := fx_161 (k _ (fr.rf.up rfl) (h.trb hw h4))
theorem ct_162 (h : CC T to K P tr f p q l I) (k : ∀ I', fr trS I I' → CC T to K P 0 f p q l I' → Q (some (.int (nI 1))) ((mm_fl b0 b1 b2, n1, n2, p, q, ad), I', J)) : mm_wc (d + 1) 162 [.ref 0] ((mm_fl b0 b1 b2, n1, n2, p, q, ad), I, J) Q := fx_162 (k _ (fr.rf.up rfl) (h.trb (w := 0) (by decide) (by decide)))
/-- x below n, as the class asks it -/
theorem isy {x : Int32} {n : Nat} {A B : Prop} (hn : n < 2 ^ 31) (k1 : ∀ c, c < n → x = nI c → A) (k0 : ¬ ix n x → B) : (x < nI 0 → B) ∧ (¬ x < nI 0 → (nI n ≤ x → B) ∧ (¬ nI n ≤ x → A)) := by
  rcases z_ca x with z | ⟨a, ha, rfl⟩
  · refine ⟨fun _ => k0 ?_, fun e => absurd z e⟩
    rintro ⟨c, hc, rfl⟩
    rw [z_lt (by omega) (by decide)] at z; omega
  · rw [z_lt ha (by decide), z_le hn ha]
    refine ⟨fun e => absurd e (by omega), fun _ => ⟨fun e => k0 ?_, fun e => k1 a (by omega) rfl⟩⟩
    rintro ⟨c, hc, e2⟩
    rw [z_eq ha (by omega)] at e2; omega
theorem cd_isx {x : Int32} {n : Nat} {y : Int32} (h : CC T to K P tr f p q l I) (hy : to = true → y = nI n) (hn : n < 2 ^ 31) (k1 : ∀ c, to = true → c < n → x = nI c → Q (some (.int (nI 1))) ((mm_fl b0 b1 b2, n1, n2, p, q, ad), I, J)) (k0 : ¬ (to = true ∧ ix n x) → Q (some (.int (nI 0))) ((mm_fl b0 b1 b2, n1, n2, p, q, ad), I, J)) :
    (I 0 1 = nI 0 → Q (some (.int (nI 0))) ((mm_fl b0 b1 b2, n1, n2, p, q, ad), I, J)) ∧ (¬ I 0 1 = nI 0 → (x < nI 0 → Q (some (.int (nI 0))) ((mm_fl b0 b1 b2, n1, n2, p, q, ad), I, J)) ∧ (¬ x < nI 0 → (y ≤ x → Q (some (.int (nI 0))) ((mm_fl b0 b1 b2, n1, n2, p, q, ad), I, J)) ∧ (¬ y ≤ x → Q (some (.int (nI 1))) ((mm_fl b0 b1 b2, n1, n2, p, q, ad), I, J)))) := by
  rw [h.told, bI_0]
  refine ⟨fun e => k0 (fun z => by rw [e] at z; cases z.1), fun e => ?_⟩
  have ht : to = true := by simpa using e
  rw [hy ht]
  exact isy hn (fun c hc ec => k1 c ht hc ec) (fun hn' => k0 (fun z => hn' z.2))
theorem ct_153 {x : Int32} (h : CC T to K P tr f p q l I) (k1 : ∀ c, to = true → c < K 3 → x = nI c → Q (some (.int (nI 1))) ((mm_fl b0 b1 b2, n1, n2, p, q, ad), I, J)) (k0 : ¬ (to = true ∧ ix (K 3) x) → Q (some (.int (nI 0))) ((mm_fl b0 b1 b2, n1, n2, p, q, ad), I, J)) : mm_wc (d + 1) 153 [.ref 0, .int x] ((mm_fl b0 b1 b2, n1, n2, p, q, ad), I, J) Q := by
  by_cases ht : to = true
  · have := (h.ok ht).c
    exact fx_153 (cd_isx h (fun ht => (h.cake ht).2.1) (by omega) k1 k0)
  · exact fx_153 ⟨fun _ => k0 (fun z => ht z.1), fun e => absurd (by rw [h.told, bI_0]; simpa using ht) e⟩
theorem ct_154 {x : Int32} (h : CC T to K P tr f p q l I) (k1 : ∀ c, to = true → c < K 4 → x = nI c → Q (some (.int (nI 1))) ((mm_fl b0 b1 b2, n1, n2, p, q, ad), I, J)) (k0 : ¬ (to = true ∧ ix (K 4) x) → Q (some (.int (nI 0))) ((mm_fl b0 b1 b2, n1, n2, p, q, ad), I, J)) : mm_wc (d + 1) 154 [.ref 0, .int x] ((mm_fl b0 b1 b2, n1, n2, p, q, ad), I, J) Q := by
  by_cases ht : to = true
  · have := (h.ok ht).p
    exact fx_154 (cd_isx h (fun ht => (h.cake ht).2.2.1) (by omega) k1 k0)
  · exact fx_154 ⟨fun _ => k0 (fun z => ht z.1), fun e => absurd (by rw [h.told, bI_0]; simpa using ht) e⟩
theorem ct_155 {x : Int32} (h : CC T to K P tr f p q l I) (k1 : ∀ c, to = true → c < K 6 → x = nI c → Q (some (.int (nI 1))) ((mm_fl b0 b1 b2, n1, n2, p, q, ad), I, J)) (k0 : ¬ (to = true ∧ ix (K 6) x) → Q (some (.int (nI 0))) ((mm_fl b0 b1 b2, n1, n2, p, q, ad), I, J)) : mm_wc (d + 1) 155 [.ref 0, .int x] ((mm_fl b0 b1 b2, n1, n2, p, q, ad), I, J) Q := by
  by_cases ht : to = true
  · have := (h.ok ht).h
    exact fx_155 (cd_isx h (fun ht => (h.cake ht).2.2.2.2.1) (by omega) k1 k0)
  · exact fx_155 ⟨fun _ => k0 (fun z => ht z.1), fun e => absurd (by rw [h.told, bI_0]; simpa using ht) e⟩
theorem ct_156 {x : Int32} (h : CC T to K P tr f p q l I) (k1 : ∀ c, to = true → c < nB K → x = nI c → Q (some (.int (nI 1))) ((mm_fl b0 b1 b2, n1, n2, p, q, ad), I, J)) (k0 : ¬ (to = true ∧ ix (nB K) x) → Q (some (.int (nI 0))) ((mm_fl b0 b1 b2, n1, n2, p, q, ad), I, J)) : mm_wc (d + 1) 156 [.ref 0, .int x] ((mm_fl b0 b1 b2, n1, n2, p, q, ad), I, J) Q := by
  by_cases ht : to = true
  · have := nB_le (h.ok ht)
    exact fx_156 (cd_isx h (fun ht => (h.bd ht).2.1) (by omega) k1 k0)
  · exact fx_156 ⟨fun _ => k0 (fun z => ht z.1), fun e => absurd (by rw [h.told, bI_0]; simpa using ht) e⟩
theorem cd_113 (h : CC T to K P tr f p q l I) (k : Q (some (.int (nI f.1))) ((mm_fl b0 b1 b2, n1, n2, p, q, ad), I, J)) : mm_wc (d + 1) 113 [.ref 0] ((mm_fl b0 b1 b2, n1, n2, p, q, ad), I, J) Q := by
  refine fx_113 ?_
  rw [h.2.2.2.1]; exact k
theorem cd_114 (h : CC T to K P tr f p q l I) (k : Q (some (.int (if tr = 4 then nI f.2 else -1))) ((mm_fl b0 b1 b2, n1, n2, p, q, ad), I, J)) : mm_wc (d + 1) 114 [.ref 0] ((mm_fl b0 b1 b2, n1, n2, p, q, ad), I, J) Q := by
  refine fx_114 ?_
  have htr := h.1.2.2.2.2.2.2.1
  rw [h.2.2.1, z_eq (by omega) (by decide)]
  refine ⟨fun e => by rw [if_neg e] at k; exact k, fun e => ?_⟩
  rw [if_pos e] at k
  rw [h.2.2.2.2.1 e]; exact k
theorem cd_151 (h : CC T to K P tr f p q l I) (k : Q (some (.int (nI tr))) ((mm_fl b0 b1 b2, n1, n2, p, q, ad), I, J)) : mm_wc (d + 1) 151 [.ref 0] ((mm_fl b0 b1 b2, n1, n2, p, q, ad), I, J) Q := by
  refine fx_151 ?_
  rw [h.2.2.1]; exact k
theorem cd_115 {x w : Int32} (h : CC T to K P tr f p q l I) (k : ∀ I' v t, fr trS I I' → CC T to K P t f p q l I' → rf (to = true ∧ ix (K 3) x ∧ ix 3 w) (va_candle K x w) v t → Q (some (.int v)) ((mm_fl b0 b1 b2, n1, n2, p, q, ad), I', J)) : mm_wc (d + 2) 115 [.ref 0, .int x, .int w] ((mm_fl b0 b1 b2, n1, n2, p, q, ad), I, J) Q := by
  have no : ¬ (to = true ∧ ix (K 3) x ∧ ix 3 w) → mm_wc (d + 1) 159 [.ref 0, .int (nI 1)] ((mm_fl b0 b1 b2, 0, 0, p, q, ad), I, J) (fun v τ => ∃ r3 I3 J3, v = some (.int r3) ∧ τ = ((mm_fl b0 b1 b2, 0, 0, p, q, ad), I3, J3) ∧ Q (some (.int r3)) ((mm_fl b0 b1 b2, n1, n2, p, q, ad), I3, J3)) := fun hn => ct_159 h (by decide) (by decide) (fun I' f' h' => ⟨_, _, _, rfl, rfl, k I' _ _ f' h' (.inr ⟨hn, rfl, rfl⟩)⟩)
  refine fx_115 (ct_153 h (fun c ht hc ec => ⟨_, _, _, rfl, rfl, fun z => absurd z n10, fun _ => ?_⟩) (fun hn => ⟨_, _, _, rfl, rfl, fun _ => no (fun z => hn ⟨z.1, z.2.1⟩), fun z => absurd rfl z⟩))
  have ok := h.ok ht
  have h3 := ok.c
  obtain ⟨-, -, -, -, -, -, -, -, -, hx, hy, hk, -⟩ := h.cake ht
  have yes : ∀ j v, j < 3 → w = nI j → v = nI (K (13 + 11 * j + c)) → mm_wc (d + 1) 160 [.ref 0, .int v] ((mm_fl b0 b1 b2, 0, 0, p, q, ad), I, J) (fun v τ => ∃ r3 I3 J3, v = some (.int r3) ∧ τ = ((mm_fl b0 b1 b2, 0, 0, p, q, ad), I3, J3) ∧ Q (some (.int r3)) ((mm_fl b0 b1 b2, n1, n2, p, q, ad), I3, J3)) := fun j v hj ej hv => ct_160 h (fun I' f' h' => ⟨_, _, _, rfl, rfl, k I' _ _ f' h' (.inl ⟨⟨ht, ⟨c, hc, ec⟩, ⟨j, hj, ej⟩⟩, ⟨c, j, hc, ec, hj, ej, hv⟩, rfl⟩)⟩)
  have hv : vp_in x 10 := by rw [ec]; exact z_in (by omega) (by decide)
  rcases z_ca w with z | ⟨a, ha, ew⟩
  · exact ⟨fun _ => no (fun y => by obtain ⟨-, -, j, hj, ej⟩ := y; rw [ej, z_lt (by omega) (by decide)] at z; omega), fun e => absurd z e⟩
  · have ew' := ew
    rw [ew, z_lt ha (by decide), z_le ha (by decide), z_eq ha (by decide), z_eq ha (by decide)]
    refine ⟨fun e => absurd e (by omega), fun _ => ⟨fun e => ⟨fun e0 => ⟨fun e1 => ⟨hv, yes 2 _ (by decide) (by rw [ew]; congr 1; omega) ?_⟩, fun e1 => ⟨hv, yes 1 _ (by decide) (by rw [ew, e1]) ?_⟩⟩, fun e0 => ⟨hv, yes 0 _ (by decide) (by rw [ew, e0]) ?_⟩⟩, fun e => no (fun y => ?_)⟩⟩
    · rw [ec, z_ix (by omega), hk c hc]
    · rw [ec, z_ix (by omega), hy c hc]
    · rw [ec, z_ix (by omega), hx c hc]
    · obtain ⟨-, -, j, hj, ej⟩ := y
      rw [ew, z_eq ha (by omega)] at ej; omega
theorem cd_116 {x : Int32} (h : CC T to K P tr f p q l I) (k : ∀ I' v t, fr trS I I' → CC T to K P t f p q l I' → rf (to = true ∧ ix (nB K) x) (va_fan K x) v t → Q (some (.int v)) ((mm_fl b0 b1 b2, n1, n2, p, q, ad), I', J)) : mm_wc (d + 2) 116 [.ref 0, .int x] ((mm_fl b0 b1 b2, n1, n2, p, q, ad), I, J) Q := by
  refine fx_116 (ct_156 h (fun c ht hc ec => ⟨_, _, _, rfl, rfl, fun z => absurd z n10, fun _ => ?_⟩) (fun hn => ⟨_, _, _, rfl, rfl, fun _ => ct_159 h (by decide) (by decide) (fun I' f' h' => ⟨_, _, _, rfl, rfl, k I' _ _ f' h' (.inr ⟨hn, rfl, rfl⟩)⟩), fun z => absurd rfl z⟩))
  have hB := nB_le (h.ok ht)
  rw [ec, z_ix (by omega), (h.bd ht).2.2.1 c hc]
  exact ⟨z_in (by omega) (by decide), ct_160 h (fun I' f' h' => ⟨_, _, _, rfl, rfl, k I' _ _ f' h' (.inl ⟨⟨ht, c, hc, ec⟩, ⟨c, hc, ec, rfl⟩, rfl⟩)⟩)⟩
end CCs
