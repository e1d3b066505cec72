/-! odds: the class's calls -/
section PD
variable {d n1 n2 s1 s2 : Nat} {b0 b1 b2 p q : Bool} {ad : Nat → Nat} {J : mmJ} {Q : mmQ} {K : Nat → Nat} {I : mmI} {T : zT} {to : Bool} {P : zP} {tr l : Nat} {f : zF} {ch : Nat} {fs : Nat → Nat}
theorem ct_46 {j : Nat} (h1 : 1 ≤ j) (h3 : j ≤ 3) : oOf 46 (chA K) lk3 K ch fs (d + 9) j := by
  intro n1 n2 b0 b2 p q ad I J Q m h hk hm k
  have : j = 1 ∨ j = 2 ∨ j = 3 := by omega
  rcases this with rfl | rfl | rfl
  · exact ct_46_1 (d := d + 5) (ct_46_0 (d := d + 4)) h hk hm (fun I' f' k' => k I' (f'.sub rfl) k')
  · exact ct_46_2 (d := d + 5) (ct_46_1 (d := d + 3) (ct_46_0 (d := d + 2))) h hk hm (fun I' f' k' => k I' (f'.sub rfl) k')
  · exact ct_46_3 (d := d + 5) (ct_46_2 (d := d + 3) (ct_46_1 (d := d + 1) (ct_46_0 (d := d)))) h hk hm k
theorem ct_48 {j : Nat} (h1 : 1 ≤ j) (h3 : j ≤ 3) : oOf 48 (ctA K) lm3 K ch fs (d + 9) j := by
  intro n1 n2 b0 b2 p q ad I J Q m h hk hm k
  have : j = 1 ∨ j = 2 ∨ j = 3 := by omega
  rcases this with rfl | rfl | rfl
  · exact ct_48_1 (d := d + 5) (ct_48_0 (d := d + 4)) h hk hm (fun I' f' k' => k I' (f'.sub rfl) k')
  · exact ct_48_2 (d := d + 5) (ct_48_1 (d := d + 3) (ct_48_0 (d := d + 2))) h hk hm (fun I' f' k' => k I' (f'.sub rfl) k')
  · exact ct_48_3 (d := d + 5) (ct_48_2 (d := d + 3) (ct_48_1 (d := d + 1) (ct_48_0 (d := d)))) h hk hm k
theorem lp_164 : ∀ r i a b, r + i = 100 → a < 2 ^ 31 → b < 2 ^ 31 → Q (some (.long (lN (eu r a b)))) ((mm_fl b0 b1 b2, n1, n2, p, q, ad), I, J) → mm_w Q (mm_wc d) bk_164 9 [none, none, none, none, some (.long (lN a)), none, some (.long (lN b)), none, some (.int (nI i)), none, none] [] ((mm_fl b0 b1 b2, n1, n2, p, q, ad), I, J) := by
  intro r
  induction r with
  | zero =>
    intro i a b hi ha hb k
    refine fx_164_9 ?_
    rw [z_le (by decide) (by omega)]
    exact ⟨fun _ => k, fun e => absurd (by omega) e⟩
  | succ r ih =>
    intro i a b hi ha hb k
    refine fx_164_9 ?_
    rw [z_le (by decide) (by omega), lg4 hb (by decide)]
    rw [eu] at k
    refine ⟨fun e => by omega, fun _ => ⟨fun e => ?_, fun e => ⟨lN_0 hb e, ?_⟩⟩⟩
    · rw [if_pos e] at k; exact k
    · rw [if_neg e] at k
      have hr := Nat.mod_lt a (Nat.pos_of_ne_zero e)
      rw [pk_lRem (by omega) (Nat.pos_of_ne_zero e) (by omega), z_add]
      exact ih (i + 1) b (a % b) (by omega) hb (by omega) k
theorem ct_163 {a w : Nat} {lo : Bool} (ha : a < 2 ^ 31) (hw : 1 ≤ w) (hw2 : w < 2 ^ 15) (k : Q (some (.long (lN (lowT a w lo)))) ((mm_fl b0 b1 b2, n1, n2, p, q, ad), mm_up I 0 7 (nI 0), J)) : mm_wc (d + 2) 163 [.ref 0, .long (lN a), .long (lN w), .int (bI lo)] ((mm_fl b0 b1 b2, n1, n2, p, q, ad), I, J) Q := by
  refine fx_163 (fx_164 (lp_164 100 0 a w rfl ha (by omega) ⟨_, _, _, rfl, rfl, ?_⟩))
  rw [eu_gcd 15 100 a w hw2 (by decide)]
  obtain ⟨g1, g2, g3⟩ := low_ld (lo := lo) (a := a) (w := w) ha hw (by omega)
  have h1 : 0 < Nat.gcd a w := Nat.gcd_pos_of_pos_right a (by omega)
  have h2 : Nat.gcd a w ≤ w := Nat.gcd_le_right a (by omega)
  rw [lg4 (by omega) (by decide), bI_0]
  refine ⟨fun _ => ⟨fun e => ⟨g1, ?_⟩, fun e => ⟨g1, ?_⟩⟩, fun e => by omega⟩
  · rw [g2]; subst e; exact k
  · have e : lo = true := by simpa using e
    rw [g3]; subst e; exact k
theorem ct_157 {x : Int32} {n : Nat} (hn : n < 2 ^ 31) (h : CC T to K P tr f p q l I) (k0 : ∀ j, to = true → 1 ≤ j → j ≤ n → x = nI j → Q (some (.int (nI 0))) ((mm_fl b0 b1 b2, n1, n2, p, q, ad), I, J)) (k2 : ∀ I', to = true → ¬ (∃ j, 1 ≤ j ∧ j ≤ n ∧ x = nI j) → fr trS I I' → CC T to K P 2 f p q l I' → Q (some (.int (nI 1))) ((mm_fl b0 b1 b2, n1, n2, p, q, ad), I', J)) (k1 : ∀ I', to = false → fr trS I I' → CC T to K P 1 f p q l I' → Q (some (.int (nI 1))) ((mm_fl b0 b1 b2, n1, n2, p, q, ad), I', J)) : mm_wc (d + 1) 157 [.ref 0, .int x, .int (nI n)] ((mm_fl b0 b1 b2, n1, n2, p, q, ad), I, J) Q := by
  refine fx_157 ?_
  rw [h.told, bI_0]
  refine ⟨fun e => ?_, fun e => k1 _ e (fr.rf.up rfl) (h.trb (w := 1) (by decide) (by decide))⟩
  have ht : to = true := by simpa using e
  have no : ¬ (¬ x < nI 1 ∧ ¬ nI n < x) → Q (some (.int (nI 1))) ((mm_fl b0 b1 b2, n1, n2, p, q, ad), mm_up I 0 7 (nI 2), J) := fun z => k2 _ ht (by rw [← wi1 hn]; exact z) (fr.rf.up rfl) (h.trb (w := 2) (by decide) (by decide))
  refine ⟨fun e1 => no (fun z => z.1 e1), fun e1 => ⟨fun e2 => ?_, fun e2 => no (fun z => e2 ?_)⟩⟩
  · obtain ⟨j, j1, j2, j3⟩ := (wi1 hn).mp ⟨e1, fun z => by rw [Int32.lt_iff_toInt_lt] at z; rw [Int32.le_iff_toInt_le] at e2; omega⟩
    exact k0 j ht j1 j2 j3
  · have := z.2
    rw [Int32.lt_iff_toInt_lt] at this
    rw [Int32.le_iff_toInt_le]; omega
theorem zr_frO {I : mmI} : fr odA I (mm_zr 81 96 I) := by
  intro r k h
  show (if 81 ≤ r ∧ r < 96 then (fun _ => (0 : Int32)) else I r) k = I r k
  rw [if_neg]
  rintro ⟨h1, h2⟩
  have : r = 81 ∨ r = 82 ∨ r = 83 ∨ r = 84 ∨ r = 85 ∨ r = 86 ∨ r = 87 ∨ r = 88 ∨ r = 89 ∨ r = 90 ∨ r = 91 ∨ r = 92 ∨ r = 93 ∨ r = 94 ∨ r = 95 := by omega
  rcases this with e | e | e | e | e | e | e | e | e | e | e | e | e | e | e <;> subst e <;> exact absurd h (by simp [inS, odA])
theorem zr_od {I : mmI} (h : to = true → 1 ≤ l) (hl : l < 2 ^ 30) : ODi to K l (mm_zr 81 96 I) := by
  have z : ∀ r k, 81 ≤ r → r < 96 → mm_zr 81 96 I r k = nI 0 := fun r k h1 h2 => by
    show (if 81 ≤ r ∧ r < 96 then (fun _ => (0 : Int32)) else I r) k = nI 0
    rw [if_pos ⟨h1, h2⟩]; rfl
  refine ⟨⟨0, z 81 1 (by decide) (by decide), Nat.zero_le _⟩, fun ht e => ?_⟩
  rw [z 81 1 (by decide) (by decide)] at e
  have := h ht
  exact absurd ((z_eq (by decide) (by omega)).mp e) (by omega)
theorem fl_1 (b0 b2 : Bool) : (fun j => if j = 1 then true else mm_fl b0 false b2 j) = mm_fl b0 true b2 := by
  funext j
  match j with
  | 0 => rfl
  | 1 => rfl
  | 2 => rfl
  | n + 3 => rfl
theorem CC_od {tr' : Nat} {I' : mmI} (h : CC T to K P tr f p q l I) (hf : fr odA I I') (h5 : I' 0 7 = nI tr') (h6 : tr' ≤ 6) (h7 : tr' = 4 → tr = 4) : CC T to K P tr' f p q l I' :=
  CC_tr h hf ⟨rfl, rfl, rfl⟩ rfl ⟨rfl, rfl, rfl, rfl, rfl⟩ rfl rfl h5 h6 h7
theorem CC_of {L : List (Nat × List Nat)} {I' : mmI} (h : CC T to K P tr f p q l I) (hf : fr L I I') (h1 : subS L odA = true) (h2 : inS L 0 7 = false) : CC T to K P tr f p q l I' :=
  CC_od h (hf.sub h1) (by rw [hf 0 7 h2]; exact h.2.2.1) h.1.2.2.2.2.2.2.1 id
theorem CC.l6 (h : CC T to K P tr f p q l I) : I 6 1 = nI l := h.2.2.2.2.2.2.2.2.2.2.2.2.2.2.2.1
theorem ct_1011 (h : CC T to K P tr f p q l I) (hs : b1 = true → ODi to K l I) (hl : l < 2 ^ 30) (k : ∀ ad' I', fr odA I I' → ODi to K l I' → CC T to K P tr f p q l I' → Q (some (.ref 81)) ((mm_fl b0 true b2, 0, 0, p, q, ad'), I', J)) : mm_wc (d + 1) 1011 [.ref 0] ((mm_fl b0 b1 b2, owe 15 b1, owe 35028 b1, p, q, ad), I, J) Q := by
  show mm_lz 1 81 15 35028 81 96 ((mm_fl b0 b1 b2, owe 15 b1, owe 35028 b1, p, q, ad), I, J) Q
  cases b1 with
  | true => exact k ad I fr.rf (hs rfl) h
  | false =>
    refine ⟨Nat.le_refl _, Nat.le_refl _, fun ad' _ => ?_⟩
    have := k ad' (mm_zr 81 96 I) zr_frO (zr_od h.2.2.2.2.2.2.2.2.2.2.2.2.2.2.2.2.1 hl) (CC_od h zr_frO (by rw [show mm_zr 81 96 I 0 7 = I 0 7 from rfl]; exact h.2.2.1) h.1.2.2.2.2.2.2.1 id)
    show Q (some (.ref 81)) (((fun j => if j = 1 then true else mm_fl b0 false b2 j), owe 15 false - 15, owe 35028 false - 35028, p, q, ad'), mm_zr 81 96 I, J)
    rw [fl_1, show owe 15 false - 15 = 0 by simp [owe], show owe 35028 false - 35028 = 0 by simp [owe]]
    exact this
theorem od_tr {I' : mmI} (h : ODi to K l I) (hf : fr trS I I') : ODi to K l I' := h.of (fun r k h1 h2 => hf r k (inS_no (lo := 81) (hi := 96) rfl h1 h2)) (fun k => hf 8 k rfl)
theorem ct_39 (h : CC T to K P tr f p q l I) (ht : to = true) (hs : ODi to K l I) {j m : Nat} (h1 : 1 ≤ j) (h3 : j ≤ 3) (hm : vm K False m) (k : ∀ I' ch fs, fr odP I I' → oB K ch fs I' → oKp K I' → Q (some (.int (nI (chA K j m)))) ((mm_fl b0 true b2, n1, n2, p, q, ad), I', J)) : mm_wc (d + 10) 39 [.ref 81, .int (nI m), .int (nI j)] ((mm_fl b0 true b2, n1, n2, p, q, ad), I, J) Q := by
  refine fx_39 (ct_42 ht (h.bd ht) (h.cake ht) h.ms h.l6 hs (fun I1 ch fs f1 o1 k1 => ⟨_, _, rfl, rfl, ?_⟩))
  exact ct_46 (d := d) h1 h3 o1 k1 hm (fun I2 f2 k2 => ⟨_, _, _, rfl, rfl, k I2 ch fs (f1.tr (f2.sub rfl)) (o1.fr (f2.sub rfl)) k2⟩)
theorem cd_141 {x : Int32} {lo : Bool} (h : CC T to K P tr f p q l I) (hs : b1 = true → ODi to K l I) (hl : l < 2 ^ 30) (k : ∀ c1 ad' I' v t, fr odA I I' → CC T to K P t f p q l I' → (c1 = true → ODi to K l I') → ra_chance to K P x lo v t → Q (some (.long v)) ((mm_fl b0 c1 b2, s1 + owe 15 c1, s2 + owe 35028 c1, p, q, ad'), I', J)) : mm_wc (d + 11) 141 [.ref 0, .int x, .int (bI lo)] ((mm_fl b0 b1 b2, s1 + owe 15 b1, s2 + owe 35028 b1, p, q, ad), I, J) Q := by
  refine fx_141 (ct_157 (by decide) h (fun j ht j1 j3 ej => ⟨_, _, _, rfl, rfl, fun _ => ?_, fun z => absurd rfl z⟩) (fun I' ht hn f' h' => ⟨_, _, _, rfl, rfl, fun z => absurd z n10, fun _ => k b1 ad I' _ _ (f'.sub rfl) h' (fun e => od_tr (hs e) f') (.inr (.inl ⟨ht, hn, rfl, rfl⟩))⟩) (fun I' ht f' h' => ⟨_, _, _, rfl, rfl, fun z => absurd z n10, fun _ => k b1 ad I' _ _ (f'.sub rfl) h' (fun e => od_tr (hs e) f') (.inr (.inr ⟨ht, rfl, rfl⟩))⟩))
  refine ⟨owe 15 b1, owe 35028 b1, Nat.le_add_left _ _, Nat.le_add_left _ _, ct_1011 h hs hl (fun ad2 I2 f2 o2 h2 => ⟨_, _, ad2, I2, rfl, rfl, ?_⟩)⟩
  have ok := h2.ok ht
  have hwp := ws_pow ok (n := j) j3
  have hle := chA_le (K := K) j P.1
  rw [h2.now ht, ej]
  refine ct_39 h2 ht o2 j1 j3 (h2.vms ht).1 (fun I3 ch fs f3 o3 k3 => ⟨_, _, _, rfl, rfl, ?_⟩)
  have h3 := CC_of h2 f3 rfl rfl
  refine ⟨owe 15 true, owe 35028 true, Nat.zero_le _, Nat.zero_le _, ct_1011 h3 (fun _ => oB_od h3.l6 o3 k3) hl (fun ad4 I4 f4 o4 h4 => ⟨_, _, ad4, I4, rfl, rfl, ?_⟩)⟩
  refine fx_38 (ct_42 ht (h4.bd ht) (h4.cake ht) h4.ms h4.l6 o4 (fun I5 ch5 fs5 f5 o5 k5 => ⟨_, _, rfl, rfl, ct_281 o5.2.2.2.1 j3 ⟨_, _, _, rfl, rfl, ⟨_, _, _, rfl, rfl, ?_⟩⟩⟩))
  rw [nI_l (by omega), nI_l (by omega)]
  refine ct_163 (by omega) (by omega) (by omega) ⟨_, _, _, rfl, rfl, ?_⟩
  have h5 := CC_of h4 f5 rfl rfl
  have e1 : s1 + owe 15 b1 - owe 15 b1 - owe 15 true = s1 + owe 15 true := by rw [Nat.add_sub_cancel]; rfl
  have e2 : s2 + owe 35028 b1 - owe 35028 b1 - owe 35028 true = s2 + owe 35028 true := by rw [Nat.add_sub_cancel]; rfl
  rw [e1, e2]
  exact k true ad4 _ _ 0 ((((f2.tr (f3.sub rfl)).tr f4).tr (f5.sub rfl)).up rfl) (h5.trb (w := 0) (by decide) (by decide)) (fun _ => od_tr (oB_od h5.l6 o5 k5) (fr.rf.up rfl)) (.inl ⟨ht, trivial, ⟨j, j1, j3, ej, rfl⟩, rfl⟩)
theorem ct_40 (h : CC T to K P tr f p q l I) (ht : to = true) (hs : ODi to K l I) {j m : Nat} (h1 : 1 ≤ j) (h3 : j ≤ 3) (hm : vm K False m) (k : ∀ I' ch fs, fr odP I I' → oB K ch fs I' → oKp K I' → Q (some (.int (nI (ctA K j m)))) ((mm_fl b0 true b2, n1, n2, p, q, ad), I', J)) : mm_wc (d + 10) 40 [.ref 81, .int (nI m), .int (nI j)] ((mm_fl b0 true b2, n1, n2, p, q, ad), I, J) Q := by
  refine fx_40 (ct_42 ht (h.bd ht) (h.cake ht) h.ms h.l6 hs (fun I1 ch fs f1 o1 k1 => ⟨_, _, rfl, rfl, ?_⟩))
  exact ct_48 (d := d) h1 h3 o1 k1 hm (fun I2 f2 k2 => ⟨_, _, _, rfl, rfl, k I2 ch fs (f1.tr (f2.sub rfl)) (o1.fr (f2.sub rfl)) k2⟩)
theorem cd_143 {x : Int32} {lo : Bool} (h : CC T to K P tr f p q l I) (hs : b1 = true → ODi to K l I) (hl : l < 2 ^ 30) (k : ∀ c1 ad' I' v t, fr odA I I' → CC T to K P t f p q l I' → (c1 = true → ODi to K l I') → ra_content to K P x lo v t → Q (some (.long v)) ((mm_fl b0 c1 b2, s1 + owe 15 c1, s2 + owe 35028 c1, p, q, ad'), I', J)) : mm_wc (d + 11) 143 [.ref 0, .int x, .int (bI lo)] ((mm_fl b0 b1 b2, s1 + owe 15 b1, s2 + owe 35028 b1, p, q, ad), I, J) Q := by
  refine fx_143 (ct_157 (by decide) h (fun j ht j1 j3 ej => ⟨_, _, _, rfl, rfl, fun _ => ?_, fun z => absurd rfl z⟩) (fun I' ht hn f' h' => ⟨_, _, _, rfl, rfl, fun z => absurd z n10, fun _ => k b1 ad I' _ _ (f'.sub rfl) h' (fun e => od_tr (hs e) f') (.inr (.inl ⟨ht, hn, rfl, rfl⟩))⟩) (fun I' ht f' h' => ⟨_, _, _, rfl, rfl, fun z => absurd z n10, fun _ => k b1 ad I' _ _ (f'.sub rfl) h' (fun e => od_tr (hs e) f') (.inr (.inr ⟨ht, rfl, rfl⟩))⟩))
  refine ⟨owe 15 b1, owe 35028 b1, Nat.le_add_left _ _, Nat.le_add_left _ _, ct_1011 h hs hl (fun ad2 I2 f2 o2 h2 => ⟨_, _, ad2, I2, rfl, rfl, ?_⟩)⟩
  have ok := h2.ok ht
  have hwp := ws_pow ok (n := j) j3
  have hle := ctA_le (K := K) j P.1
  rw [h2.now ht, ej]
  refine ct_40 h2 ht o2 j1 j3 (h2.vms ht).1 (fun I3 ch fs f3 o3 k3 => ⟨_, _, _, rfl, rfl, ?_⟩)
  have h3 := CC_of h2 f3 rfl rfl
  refine ⟨owe 15 true, owe 35028 true, Nat.zero_le _, Nat.zero_le _, ct_1011 h3 (fun _ => oB_od h3.l6 o3 k3) hl (fun ad4 I4 f4 o4 h4 => ⟨_, _, ad4, I4, rfl, rfl, ?_⟩)⟩
  refine fx_38 (ct_42 ht (h4.bd ht) (h4.cake ht) h4.ms h4.l6 o4 (fun I5 ch5 fs5 f5 o5 k5 => ⟨_, _, rfl, rfl, ct_281 o5.2.2.2.1 j3 ⟨_, _, _, rfl, rfl, ⟨_, _, _, rfl, rfl, ?_⟩⟩⟩))
  rw [nI_l (by omega), nI_l (by omega)]
  refine ct_163 (by omega) (by omega) (by omega) ⟨_, _, _, rfl, rfl, ?_⟩
  have h5 := CC_of h4 f5 rfl rfl
  have e1 : s1 + owe 15 b1 - owe 15 b1 - owe 15 true = s1 + owe 15 true := by rw [Nat.add_sub_cancel]; rfl
  have e2 : s2 + owe 35028 b1 - owe 35028 b1 - owe 35028 true = s2 + owe 35028 true := by rw [Nat.add_sub_cancel]; rfl
  rw [e1, e2]
  exact k true ad4 _ _ 0 ((((f2.tr (f3.sub rfl)).tr f4).tr (f5.sub rfl)).up rfl) (h5.trb (w := 0) (by decide) (by decide)) (fun _ => od_tr (oB_od h5.l6 o5 k5) (fr.rf.up rfl)) (.inl ⟨ht, trivial, ⟨j, j1, j3, ej, rfl⟩, rfl⟩)
theorem ct_41_1 (h : CC T to K P tr f p q l I) (ht : to = true) (hs : ODi to K l I) {m : Nat} (hm : vm K False m) (h0 : m / 8 ≠ 0) (k : ∀ I' ch fs b, fr odP I I' → oB K ch fs I' → oKp K I' → isFm (byA K 0 m) (nB K) b → Q (some (.int (nI b))) ((mm_fl b0 true b2, n1, n2, p, q, ad), I', J)) : mm_wc (d + 11) 41 [.ref 81, .int (nI m), .int (nI 1)] ((mm_fl b0 true b2, n1, n2, p, q, ad), I, J) Q := by
  have ok := h.ok ht
  have hB := nB_le ok
  have hBp := nB_pos ok
  have hwp := ws_pow ok (n := 1) (by decide)
  have hle := chA_le (K := K) 1 m
  have hby : ∀ b, b < nB K → byA K 0 m b ≤ 19683 := fun b hb => Nat.le_trans (smk_le hb (fun c _ => chA_le 0 _)) (by rw [Nat.mul_comm, ← Nat.pow_succ]; exact hwp.2)
  have e1 : chA K 1 m = mxB (byA K 0 m) (nB K) := by rw [chA, if_neg h0]; rfl
  refine fx_41 (ct_39 h ht hs (by decide) (by decide) hm (fun I1 ch fs f1 o1 k1 => ⟨_, _, _, rfl, rfl, ?_⟩))
  obtain ⟨u, un, uo, hu⟩ := o1.1.2.2.2.1
  refine ct_47_1 (d := d + 7) (ct_46_0 (d := d + 6)) o1 k1 hm hu (fun I2 f2 k2 hr => ⟨_, _, rfl, rfl, ?_⟩)
  have o2 := o1.fr (f2.sub rfl)
  have hu2 := uni_od hu f2 rfl
  obtain ⟨c0, c1, c2, c3, c4⟩ := id o2.2.2.2.2
  have hch : ch ≤ nB K := c1
  have same : ∀ b, b < nB K → ∃ i, i < ch ∧ fs i ≤ b ∧ byA K 0 m b = byA K 0 m (fs i) := fun b hb => by
    obtain ⟨i, i1, i2, i3⟩ := c4 b hb
    exact ⟨i, i1, i2, smk_cb (fun k hk hw => by rw [zst_cg (i3 k hk hw).symm])⟩
  have ex : ∃ i, i < ch ∧ byA K 0 m (fs i) = chA K 1 m := by
    rw [e1, ← ch_mx o2.2.2.2.2]
    rcases mxB_at (f := fun i => byA K 0 m (fs i)) (n := ch) with z | ⟨i, hi, z⟩
    · obtain ⟨i, hi, -⟩ := c4 0 (by omega)
      refine ⟨i, hi, ?_⟩
      have := mxB_ge (f := fun i => byA K 0 m (fs i)) hi
      omega
    · exact ⟨i, hi, z⟩
  have lp : ∀ x i, x + i = ch → (∀ i', i' < i → byA K 0 m (fs i') ≠ chA K 1 m) → mm_w Q (mm_wc (d + 10)) bk_41 16 [some (.ref 81), none, some (.int (nI 1)), some (.int (nI (chA K 1 m))), some (.int (nI i))] [] ((mm_fl b0 true b2, n1, n2, p, q, ad), I2, J) := by
    intro x
    induction x with
    | zero =>
      intro i hi hn
      obtain ⟨i', h1, h2⟩ := ex
      exact absurd h2 (hn i' (by omega))
    | succ x ih =>
      intro i hi hn
      have hfi := (c2 i (by omega)).1
      have hb := hby (fs i) hfi
      refine fx_41_16 ?_
      rw [c0, z_le (by omega) (by omega)]
      refine ⟨fun e => by omega, fun _ => ct_45_1 o2 hu2 hr (by omega) ⟨_, _, _, rfl, rfl, ?_⟩⟩
      show (¬ nI (byA K 0 m (fs i)) = _ → _) ∧ (nI (byA K 0 m (fs i)) = _ → _)
      rw [z_eq (by omega) (by omega), z_add, z_ix (by omega), (c2 i (by omega)).2.1]
      refine ⟨fun e => ih (i + 1) (by omega) (fun i' hi' => ?_), fun e => ⟨z_in (by omega) (by decide), k I2 ch fs (fs i) (f1.tr (f2.sub rfl)) o2 k2 ⟨hfi, fun c hc => ?_, fun c hc => ?_⟩⟩⟩
      · by_cases z : i' = i
        · subst z; exact e
        · exact hn i' (by omega)
      · rw [e, e1]; exact mxB_ge hc
      · have hcb : c < nB K := by omega
        have hle2 : byA K 0 m c ≤ mxB (byA K 0 m) (nB K) := mxB_ge hcb
        obtain ⟨i', i1, i2, i3⟩ := same c hcb
        have hlt : i' < i := by
          rcases Nat.lt_or_ge i' i with z | z
          · exact z
          · rcases Nat.eq_or_lt_of_le z with y | y
            · rw [← y] at i2; omega
            · have := c3 i i' y i1; omega
        have hne := hn i' hlt
        rw [← i3] at hne
        omega
  exact lp ch 0 (by omega) (fun i' hi' => absurd hi' (Nat.not_lt_zero i'))
theorem ct_41_2 (h : CC T to K P tr f p q l I) (ht : to = true) (hs : ODi to K l I) {m : Nat} (hm : vm K False m) (h0 : m / 8 ≠ 0) (k : ∀ I' ch fs b, fr odP I I' → oB K ch fs I' → oKp K I' → isFm (byA K 1 m) (nB K) b → Q (some (.int (nI b))) ((mm_fl b0 true b2, n1, n2, p, q, ad), I', J)) : mm_wc (d + 11) 41 [.ref 81, .int (nI m), .int (nI 2)] ((mm_fl b0 true b2, n1, n2, p, q, ad), I, J) Q := by
  have ok := h.ok ht
  have hB := nB_le ok
  have hBp := nB_pos ok
  have hwp := ws_pow ok (n := 2) (by decide)
  have hle := chA_le (K := K) 2 m
  have hby : ∀ b, b < nB K → byA K 1 m b ≤ 19683 := fun b hb => Nat.le_trans (smk_le hb (fun c _ => chA_le 1 _)) (by rw [Nat.mul_comm, ← Nat.pow_succ]; exact hwp.2)
  have e1 : chA K 2 m = mxB (byA K 1 m) (nB K) := by rw [chA, if_neg h0]; rfl
  refine fx_41 (ct_39 h ht hs (by decide) (by decide) hm (fun I1 ch fs f1 o1 k1 => ⟨_, _, _, rfl, rfl, ?_⟩))
  obtain ⟨u, un, uo, hu⟩ := o1.1.2.2.2.1
  refine ct_47_2 (d := d + 7) (ct_46_1 (d := d + 5) (ct_46_0 (d := d + 4))) o1 k1 hm hu (fun I2 f2 k2 hr => ⟨_, _, rfl, rfl, ?_⟩)
  have o2 := o1.fr (f2.sub rfl)
  have hu2 := uni_od hu f2 rfl
  obtain ⟨c0, c1, c2, c3, c4⟩ := id o2.2.2.2.2
  have hch : ch ≤ nB K := c1
  have same : ∀ b, b < nB K → ∃ i, i < ch ∧ fs i ≤ b ∧ byA K 1 m b = byA K 1 m (fs i) := fun b hb => by
    obtain ⟨i, i1, i2, i3⟩ := c4 b hb
    exact ⟨i, i1, i2, smk_cb (fun k hk hw => by rw [zst_cg (i3 k hk hw).symm])⟩
  have ex : ∃ i, i < ch ∧ byA K 1 m (fs i) = chA K 2 m := by
    rw [e1, ← ch_mx o2.2.2.2.2]
    rcases mxB_at (f := fun i => byA K 1 m (fs i)) (n := ch) with z | ⟨i, hi, z⟩
    · obtain ⟨i, hi, -⟩ := c4 0 (by omega)
      refine ⟨i, hi, ?_⟩
      have := mxB_ge (f := fun i => byA K 1 m (fs i)) hi
      omega
    · exact ⟨i, hi, z⟩
  have lp : ∀ x i, x + i = ch → (∀ i', i' < i → byA K 1 m (fs i') ≠ chA K 2 m) → mm_w Q (mm_wc (d + 10)) bk_41 16 [some (.ref 81), none, some (.int (nI 2)), some (.int (nI (chA K 2 m))), some (.int (nI i))] [] ((mm_fl b0 true b2, n1, n2, p, q, ad), I2, J) := by
    intro x
    induction x with
    | zero =>
      intro i hi hn
      obtain ⟨i', h1, h2⟩ := ex
      exact absurd h2 (hn i' (by omega))
    | succ x ih =>
      intro i hi hn
      have hfi := (c2 i (by omega)).1
      have hb := hby (fs i) hfi
      refine fx_41_16 ?_
      rw [c0, z_le (by omega) (by omega)]
      refine ⟨fun e => by omega, fun _ => ct_45_2 o2 hu2 hr (by omega) ⟨_, _, _, rfl, rfl, ?_⟩⟩
      show (¬ nI (byA K 1 m (fs i)) = _ → _) ∧ (nI (byA K 1 m (fs i)) = _ → _)
      rw [z_eq (by omega) (by omega), z_add, z_ix (by omega), (c2 i (by omega)).2.1]
      refine ⟨fun e => ih (i + 1) (by omega) (fun i' hi' => ?_), fun e => ⟨z_in (by omega) (by decide), k I2 ch fs (fs i) (f1.tr (f2.sub rfl)) o2 k2 ⟨hfi, fun c hc => ?_, fun c hc => ?_⟩⟩⟩
      · by_cases z : i' = i
        · subst z; exact e
        · exact hn i' (by omega)
      · rw [e, e1]; exact mxB_ge hc
      · have hcb : c < nB K := by omega
        have hle2 : byA K 1 m c ≤ mxB (byA K 1 m) (nB K) := mxB_ge hcb
        obtain ⟨i', i1, i2, i3⟩ := same c hcb
        have hlt : i' < i := by
          rcases Nat.lt_or_ge i' i with z | z
          · exact z
          · rcases Nat.eq_or_lt_of_le z with y | y
            · rw [← y] at i2; omega
            · have := c3 i i' y i1; omega
        have hne := hn i' hlt
        rw [← i3] at hne
        omega
  exact lp ch 0 (by omega) (fun i' hi' => absurd hi' (Nat.not_lt_zero i'))
theorem ct_41_3 (h : CC T to K P tr f p q l I) (ht : to = true) (hs : ODi to K l I) {m : Nat} (hm : vm K False m) (h0 : m / 8 ≠ 0) (k : ∀ I' ch fs b, fr odP I I' → oB K ch fs I' → oKp K I' → isFm (byA K 2 m) (nB K) b → Q (some (.int (nI b))) ((mm_fl b0 true b2, n1, n2, p, q, ad), I', J)) : mm_wc (d + 11) 41 [.ref 81, .int (nI m), .int (nI 3)] ((mm_fl b0 true b2, n1, n2, p, q, ad), I, J) Q := by
  have ok := h.ok ht
  have hB := nB_le ok
  have hBp := nB_pos ok
  have hwp := ws_pow ok (n := 3) (by decide)
  have hle := chA_le (K := K) 3 m
  have hby : ∀ b, b < nB K → byA K 2 m b ≤ 19683 := fun b hb => Nat.le_trans (smk_le hb (fun c _ => chA_le 2 _)) (by rw [Nat.mul_comm, ← Nat.pow_succ]; exact hwp.2)
  have e1 : chA K 3 m = mxB (byA K 2 m) (nB K) := by rw [chA, if_neg h0]; rfl
  refine fx_41 (ct_39 h ht hs (by decide) (by decide) hm (fun I1 ch fs f1 o1 k1 => ⟨_, _, _, rfl, rfl, ?_⟩))
  obtain ⟨u, un, uo, hu⟩ := o1.1.2.2.2.1
  refine ct_47_3 (d := d + 7) (ct_46_2 (d := d + 5) (ct_46_1 (d := d + 3) (ct_46_0 (d := d + 2)))) o1 k1 hm hu (fun I2 f2 k2 hr => ⟨_, _, rfl, rfl, ?_⟩)
  have o2 := o1.fr (f2.sub rfl)
  have hu2 := uni_od hu f2 rfl
  obtain ⟨c0, c1, c2, c3, c4⟩ := id o2.2.2.2.2
  have hch : ch ≤ nB K := c1
  have same : ∀ b, b < nB K → ∃ i, i < ch ∧ fs i ≤ b ∧ byA K 2 m b = byA K 2 m (fs i) := fun b hb => by
    obtain ⟨i, i1, i2, i3⟩ := c4 b hb
    exact ⟨i, i1, i2, smk_cb (fun k hk hw => by rw [zst_cg (i3 k hk hw).symm])⟩
  have ex : ∃ i, i < ch ∧ byA K 2 m (fs i) = chA K 3 m := by
    rw [e1, ← ch_mx o2.2.2.2.2]
    rcases mxB_at (f := fun i => byA K 2 m (fs i)) (n := ch) with z | ⟨i, hi, z⟩
    · obtain ⟨i, hi, -⟩ := c4 0 (by omega)
      refine ⟨i, hi, ?_⟩
      have := mxB_ge (f := fun i => byA K 2 m (fs i)) hi
      omega
    · exact ⟨i, hi, z⟩
  have lp : ∀ x i, x + i = ch → (∀ i', i' < i → byA K 2 m (fs i') ≠ chA K 3 m) → mm_w Q (mm_wc (d + 10)) bk_41 16 [some (.ref 81), none, some (.int (nI 3)), some (.int (nI (chA K 3 m))), some (.int (nI i))] [] ((mm_fl b0 true b2, n1, n2, p, q, ad), I2, J) := by
    intro x
    induction x with
    | zero =>
      intro i hi hn
      obtain ⟨i', h1, h2⟩ := ex
      exact absurd h2 (hn i' (by omega))
    | succ x ih =>
      intro i hi hn
      have hfi := (c2 i (by omega)).1
      have hb := hby (fs i) hfi
      refine fx_41_16 ?_
      rw [c0, z_le (by omega) (by omega)]
      refine ⟨fun e => by omega, fun _ => ct_45_3 o2 hu2 hr (by omega) ⟨_, _, _, rfl, rfl, ?_⟩⟩
      show (¬ nI (byA K 2 m (fs i)) = _ → _) ∧ (nI (byA K 2 m (fs i)) = _ → _)
      rw [z_eq (by omega) (by omega), z_add, z_ix (by omega), (c2 i (by omega)).2.1]
      refine ⟨fun e => ih (i + 1) (by omega) (fun i' hi' => ?_), fun e => ⟨z_in (by omega) (by decide), k I2 ch fs (fs i) (f1.tr (f2.sub rfl)) o2 k2 ⟨hfi, fun c hc => ?_, fun c hc => ?_⟩⟩⟩
      · by_cases z : i' = i
        · subst z; exact e
        · exact hn i' (by omega)
      · rw [e, e1]; exact mxB_ge hc
      · have hcb : c < nB K := by omega
        have hle2 : byA K 2 m c ≤ mxB (byA K 2 m) (nB K) := mxB_ge hcb
        obtain ⟨i', i1, i2, i3⟩ := same c hcb
        have hlt : i' < i := by
          rcases Nat.lt_or_ge i' i with z | z
          · exact z
          · rcases Nat.eq_or_lt_of_le z with y | y
            · rw [← y] at i2; omega
            · have := c3 i i' y i1; omega
        have hne := hn i' hlt
        rw [← i3] at hne
        omega
  exact lp ch 0 (by omega) (fun i' hi' => absurd hi' (Nat.not_lt_zero i'))
theorem ct_41 (h : CC T to K P tr f p q l I) (ht : to = true) (hs : ODi to K l I) {m j : Nat} (j1 : 1 ≤ j) (j3 : j ≤ 3) (hm : vm K False m) (h0 : m / 8 ≠ 0) (k : ∀ I' ch fs b, fr odP I I' → oB K ch fs I' → oKp K I' → isFm (byA K (j - 1) m) (nB K) b → Q (some (.int (nI b))) ((mm_fl b0 true b2, n1, n2, p, q, ad), I', J)) : mm_wc (d + 11) 41 [.ref 81, .int (nI m), .int (nI j)] ((mm_fl b0 true b2, n1, n2, p, q, ad), I, J) Q := by
  have : j = 1 ∨ j = 2 ∨ j = 3 := by omega
  rcases this with rfl | rfl | rfl
  · exact ct_41_1 h ht hs hm h0 k
  · exact ct_41_2 h ht hs hm h0 k
  · exact ct_41_3 h ht hs hm h0 k
theorem cd_142 {x : Int32} (h : CC T to K P tr f p q l I) (hs : b1 = true → ODi to K l I) (hl : l < 2 ^ 30) (k : ∀ c1 ad' I' v t, fr odA I I' → CC T to K P t f p q l I' → (c1 = true → ODi to K l I') → ra_best to K P x v t → Q (some (.int v)) ((mm_fl b0 c1 b2, s1 + owe 15 c1, s2 + owe 35028 c1, p, q, ad'), I', J)) : mm_wc (d + 12) 142 [.ref 0, .int x] ((mm_fl b0 b1 b2, s1 + owe 15 b1, s2 + owe 35028 b1, p, q, ad), I, J) Q := by
  refine fx_142 (ct_157 (by decide) h (fun j ht j1 j3 ej => ⟨_, _, _, rfl, rfl, fun _ => ?_, fun z => absurd rfl z⟩) (fun I' ht hn f' h' => ⟨_, _, _, rfl, rfl, fun z => absurd z n10, fun _ => k b1 ad I' _ _ (f'.sub rfl) h' (fun e => od_tr (hs e) f') (.inr (.inl ⟨ht, hn, rfl, rfl⟩))⟩) (fun I' ht f' h' => ⟨_, _, _, rfl, rfl, fun z => absurd z n10, fun _ => k b1 ad I' _ _ (f'.sub rfl) h' (fun e => od_tr (hs e) f') (.inr (.inr ⟨ht, rfl, rfl⟩))⟩))
  have ok := h.ok ht
  have hv := (h.vms ht).1
  have hl11 := hv.lt ok
  have hzc := zcnt_le (P.1 / 8)
  rw [h.now ht]
  refine ct_18 hl11 ⟨_, _, _, rfl, rfl, ?_⟩
  rw [z_eq (by omega) (by decide), zcnt_0 hl11]
  refine ⟨fun e0 => ?_, fun e0 => ct_160 h (fun I' f' h' => ⟨_, _, _, rfl, rfl, k b1 ad I' _ _ (f'.sub rfl) h' (fun e => od_tr (hs e) f') (.inl ⟨ht, trivial, ⟨j, j1, j3, ej, .inl ⟨e0, rfl⟩⟩, rfl⟩)⟩)⟩
  refine ⟨owe 15 b1, owe 35028 b1, Nat.le_add_left _ _, Nat.le_add_left _ _, ct_1011 h hs hl (fun ad2 I2 f2 o2 h2 => ⟨_, _, ad2, I2, rfl, rfl, ?_⟩)⟩
  rw [h2.now ht, ej]
  refine ct_41 h2 ht o2 j1 j3 hv e0 (fun I3 ch fs b f3 o3 k3 hb => ⟨_, _, _, rfl, rfl, ?_⟩)
  have h3 := CC_of h2 f3 rfl rfl
  refine ct_160 h3 (fun I' f' h' => ⟨_, _, _, rfl, rfl, ?_⟩)
  rw [Nat.add_sub_cancel, Nat.add_sub_cancel]
  exact k true ad2 I' _ _ ((f2.tr (f3.sub rfl)).tr (f'.sub rfl)) h' (fun _ => od_tr (oB_od h3.l6 o3 k3) f') (.inl ⟨ht, trivial, ⟨j, j1, j3, ej, .inr ⟨e0, b, hb, rfl⟩⟩, rfl⟩)
end PD
