/-! odds: the model's calls -/
theorem wi1 {x : Int32} {n : Nat} (hn : n < 2 ^ 31) : (¬ x < nI 1 ∧ ¬ nI n < x) ↔ ∃ j, 1 ≤ j ∧ j ≤ n ∧ x = nI j := by
  constructor
  · rintro ⟨h1, h2⟩
    rcases z_ca x with z | ⟨a, ha, rfl⟩
    · refine absurd ?_ h1
      rw [Int32.lt_iff_toInt_lt] at z ⊢
      have e0 : (nI 0).toInt = 0 := rfl
      have e1 : (nI 1).toInt = 1 := rfl
      omega
    · rw [z_lt ha (by decide)] at h1
      rw [z_lt hn ha] at h2
      exact ⟨a, by omega, by omega, rfl⟩
  · rintro ⟨j, h1, h2, rfl⟩
    rw [z_lt (by omega) (by decide), z_lt hn (by omega)]
    omega
section OC
variable {d n1 n2 : Nat} {fl : Nat → Bool} {p q : Bool} {ad : Nat → Nat} {J : mmJ} {Q : mmQ} {T : zT} {to : Bool} {K : Nat → Nat} {P : zP} {tr : Nat} {f : zF} {I : mmI}
theorem ct_260 : ∀ (b a : Nat), a < 2 ^ 31 → b < 2 ^ 31 → Q (some (.long (lN (Nat.gcd a b)))) ((fl, n1, n2, p, q, ad), I, J) → mm_w Q (mm_wc d) bk_260 6 [none, none, none, none, some (.long (lN a)), none, some (.long (lN b)), none, none, none] [] ((fl, n1, n2, p, q, ad), I, J) := by
  intro b
  induction b using Nat.strongRecOn with
  | _ b ih =>
    intro a ha hb c
    refine fx_260_6 ?_
    rw [lg4 hb (by decide)]
    refine ⟨fun e => ?_, fun e => ⟨lN_0 hb e, ?_⟩⟩
    · subst e
      rw [Nat.gcd_zero_right] at c; exact c
    · have hr := Nat.mod_lt a (Nat.pos_of_ne_zero e)
      rw [pk_lRem (by omega) (Nat.pos_of_ne_zero e) (by omega)]
      refine ih (a % b) hr b hb (by omega) ?_
      rw [Nat.gcd_comm a b, Nat.gcd_rec b a, Nat.gcd_comm] at c
      exact c
theorem ct_261 {x : Int32} {n : Nat} (hn : n < 2 ^ 31) (h : MI T to K P tr f I) (k0 : ∀ j, to = true → 1 ≤ j → j ≤ n → x = nI j → Q (some (.int (nI 0))) ((fl, n1, n2, p, q, ad), I, J)) (k2 : to = true → ¬ (∃ j, 1 ≤ j ∧ j ≤ n ∧ x = nI j) → Q (some (.int (nI 2))) ((fl, n1, n2, p, q, ad), I, J)) (k1 : to = false → Q (some (.int (nI 1))) ((fl, n1, n2, p, q, ad), I, J)) : mm_wc (d + 2) 261 [.ref 46, .int x, .int (nI n)] ((fl, n1, n2, p, q, ad), I, J) Q := by
  refine fx_261 ?_
  rw [h.told, bI_0]
  refine ⟨fun e => ct_169 ⟨_, _, _, rfl, rfl, ?_⟩, k1⟩
  have ht : to = true := by simpa using e
  rw [bI_0, decide_eq_false_iff_not, wi1 hn]
  refine ⟨fun e => k2 ht e, fun e => ?_⟩
  obtain ⟨j, h1, h2, h3⟩ := Classical.not_not.mp e
  exact k0 j ht h1 h2 h3
theorem ct_259 (h : MI T to K P tr f I) (ht : to = true) (k : ∀ I' J' R, frM I I' → MI T to K P tr f I' → mO I' R K → (∀ g, kJ K g J') → Q none ((fl, n1, n2, p, q, ad), I', J')) : mm_wc (d + 3) 259 [.ref 46] ((fl, n1, n2, p, q, ad), I, J) Q := by
  obtain ⟨ok, R, ag, mb⟩ := h.cake ht
  refine fx_259 (ct_224 mb.1 ⟨_, _, rfl, rfl, ?_⟩)
  have h2 := h.th27 (x := nI (2 ^ R 3 - 1 ||| 1024))
  have f2 : frM I (mm_up I 46 27 (nI (2 ^ R 3 - 1 ||| 1024))) := frM.rf.up (by decide) (by decide)
  have e27 : mm_up I 46 27 (nI (2 ^ R 3 - 1 ||| 1024)) 46 27 = nI (2 ^ R 3 - 1 ||| 1024) := up_s _ _ _ _
  have mb2 : mB (mm_up I 46 27 (nI (2 ^ R 3 - 1 ||| 1024))) R := mb.of (fun k _ => by rw [up_c (by decide)]) (fun k => by rw [up_c (by decide)]) (fun k => by rw [up_c (by decide)])
  generalize mm_up I 46 27 (nI (2 ^ R 3 - 1 ||| 1024)) = I2 at *
  have lp : ∀ r s, r + s = 16384 → ∀ J', (∀ i, i < s → J' 63 i = -1 ∧ J' 64 i = -1) → mm_w Q (mm_wc (d + 2)) bk_259 6 [some (.ref 46), some (.int (nI s))] [] ((fl, n1, n2, p, q, ad), I2, J') := by
    intro r
    induction r with
    | zero =>
      intro s hs J' hJ
      refine fx_259_6 ?_
      rw [z_le (by decide) (by omega)]
      refine ⟨fun _ => k I2 J' R f2 h2 ⟨⟨mb2.1, mb2.2.2, fun c _ => bset_lt _ _, e27, mb2.2.1, fun b _ => bset_lt _ _⟩, ag, ok⟩ (fun g m hm => ?_), fun e => absurd (by omega) e⟩
      have := hJ (std m) (by have := std_lt (hm.lt ok); omega)
      exact ⟨.inl this.1, .inl this.2⟩
    | succ r ih =>
      intro s hs J' hJ
      refine fx_259_6 ?_
      rw [z_le (by decide) (by omega), z_ix (by omega), z_add]
      refine ⟨fun e => by omega, fun _ => ⟨z_in (by omega) (by decide), z_in (by omega) (by decide), ih (s + 1) (by omega) _ (fun i hi => ?_)⟩⟩
      rw [upJ_eq, if_neg (by omega), upJ_eq, upJ_eq]
      by_cases e : i = s
      · rw [if_pos ⟨rfl, e⟩, if_pos ⟨rfl, e⟩]; exact ⟨rfl, rfl⟩
      · rw [if_neg (fun z => e z.2), if_neg (fun z => e z.2), upJ_eq, if_neg (by omega)]; exact hJ i (by omega)
  exact lp 16384 0 rfl J (fun i hi => absurd hi (Nat.not_lt_zero i))
/-- the stand that is now -/
theorem ct_235P {R : Nat → Nat} (h : MI T to K P tr f I) (ht : to = true) (hO : mO I R K) (k : Q (some (.int (nI (std P.1)))) ((fl, n1, n2, p, q, ad), I, J)) : mm_wc (d + 2) 235 [.ref 46, .int (I 46 17), .int (I 46 18)] ((fl, n1, n2, p, q, ad), I, J) Q := by
  obtain ⟨hW, ag, ok⟩ := hO
  have hv := (h.vms ht).1
  have e3 := ag 3 (by decide) (by decide) (by decide)
  have hz := lt_p11 ok (dzK_lt K P.1)
  rw [(h.mem ht).1, (h.mem ht).2.1]
  refine ct_235 hW.1 (by omega) ?_
  rw [ofK_ag ag ok 3, e3, or_mul (hv.lt ok)]
  have e : cde (ofK K 3) (dzK K P.1) (K 3) = P.1 % 8 := hv.2.1.symm
  rw [e]
  exact k
/-- how chance and content end -/
theorem low_ld {a w : Nat} {lo : Bool} (ha : a < 2 ^ 31) (hw : 1 ≤ w) (hw2 : w < 2 ^ 31) : ¬ lN (Nat.gcd a w) = 0 ∧ lN a / lN (Nat.gcd a w) = lN (lowT a w false) ∧ lN w / lN (Nat.gcd a w) = lN (lowT a w true) := by
  have h1 : 0 < Nat.gcd a w := Nat.gcd_pos_of_pos_right a (by omega)
  have h2 : Nat.gcd a w ≤ w := Nat.gcd_le_right a (by omega)
  exact ⟨lN_0 (by omega) (by omega), pk_lDiv (by omega) h1 (by omega), pk_lDiv (by omega) h1 (by omega)⟩
theorem md_262 {x : Int32} {lo : Bool} (h : MI T to K P tr f I) (k : ∀ I' J' v t, frM I I' → MI T to K P t f I' → ra_chance to K P x lo v t → Q (some (.long v)) ((fl, n1, n2, p, q, ad), I', J')) : mm_wc (d + 10) 262 [.ref 46, .int x, .int (bI lo)] ((fl, n1, n2, p, q, ad), I, J) Q := by
  refine fx_262 (ct_166 h (fun I1 f1 h1 => ⟨_, _, rfl, rfl, ?_⟩))
  refine ct_261 (by decide) h1 (fun j ht j1 j3 ej => ⟨_, _, _, rfl, rfl, fun _ => ?_, fun z => absurd rfl z⟩) (fun ht hn => ⟨_, _, _, rfl, rfl, fun z => absurd z (by decide), fun _ => ct_167 h1 (by decide) (by decide) (fun I' f' h' => ⟨_, _, _, rfl, rfl, k I' J _ _ (f1.tr f') h' (.inr (.inl ⟨ht, hn, by decide, rfl⟩))⟩)⟩) (fun ht => ⟨_, _, _, rfl, rfl, fun z => absurd z (by decide), fun _ => ct_167 h1 (by decide) (by decide) (fun I' f' h' => ⟨_, _, _, rfl, rfl, k I' J _ _ (f1.tr f') h' (.inr (.inr ⟨ht, by decide, rfl⟩))⟩)⟩)
  refine ct_259 h1 ht (fun I2 J2 R f2 h2 hO hJ => ⟨_, _, rfl, rfl, ct_235P h2 ht hO ⟨_, _, _, rfl, rfl, ?_⟩⟩)
  have hv := (h2.vms ht).1
  have ok := hO.2.2
  have hwp := ws_pow ok (n := j) j3
  have hle := chA_le (K := K) j P.1
  rw [ej]
  have key : mm_wc (d + 9) 258 [.ref 46, .int (nI (std P.1)), .int (nI j)] ((fl, 0, 0, p, q, ad), I2, J2) (fun v τ => ∃ J3, v = some (.long (lN (chA K j P.1))) ∧ τ = ((fl, 0, 0, p, q, ad), I2, J3)) := by
    have := ct_258 (K := K) (R := R) j (d + 6 - 2 * j) j3 (Q := fun v τ => ∃ J3, v = some (.long (lN (chA K j P.1))) ∧ τ = ((fl, 0, 0, p, q, ad), I2, J3)) hO (hJ _) hv (fun J3 _ => ⟨J3, rfl, rfl⟩)
    rw [show d + 6 - 2 * j + 2 * j + 3 = d + 9 by omega] at this
    exact this
  refine mm_wcm key ?_
  rintro v τ ⟨J3, rfl, rfl⟩
  refine ⟨_, _, _, rfl, rfl, ct_256 hO j3 ⟨_, _, _, rfl, rfl, fx_260 (ct_260 _ _ (by omega) (by omega) ⟨_, _, _, rfl, rfl, ?_⟩)⟩⟩
  obtain ⟨g1, g2, g3⟩ := low_ld (lo := lo) (a := chA K j P.1) (w := ws K ^ j) (by omega) (by omega) (by omega)
  rw [bI_0]
  refine ⟨fun e => ⟨g1, ?_⟩, fun e => ct_256 hO j3 ⟨_, _, _, rfl, rfl, g1, ?_⟩⟩
  · rw [g2]
    subst e
    exact k I2 J3 _ _ (f1.tr f2) h2 (.inl ⟨ht, trivial, ⟨j, j1, j3, ej, rfl⟩, rfl⟩)
  · rw [g3]
    have e : lo = true := by simpa using e
    subst e
    exact k I2 J3 _ _ (f1.tr f2) h2 (.inl ⟨ht, trivial, ⟨j, j1, j3, ej, rfl⟩, rfl⟩)
theorem md_265 {x : Int32} {lo : Bool} (h : MI T to K P tr f I) (k : ∀ I' J' v t, frM I I' → MI T to K P t f I' → ra_content to K P x lo v t → Q (some (.long v)) ((fl, n1, n2, p, q, ad), I', J')) : mm_wc (d + 10) 265 [.ref 46, .int x, .int (bI lo)] ((fl, n1, n2, p, q, ad), I, J) Q := by
  refine fx_265 (ct_166 h (fun I1 f1 h1 => ⟨_, _, rfl, rfl, ?_⟩))
  refine ct_261 (by decide) h1 (fun j ht j1 j3 ej => ⟨_, _, _, rfl, rfl, fun _ => ?_, fun z => absurd rfl z⟩) (fun ht hn => ⟨_, _, _, rfl, rfl, fun z => absurd z (by decide), fun _ => ct_167 h1 (by decide) (by decide) (fun I' f' h' => ⟨_, _, _, rfl, rfl, k I' J _ _ (f1.tr f') h' (.inr (.inl ⟨ht, hn, by decide, rfl⟩))⟩)⟩) (fun ht => ⟨_, _, _, rfl, rfl, fun z => absurd z (by decide), fun _ => ct_167 h1 (by decide) (by decide) (fun I' f' h' => ⟨_, _, _, rfl, rfl, k I' J _ _ (f1.tr f') h' (.inr (.inr ⟨ht, by decide, rfl⟩))⟩)⟩)
  refine ct_259 h1 ht (fun I2 J2 R f2 h2 hO hJ => ⟨_, _, rfl, rfl, ct_235P h2 ht hO ⟨_, _, _, rfl, rfl, ?_⟩⟩)
  have hv := (h2.vms ht).1
  have ok := hO.2.2
  have hwp := ws_pow ok (n := j) j3
  have hle := ctA_le (K := K) j P.1
  rw [ej]
  have key : mm_wc (d + 9) 264 [.ref 46, .int (nI (std P.1)), .int (nI j)] ((fl, 0, 0, p, q, ad), I2, J2) (fun v τ => ∃ J3, v = some (.long (lN (ctA K j P.1))) ∧ τ = ((fl, 0, 0, p, q, ad), I2, J3)) := by
    have := ct_264 (K := K) (R := R) j (d + 6 - 2 * j) j3 (Q := fun v τ => ∃ J3, v = some (.long (lN (ctA K j P.1))) ∧ τ = ((fl, 0, 0, p, q, ad), I2, J3)) hO (hJ _) hv (fun J3 _ => ⟨J3, rfl, rfl⟩)
    rw [show d + 6 - 2 * j + 2 * j + 3 = d + 9 by omega] at this
    exact this
  refine mm_wcm key ?_
  rintro v τ ⟨J3, rfl, rfl⟩
  refine ⟨_, _, _, rfl, rfl, ct_256 hO j3 ⟨_, _, _, rfl, rfl, fx_260 (ct_260 _ _ (by omega) (by omega) ⟨_, _, _, rfl, rfl, ?_⟩)⟩⟩
  obtain ⟨g1, g2, g3⟩ := low_ld (lo := lo) (a := ctA K j P.1) (w := ws K ^ j) (by omega) (by omega) (by omega)
  rw [bI_0]
  refine ⟨fun e => ⟨g1, ?_⟩, fun e => ct_256 hO j3 ⟨_, _, _, rfl, rfl, g1, ?_⟩⟩
  · rw [g2]
    subst e
    exact k I2 J3 _ _ (f1.tr f2) h2 (.inl ⟨ht, trivial, ⟨j, j1, j3, ej, rfl⟩, rfl⟩)
  · rw [g3]
    have e : lo = true := by simpa using e
    subst e
    exact k I2 J3 _ _ (f1.tr f2) h2 (.inl ⟨ht, trivial, ⟨j, j1, j3, ej, rfl⟩, rfl⟩)
theorem md_266 {x : Int32} (h : MI T to K P tr f I) (k : ∀ I' J' v t, frM I I' → MI T to K P t f I' → ra_best to K P x v t → Q (some (.int v)) ((fl, n1, n2, p, q, ad), I', J')) : mm_wc (d + 10) 266 [.ref 46, .int x] ((fl, n1, n2, p, q, ad), I, J) Q := by
  refine fx_266 (ct_166 h (fun I1 f1 h1 => ⟨_, _, rfl, rfl, ?_⟩))
  refine ct_261 (by decide) h1 (fun j ht j1 j3 ej => ⟨_, _, _, rfl, rfl, fun _ => ?_, fun z => absurd rfl z⟩) (fun ht hn => ⟨_, _, _, rfl, rfl, fun z => absurd z (by decide), fun _ => ct_167 h1 (by decide) (by decide) (fun I' f' h' => ⟨_, _, _, rfl, rfl, k I' J _ _ (f1.tr f') h' (.inr (.inl ⟨ht, hn, rfl, rfl⟩))⟩)⟩) (fun ht => ⟨_, _, _, rfl, rfl, fun z => absurd z (by decide), fun _ => ct_167 h1 (by decide) (by decide) (fun I' f' h' => ⟨_, _, _, rfl, rfl, k I' J _ _ (f1.tr f') h' (.inr (.inr ⟨ht, rfl, rfl⟩))⟩)⟩)
  have hv := (h1.vms ht).1
  obtain ⟨ok, -⟩ := h1.cake ht
  have hl := hv.lt ok
  have hB := nB_le ok
  have hBp := nB_pos ok
  rw [(h1.mem ht).1, z_eq (by omega) (by decide)]
  refine ⟨fun e0 => ?_, fun e0 => k I1 J _ _ f1 h1 (.inl ⟨ht, trivial, ⟨j, j1, j3, ej, .inl ⟨e0, rfl⟩⟩, rfl⟩)⟩
  refine ct_259 h1 ht (fun I2 J2 R f2 h2 hO hJ => ⟨_, _, rfl, rfl, ct_235P h2 ht hO ⟨_, _, _, rfl, rfl, ?_⟩⟩)
  rw [ej]
  obtain ⟨i, rfl⟩ : ∃ i, j = i + 1 := ⟨j - 1, by omega⟩
  have ihC : cOf 258 (chA K) R K (d + 5 + 3) i := by
    rw [show d + 5 + 3 = d + 5 - 2 * i + 2 * i + 3 by omega]
    exact ct_258 i _ (by omega)
  have hby : ∀ b, b < nB K → byA K i P.1 b ≤ 19683 := fun b hb => Nat.le_trans (smk_le hb (fun c _ => chA_le i _)) (by rw [Nat.mul_comm, ← Nat.pow_succ]; exact (ws_pow ok (n := i + 1) (by omega)).2)
  have lp : ∀ r b, r + b = nB K → ∀ c J', kJ K (chA K) J' → isFm (byA K i P.1) b c → mm_w Q (mm_wc (d + 9)) bk_266 63 [some (.ref 46), some (.int (nI (i + 1))), none, some (.int (nI (std P.1))), some (.int (nI c)), some (.long (lN (byA K i P.1 c))), none, some (.int (nI b)), none, none] [] ((fl, n1, n2, p, q, ad), I2, J') := by
    intro r
    induction r with
    | zero =>
      intro b hb c J' hJ' hc
      have : b = nB K := by omega
      subst this
      refine fx_266_63 (ct_206 hO.1.1 ⟨_, _, _, rfl, rfl, ?_⟩)
      rw [agR_nB hO.2.1, z_le (by omega) (by omega)]
      exact ⟨fun _ => k I2 J' _ _ (f1.tr f2) h2 (.inl ⟨ht, trivial, ⟨i + 1, j1, j3, ej, .inr ⟨e0, c, hc, rfl⟩⟩, rfl⟩), fun e => absurd (Nat.le_refl _) e⟩
    | succ r ih =>
      intro b hb c J' hJ' hc
      have hcb := hc.1
      refine fx_266_63 (ct_206 hO.1.1 ⟨_, _, _, rfl, rfl, ?_⟩)
      rw [agR_nB hO.2.1, z_le (by omega) (by omega)]
      refine ⟨fun e => by omega, fun _ => ct_257 (d := d + 5) ihC hO hJ' (by omega) hv (by omega) (fun J4 hJ4 => ⟨_, _, _, rfl, rfl, ?_⟩)⟩
      have hb1 := hby b (by omega)
      have hb2 := hby c (by omega)
      show (nI 0 < lg_cmp (lN (byA K i P.1 b)) _ → _) ∧ (¬ nI 0 < lg_cmp (lN (byA K i P.1 b)) _ → _)
      rw [lg2 (by omega) (by omega), z_add]
      refine ⟨fun e => ih (b + 1) (by omega) b J4 hJ4 ⟨by omega, fun c' hc' => ?_, fun c' hc' => ?_⟩, fun e => ih (b + 1) (by omega) c J4 hJ4 ⟨by omega, fun c' hc' => ?_, hc.2.2⟩⟩
      · by_cases z : c' = b
        · subst z; exact Nat.le_refl _
        · have := hc.2.1 c' (by omega); omega
      · have := hc.2.1 c' hc'; omega
      · by_cases z : c' = b
        · subst z; omega
        · exact hc.2.1 c' (by omega)
  refine ct_257 (d := d + 5) ihC hO (hJ _) (by omega) hv (b := 0) (by omega) (fun J4 hJ4 => ⟨_, _, _, rfl, rfl, ?_⟩)
  exact lp (nB K - 1) 1 (by omega) 0 J4 hJ4 ⟨by decide, fun c hc => by rw [show c = 0 by omega]; exact Nat.le_refl _, fun c hc => absurd hc (Nat.not_lt_zero c)⟩
end OC
