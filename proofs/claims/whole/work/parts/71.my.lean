/-! the model's calls that only read: candle, fan, breath, breathOf, lights, burning, dazed, fault, where, trouble, size -/
theorem fanM_and {R K : Nat → Nat} (ag : agR R K) (ok : okR K) {b : Nat} (hb : b < nB K) : fanM R 11 b &&& 2 ^ K 3 - 1 = fanK K b := by
  have h3 := ok.c
  have h4 := ok.p
  have h6 := ok.h
  obtain ⟨b1, b2⟩ := bd_ix ok hb
  have e4 := ag 4 (by decide) (by decide) (by decide)
  apply Nat.eq_of_testBit_eq
  intro i
  unfold fanK fanM
  rw [Nat.testBit_and, bset_tb, bset_tb, Nat.testBit_two_pow_sub_one]
  by_cases hi : i < K 3
  · have : i < 11 := by omega
    have e : inM R b i = inM K b i := by
      unfold inM inXY
      rw [e4]
      generalize b / 16 % K 4 = u at *
      generalize b / 16 / K 4 = w at *
      rw [ag (13 + i) (by omega) (by omega) (by omega), ag (24 + i) (by omega) (by omega) (by omega), ag (35 + i) (by omega) (by omega) (by omega), ag (46 + u) (by omega) (by omega) (by omega), ag (51 + u) (by omega) (by omega) (by omega), ag (68 + w) (by omega) (by omega) (by omega), ag (64 + w) (by omega) (by omega) (by omega)]
    simp [hi, this, e]
  · simp [hi]
theorem nrM_ag {R K : Nat → Nat} (ag : agR R K) {c e : Nat} (hc : c < 10) (he : e < 10) : nrM R c e = nrM K c e := by
  unfold nrM nrXY
  rw [ag 1 (by decide) (by decide) (by decide), ag (13 + c) (by omega) (by omega) (by omega), ag (24 + c) (by omega) (by omega) (by omega), ag (13 + e) (by omega) (by omega) (by omega), ag (24 + e) (by omega) (by omega) (by omega)]
theorem ofK_ag {R K : Nat → Nat} (ag : agR R K) (ok : okR K) (j : Nat) : ofK R j = ofK K j := by
  have h3 := ok.c
  unfold ofK
  rw [ag 3 (by decide) (by decide) (by decide)]
  exact bset_congr (fun c hc => by rw [ag (35 + c) (by omega) (by omega) (by omega)])
theorem nrM_sym (K : Nat → Nat) (c e : Nat) : nrM K c e = nrM K e c := by
  unfold nrM nrXY
  have h : ∀ a b : Int32, (a - b) * (a - b) = (b - a) * (b - a) := by
    intro a b
    have e : b - a = -(a - b) := by simp
    rw [e, Int32.neg_mul, Int32.mul_neg, Int32.neg_neg]
  rw [h (nI (K (13 + c))) (nI (K (13 + e))), h (nI (K (24 + c))) (nI (K (24 + e)))]
  congr 1
  exact decide_eq_decide.mpr ⟨fun z y => z y.symm, fun z y => z y.symm⟩
section MY
variable {d n1 n2 : Nat} {fl : Nat → Bool} {p q : Bool} {ad : Nat → Nat} {J : mmJ} {Q : mmQ} {T : zT} {to : Bool} {K : Nat → Nat} {P : zP} {tr : Nat} {f : zF} {I : mmI}
theorem ct_204 {x : Int32} (h : MI T to K P tr f I) (k1 : ∀ c, to = true → c < nB K → x = nI c → Q (some (.int (nI 1))) ((fl, n1, n2, p, q, ad), I, J)) (k0 : ¬ (to = true ∧ ix (nB K) x) → Q (some (.int (nI 0))) ((fl, n1, n2, p, q, ad), I, J)) : mm_wc (d + 2) 204 [.ref 46, .int x] ((fl, n1, n2, p, q, ad), I, J) Q := by
  refine fx_204 ?_
  rw [h.told, bI_0]
  refine ⟨fun e => k0 (fun z => by rw [e] at z; cases z.1), fun e => ?_⟩
  have e : to = true := by simpa using e
  obtain ⟨ok, R, ag, mb⟩ := h.cake e
  have hB := nB_le ok
  refine ct_206 mb.1 ⟨_, _, _, rfl, rfl, ?_⟩
  rw [agR_nB ag]
  refine wi (nB_pos ok) (by omega) (fun c hc ec => ⟨_, _, _, rfl, rfl, fun z => absurd z (by rw [z_eq (by decide) (by decide)]; decide), fun _ => k1 c e hc ec⟩) (fun z => ⟨_, _, _, rfl, rfl, fun _ => k0 (fun y => z y.2), fun y => absurd rfl y⟩)
theorem n10 : ¬ nI 1 = nI 0 := by rw [z_eq (by decide) (by decide)]; decide
theorem md_215 {x w : Int32} (h : MI T to K P tr f I) (k : ∀ I' v t, frM I I' → MI T to K P t f I' → rf (to = true ∧ ix (K 3) x ∧ ix 3 w) (va_candle K x w) v t → Q (some (.int v)) ((fl, n1, n2, p, q, ad), I', J)) : mm_wc (d + 3) 215 [.ref 46, .int x, .int w] ((fl, n1, n2, p, q, ad), I, J) Q := by
  refine fx_215 (ct_166 h (fun I1 f1 h1 => ⟨_, _, rfl, rfl, ?_⟩))
  have no : ¬ (to = true ∧ ix (K 3) x ∧ ix 3 w) → mm_wc (d + 2) 167 [.ref 46, .int (nI 1)] ((fl, 0, 0, p, q, ad), I1, J) (fun v τ => ∃ r3 I3 J3, v = some (.int r3) ∧ τ = ((fl, 0, 0, p, q, ad), I3, J3) ∧ Q (some (.int r3)) ((fl, n1, n2, p, q, ad), I3, J3)) := fun hn => ct_167 h1 (by decide) (by decide) (fun I' f' h' => ⟨_, _, _, rfl, rfl, k I' _ _ (f1.tr f') h' (.inr ⟨hn, rfl, rfl⟩)⟩)
  refine ct_201 h1 (fun c ht hc ec => ⟨_, _, _, rfl, rfl, fun z => absurd z n10, fun _ => ?_⟩) (fun hn => ⟨_, _, _, rfl, rfl, fun _ => no (fun z => hn ⟨z.1, z.2.1⟩), fun z => absurd rfl z⟩)
  refine wi2 3 rfl (by decide) (by decide) (fun j hj ej => ⟨_, _, _, rfl, rfl, fun z => absurd z n10, fun _ => ?_⟩) (fun hn => ⟨_, _, _, rfl, rfl, fun _ => no (fun z => hn z.2.2), fun z => absurd rfl z⟩)
  obtain ⟨ok, R, ag, mb⟩ := h1.cake ht
  have h3 := ok.c
  rw [ec, ej]
  simp (disch := omega) only [z_mul, z_add, z_ix, mb.1.2]
  refine ⟨z_in (by omega) (by decide), ?_⟩
  rw [ag (13 + 11 * j + c) (by omega) (by omega) (by omega)]
  exact k I1 _ _ f1 h1 (.inl ⟨⟨ht, ⟨c, hc, ec⟩, ⟨j, hj, ej⟩⟩, ⟨c, j, hc, ec, hj, ej, rfl⟩, rfl⟩)
theorem md_216 {x : Int32} (h : MI T to K P tr f I) (k : ∀ I' v t, frM I I' → MI T to K P t f I' → rf (to = true ∧ ix (nB K) x) (va_fan K x) v t → Q (some (.int v)) ((fl, n1, n2, p, q, ad), I', J)) : mm_wc (d + 3) 216 [.ref 46, .int x] ((fl, n1, n2, p, q, ad), I, J) Q := by
  refine fx_216 (ct_166 h (fun I1 f1 h1 => ⟨_, _, rfl, rfl, ?_⟩))
  refine ct_204 h1 (fun c ht hc ec => ⟨_, _, _, rfl, rfl, fun z => absurd z n10, fun _ => ?_⟩) (fun hn => ⟨_, _, _, rfl, rfl, fun _ => ct_167 h1 (by decide) (by decide) (fun I' f' h' => ⟨_, _, _, rfl, rfl, k I' _ _ (f1.tr f') h' (.inr ⟨hn, rfl, rfl⟩)⟩), fun z => absurd rfl z⟩)
  obtain ⟨ok, R, ag, mb⟩ := h1.cake ht
  have hB := nB_le ok
  rw [ec, z_ix (by omega), mb.2.1 c (by rw [agR_nB ag]; exact hc)]
  refine ⟨z_in (by omega) (by decide), ct_205 mb.1 ⟨_, _, _, rfl, rfl, ?_⟩⟩
  rw [z_and, ag 3 (by decide) (by decide) (by decide), fanM_and ag ok hc]
  exact k I1 _ _ f1 h1 (.inl ⟨⟨ht, c, hc, ec⟩, ⟨c, hc, ec, rfl⟩, rfl⟩)
theorem md_217 {x y w : Int32} (h : MI T to K P tr f I) (k : ∀ I' v t, frM I I' → MI T to K P t f I' → rf (to = true ∧ ix (K 6) x ∧ ix (K 4) y ∧ ix 16 w) (va_breath K x y w) v t → Q (some (.int v)) ((fl, n1, n2, p, q, ad), I', J)) : mm_wc (d + 3) 217 [.ref 46, .int x, .int y, .int w] ((fl, n1, n2, p, q, ad), I, J) Q := by
  refine fx_217 (ct_166 h (fun I1 f1 h1 => ⟨_, _, rfl, rfl, ?_⟩))
  have no : ¬ (to = true ∧ ix (K 6) x ∧ ix (K 4) y ∧ ix 16 w) → mm_wc (d + 2) 167 [.ref 46, .int (nI 1)] ((fl, 0, 0, p, q, ad), I1, J) (fun v τ => ∃ r3 I3 J3, v = some (.int r3) ∧ τ = ((fl, 0, 0, p, q, ad), I3, J3) ∧ Q (some (.int r3)) ((fl, n1, n2, p, q, ad), I3, J3)) := fun hn => ct_167 h1 (by decide) (by decide) (fun I' f' h' => ⟨_, _, _, rfl, rfl, k I' _ _ (f1.tr f') h' (.inr ⟨hn, rfl, rfl⟩)⟩)
  refine ct_203 h1 (fun a ht ha ea => ⟨_, _, _, rfl, rfl, fun z => absurd z n10, fun _ => ?_⟩) (fun hn => ⟨_, _, _, rfl, rfl, fun _ => no (fun z => hn ⟨z.1, z.2.1⟩), fun z => absurd rfl z⟩)
  refine ct_202 h1 (fun b _ hb eb => ⟨_, _, _, rfl, rfl, fun z => absurd z n10, fun _ => ?_⟩) (fun hn => ⟨_, _, _, rfl, rfl, fun _ => no (fun z => hn ⟨z.1, z.2.2.1⟩), fun z => absurd rfl z⟩)
  refine wi2 16 rfl (by decide) (by decide) (fun j hj ej => ⟨_, _, _, rfl, rfl, fun z => absurd z n10, fun _ => ?_⟩) (fun hn => ⟨_, _, _, rfl, rfl, fun _ => no (fun z => hn z.2.2.2), fun z => absurd rfl z⟩)
  obtain ⟨ok, R, ag, mb⟩ := h1.cake ht
  rw [mb.1.2 4 (by decide), ag 4 (by decide) (by decide) (by decide), ea, eb, ej]
  simp only [z_mul, z_add]
  exact k I1 _ _ f1 h1 (.inl ⟨⟨ht, ⟨a, ha, ea⟩, ⟨b, hb, eb⟩, ⟨j, hj, ej⟩⟩, ⟨a, b, j, ha, ea, hb, eb, hj, ej, rfl⟩, rfl⟩)
theorem md_218 {x w : Int32} (h : MI T to K P tr f I) (k : ∀ I' v t, frM I I' → MI T to K P t f I' → rf (to = true ∧ ix (nB K) x ∧ ix 3 w) (va_breathOf K x w) v t → Q (some (.int v)) ((fl, n1, n2, p, q, ad), I', J)) : mm_wc (d + 3) 218 [.ref 46, .int x, .int w] ((fl, n1, n2, p, q, ad), I, J) Q := by
  refine fx_218 (ct_166 h (fun I1 f1 h1 => ⟨_, _, rfl, rfl, ?_⟩))
  have no : ¬ (to = true ∧ ix (nB K) x ∧ ix 3 w) → mm_wc (d + 2) 167 [.ref 46, .int (nI 1)] ((fl, 0, 0, p, q, ad), I1, J) (fun v τ => ∃ r3 I3 J3, v = some (.int r3) ∧ τ = ((fl, 0, 0, p, q, ad), I3, J3) ∧ Q (some (.int r3)) ((fl, n1, n2, p, q, ad), I3, J3)) := fun hn => ct_167 h1 (by decide) (by decide) (fun I' f' h' => ⟨_, _, _, rfl, rfl, k I' _ _ (f1.tr f') h' (.inr ⟨hn, rfl, rfl⟩)⟩)
  refine ct_204 h1 (fun b ht hb eb => ⟨_, _, _, rfl, rfl, fun z => absurd z n10, fun _ => ?_⟩) (fun hn => ⟨_, _, _, rfl, rfl, fun _ => no (fun z => hn ⟨z.1, z.2.1⟩), fun z => absurd rfl z⟩)
  refine wi2 3 rfl (by decide) (by decide) (fun j hj ej => ⟨_, _, _, rfl, rfl, fun _ => ?_, fun z => absurd z n10⟩) (fun hn => ⟨_, _, _, rfl, rfl, fun z => absurd rfl z, fun _ => no (fun z => hn z.2.2)⟩)
  obtain ⟨ok, R, ag, mb⟩ := h1.cake ht
  have hB := nB_le ok
  have e4 := ag 4 (by decide) (by decide) (by decide)
  rw [eb, ej, z_eq (by omega) (by decide), z_eq (by omega) (by decide)]
  have fin : ∀ v, v = nI (if j = 0 then b / 16 / K 4 else if j = 1 then b / 16 % K 4 else b % 16) → Q (some (.int v)) ((fl, n1, n2, p, q, ad), I1, J) := fun v hv => k I1 _ _ f1 h1 (.inl ⟨⟨ht, ⟨b, hb, eb⟩, ⟨j, hj, ej⟩⟩, ⟨b, j, hb, eb, hj, ej, hv⟩, rfl⟩)
  refine ⟨fun e0 => ⟨fun e1 => fin _ ?_, fun e1 => ct_208 mb.1 (by omega) ⟨_, _, _, rfl, rfl, fin _ ?_⟩⟩, fun e0 => ct_207 mb.1 (by omega) ⟨_, _, _, rfl, rfl, fin _ ?_⟩⟩
  · rw [z_rem (by omega) (by decide) (by decide), if_neg e0, if_neg e1]
  · rw [if_neg e0, if_pos e1, e4]
  · rw [if_pos e0, e4]
theorem md_221 {x : Int32} {it : Bool} (h : MI T to K P tr f I) (k : ∀ I' v t, frM I I' → MI T to K P t f I' → rf (to = true ∧ ix (K 3) x) (va_lights K x it) v t → Q (some (.int v)) ((fl, n1, n2, p, q, ad), I', J)) : mm_wc (d + 3) 221 [.ref 46, .int x, .int (bI it)] ((fl, n1, n2, p, q, ad), I, J) Q := by
  refine fx_221 (ct_166 h (fun I1 f1 h1 => ⟨_, _, rfl, rfl, ?_⟩))
  refine ct_201 h1 (fun c ht hc ec => ⟨_, _, _, rfl, rfl, fun _ => ?_, fun z => absurd z n10⟩) (fun hn => ⟨_, _, _, rfl, rfl, fun z => absurd rfl z, fun _ => ct_167 h1 (by decide) (by decide) (fun I' f' h' => ⟨_, _, _, rfl, rfl, k I' _ _ (f1.tr f') h' (.inr ⟨hn, rfl, rfl⟩)⟩)⟩)
  obtain ⟨ok, R, ag, mb⟩ := h1.cake ht
  have h3 := ok.c
  have fin : ∀ v, v = nI (if it = true then (if K (35 + c) = 2 then nearM K (K 3) c else 0) else litB K c) → Q (some (.int v)) ((fl, n1, n2, p, q, ad), I1, J) := fun v hv => k I1 _ _ f1 h1 (.inl ⟨⟨ht, c, hc, ec⟩, ⟨c, hc, ec, hv⟩, rfl⟩)
  have hkc := ok.xy (k := 35 + c) (by omega) (by omega)
  have e3 := ag 3 (by decide) (by decide) (by decide)
  rw [ec, bI_0, z_add, z_ix (by omega), z_ix (by omega), mb.1.2 (35 + c) (by omega), ag (35 + c) (by omega) (by omega) (by omega), mb.2.2 c (by omega), z_eq (by omega) (by decide)]
  have hv : vp_in (nI c) 11 := z_in (by omega) (by decide)
  have eN : nearM R 11 c &&& 2 ^ K 3 - 1 = nearM K (K 3) c := by
    apply Nat.eq_of_testBit_eq
    intro i
    unfold nearM
    rw [Nat.testBit_and, bset_tb, bset_tb, Nat.testBit_two_pow_sub_one]
    by_cases hi : i < K 3
    · have : i < 11 := by omega
      simp [hi, this, nrM_ag ag (show c < 10 by omega) (show i < 10 by omega)]
    · simp [hi]
  refine ⟨fun e => ⟨hv, ct_211 mb.1 (by decide) ⟨_, _, _, rfl, rfl, fin _ ?_⟩⟩, fun e => ⟨z_in (by omega) (by decide), fun e2 => fin _ ?_, fun e2 => ⟨hv, ct_205 mb.1 ⟨_, _, _, rfl, rfl, fin _ ?_⟩⟩⟩⟩
  · rw [z_and, e]
    simp only [Bool.false_eq_true, if_false]
    congr 1
    rw [ofK_ag ag ok]
    apply Nat.eq_of_testBit_eq
    intro i
    unfold nearM litB
    rw [Nat.testBit_and, bset_tb, bset_tb]
    by_cases hi : i < K 3
    · have : i < 11 := by omega
      rw [ofK_tb hi, nrM_ag ag (show c < 10 by omega) (show i < 10 by omega), nrM_sym K c i]
      simp [hi, this, Bool.and_comm]
    · have : (ofK K 2).testBit i = false := by
        cases hz : (ofK K 2).testBit i
        · rfl
        · exact absurd (lt_of_tb (ofK_lt K 2) hz) hi
      simp [hi, this]
  · have e : it = true := by simpa using e
    rw [if_pos e, if_neg e2]
  · have e : it = true := by simpa using e
    rw [if_pos e, if_pos e2, z_and, e3, eN]
theorem md_222 (h : MI T to K P tr f I) (k : ∀ I' v t, frM I I' → MI T to K P t f I' → rf (to = true) (fun v => v = nI (P.1 / 8)) v t → Q (some (.int v)) ((fl, n1, n2, p, q, ad), I', J)) : mm_wc (d + 3) 222 [.ref 46] ((fl, n1, n2, p, q, ad), I, J) Q := by
  refine fx_222 (ct_166 h (fun I1 f1 h1 => ⟨_, _, rfl, rfl, ?_⟩))
  rw [h1.told, bI_0]
  refine ⟨fun e => ct_167 h1 (by decide) (by decide) (fun I' f' h' => ⟨_, _, _, rfl, rfl, k I' _ _ (f1.tr f') h' (.inr ⟨by rw [e]; decide, rfl, rfl⟩)⟩), fun e => ?_⟩
  have e : to = true := by simpa using e
  exact k I1 _ _ f1 h1 (.inl ⟨e, (h1.2.2.2.2.2.2.2.2.2.2.2 e).2.1, rfl⟩)
theorem md_223 (h : MI T to K P tr f I) (k : ∀ I' v t, frM I I' → MI T to K P t f I' → rf (to = true) (fun v => v = nI (dzK K P.1)) v t → Q (some (.int v)) ((fl, n1, n2, p, q, ad), I', J)) : mm_wc (d + 3) 223 [.ref 46] ((fl, n1, n2, p, q, ad), I, J) Q := by
  refine fx_223 (ct_166 h (fun I1 f1 h1 => ⟨_, _, rfl, rfl, ?_⟩))
  rw [h1.told, bI_0]
  refine ⟨fun e => ct_167 h1 (by decide) (by decide) (fun I' f' h' => ⟨_, _, _, rfl, rfl, k I' _ _ (f1.tr f') h' (.inr ⟨by rw [e]; decide, rfl, rfl⟩)⟩), fun e => ?_⟩
  have e : to = true := by simpa using e
  exact k I1 _ _ f1 h1 (.inl ⟨e, (h1.2.2.2.2.2.2.2.2.2.2.2 e).2.2.1, rfl⟩)
theorem md_199 (h : MI T to K P tr f I) (k : ∀ I', frM I I' → MI T to K P tr f I' → Q (some (.int (nI f.1))) ((fl, n1, n2, p, q, ad), I', J)) : mm_wc (d + 1) 199 [.ref 46] ((fl, n1, n2, p, q, ad), I, J) Q := by
  refine fx_199 ?_
  rw [h.2.2.2.1]
  exact k _ (frM.rf.up (by decide) (by decide)) (h.th _)
theorem md_200 (h : MI T to K P tr f I) (k : ∀ I', frM I I' → MI T to K P tr f I' → Q (some (.int (if tr = 4 then nI f.2 else -1))) ((fl, n1, n2, p, q, ad), I', J)) : mm_wc (d + 1) 200 [.ref 46] ((fl, n1, n2, p, q, ad), I, J) Q := by
  refine fx_200 ?_
  have htr := h.1.2.2.2.2.2.2.1
  rw [h.2.2.2.2.2.1, z_eq (by omega) (by decide)]
  have kk := k _ (frM.rf.up (by decide) (by decide)) (h.th (nI 0))
  refine ⟨fun e => by rw [if_neg e] at kk; exact kk, fun e => ?_⟩
  rw [if_pos e] at kk
  rw [h.2.2.2.2.1 e]; exact kk
theorem md_277 (h : MI T to K P tr f I) (k : ∀ I', frM I I' → MI T to K P tr f I' → Q (some (.int (nI tr))) ((fl, n1, n2, p, q, ad), I', J)) : mm_wc (d + 1) 277 [.ref 46] ((fl, n1, n2, p, q, ad), I, J) Q := by
  refine fx_277 ?_
  rw [h.2.2.2.2.2.1]
  exact k _ (frM.rf.up (by decide) (by decide)) (h.th _)
theorem ti {x : Int32} {n : Nat} (hn : n < 2 ^ 31) (e : x.toInt = n) : x = nI n := Int32.toInt_inj.mp (by rw [e, nI_toInt hn])
theorem md_276 {x : Int32} (h : MI T to K P tr f I) (k : ∀ I' v, frM I I' → MI T to K P tr f I' → va_size T to K P x v → Q (some (.int v)) ((fl, n1, n2, p, q, ad), I', J)) : mm_wc (d + 2) 276 [.ref 46, .int x] ((fl, n1, n2, p, q, ad), I, J) Q := by
  refine fx_276 ?_
  have kk : ∀ v, va_size T to K P x v → Q (some (.int v)) ((fl, n1, n2, p, q, ad), mm_up I 46 0 (nI 0), J) := fun v hv => k _ v (frM.rf.up (by decide) (by decide)) (h.th (nI 0)) hv
  refine ⟨fun e10 => ⟨fun et => ?_, fun et => ?_⟩, fun e10 => kk _ (.inl ⟨e10, h.2.1⟩)⟩
  · rw [h.told, bI_0] at et
    have et : to = true := by simpa using et
    obtain ⟨ok, R, ag, mb⟩ := h.cake et
    have r : ∀ j, j < 10 → I 49 j = nI (K j) := fun j hj => by rw [mb.1.2 j (by omega), ag j (by omega) (by omega) (by omega)]
    have S := fun v hv => kk v (.inr (.inr (.inr ⟨et, hv⟩)))
    have h8 := ok.2.2.2.2.2.2.2.1
    rw [r 3 (by decide), r 4 (by decide), r 5 (by decide), r 6 (by decide), r 1 (by decide), r 2 (by decide), r 7 (by decide), r 8 (by decide), r 9 (by decide), z_eq (by omega) (by decide), h.2.2.2.2.2.2.2.1, h.2.2.2.2.2.2.2.2.1]
    refine ⟨fun e => kk _ (.inr (.inl ⟨e10, ?_, rfl⟩)), fun e => S _ (.inl ⟨ti (by decide) e, rfl⟩), fun e => S _ (.inr (.inl ⟨ti (by decide) e, rfl⟩)), fun e => S _ (.inr (.inr (.inl ⟨ti (by decide) e, rfl⟩))), fun e => S _ (.inr (.inr (.inr (.inl ⟨ti (by decide) e, rfl⟩)))), fun e => S _ (.inr (.inr (.inr (.inr (.inl ⟨ti (by decide) e, rfl⟩))))), fun e => S _ (.inr (.inr (.inr (.inr (.inr (.inl ⟨ti (by decide) e, rfl⟩)))))), fun e => S _ (.inr (.inr (.inr (.inr (.inr (.inr (.inl ⟨ti (by decide) e, rfl⟩))))))), fun e => ⟨fun e2 => S _ ?_, fun e2 => S _ ?_⟩, fun e => S _ (.inr (.inr (.inr (.inr (.inr (.inr (.inr (.inr (.inl ⟨ti (by decide) e, rfl⟩))))))))), fun e => S _ (.inr (.inr (.inr (.inr (.inr (.inr (.inr (.inr (.inr ⟨ti (by decide) e, rfl⟩)))))))))⟩
    · rintro ⟨c, hc, rfl⟩
      rw [nI_toInt (by omega)] at e
      omega
    · exact .inr (.inr (.inr (.inr (.inr (.inr (.inr (.inl ⟨ti (by decide) e, by rw [if_neg e2]⟩)))))))
    · exact .inr (.inr (.inr (.inr (.inr (.inr (.inr (.inl ⟨ti (by decide) e, by rw [if_pos e2]⟩)))))))
  · rw [h.told, bI_0] at et
    refine wi2 10 rfl (by decide) (by decide) (fun c hc ec => ⟨_, _, _, rfl, rfl, fun z => absurd z n10, fun _ => kk _ (.inr (.inr (.inl ⟨⟨c, hc, ec⟩, et, rfl⟩)))⟩) (fun hn => ⟨_, _, _, rfl, rfl, fun _ => kk _ (.inr (.inl ⟨e10, hn, rfl⟩)), fun z => absurd rfl z⟩)
end MY
