/-! feed, size -/
def byt (w : Int32) (s : Nat) : Nat := w.toBitVec.toNat / 2 ^ s % 256
theorem byt_lt (w : Int32) (s : Nat) : byt w s < 256 := Nat.mod_lt _ (by decide)
theorem byt_tb (w : Int32) (s i : Nat) : (byt w s).testBit i = (decide (i < 8) && w.toBitVec.getLsbD (s + i)) := by
  unfold byt
  rw [show 256 = 2 ^ 8 from rfl, Nat.testBit_mod_two_pow, Nat.testBit_div_two_pow, Nat.add_comm]
  rfl
theorem byt_m (w : Int32) {s : Nat} (hs : s ≤ 24) : (w >>> (nI s &&& 31)) &&& nI 255 = nI (byt w s) := by
  apply Int32.toBitVec_inj.1
  apply BitVec.eq_of_getLsbD_eq
  intro i hi
  rw [Int32.toBitVec_and, BitVec.getLsbD_and, Int32.toBitVec_shiftRight]
  show ((w.toBitVec.sshiftRight ((nI s &&& 31).toBitVec.smod 32).toNat).getLsbD i && (BitVec.ofNat 32 255).getLsbD i) = (BitVec.ofNat 32 (byt w s)).getLsbD i
  rw [z_sl s (by omega), BitVec.getLsbD_ofNat, BitVec.getLsbD_ofNat, byt_tb, BitVec.getLsbD_sshiftRight]
  have e : (255 : Nat).testBit i = decide (i < 8) := by rw [show (255 : Nat) = 2 ^ 8 - 1 from rfl, Nat.testBit_two_pow_sub_one]
  rw [e]
  by_cases h8 : i < 8
  · have h1 : s + i < 32 := by omega
    have h2 : ¬ 32 ≤ i := by omega
    simp [hi, h8, h1, h2]
  · simp [h8]
theorem i8_eq {x y : Int32} (h : ∀ i, i < 8 → x.toBitVec.getLsbD i = y.toBitVec.getLsbD i) : x.toInt8 = y.toInt8 := by
  apply Int8.toBitVec_inj.1
  rw [Int32.toBitVec_toInt8, Int32.toBitVec_toInt8]
  apply BitVec.eq_of_getLsbD_eq
  intro i hi
  rw [BitVec.getLsbD_signExtend, BitVec.getLsbD_signExtend]
  have h1 : i < 32 := by omega
  rw [if_pos h1, if_pos h1, h i hi]
theorem i8_i8 (x : Int32) : (x.toInt8.toInt32).toInt8 = x.toInt8 := by
  apply Int8.toBitVec_inj.1
  rw [Int32.toBitVec_toInt8, Int8.toBitVec_toInt32]
  apply BitVec.eq_of_getLsbD_eq
  intro i hi
  rw [BitVec.getLsbD_signExtend, BitVec.getLsbD_signExtend]
  have h1 : i < 32 := by omega
  simp [hi, h1]
theorem byt_c (w : Int32) {s : Nat} (hs : s < 32) : (Int32.toInt8 ((Int32.toInt8 (w.toUInt32 >>> ((nI s).toUInt32 &&& Int32.toUInt32 31)).toInt32).toInt32)).toInt32 = by8 (byt w s) := by
  unfold by8
  rw [i8_i8]
  congr 1
  apply i8_eq
  intro i hi
  have hk : (((nI s).toUInt32 &&& Int32.toUInt32 31).toBitVec % 32).toNat = s := (by decide +kernel : ∀ s, s < 32 → (((nI s).toUInt32 &&& Int32.toUInt32 31).toBitVec % 32).toNat = s) s hs
  have e := pk_ushr w (nI s) s hk
  show (((w.toUInt32 >>> ((nI s).toUInt32 &&& Int32.toUInt32 31)).toInt32).toBitVec.toNat).testBit i = (BitVec.ofNat 32 (byt w s)).getLsbD i
  rw [e, BitVec.getLsbD_ofNat, byt_tb, Nat.testBit_div_two_pow]
  have h1 : i < 32 := by omega
  simp [hi, h1, Nat.add_comm]
  rfl
def wd5 (a b c e g : Int32) (j : Nat) : Int32 := if j < 4 then a else if j < 8 then b else if j < 12 then c else if j < 16 then e else g
def fdT (T : zT) (a b c e g : Int32) : zT := (T.1 + 20, fun k => if k < T.1 then T.2 k else byt (wd5 a b c e g (k - T.1)) (24 - 8 * ((k - T.1) % 4)))
def ra_feed (T : zT) (a b c e g v : Int32) (T' : zT) : Prop := (T.1 + 20 ≤ 900 ∧ v = nI (T.1 + 20) ∧ T' = fdT T a b c e g) ∨ (¬ T.1 + 20 ≤ 900 ∧ v = -1 ∧ T' = T)
theorem zOk_tape {T T' : zT} {to : Bool} {K : Nat → Nat} {P : zP} {tr : Nat} {f : zF} (h : zOk T to K P tr f) (h1 : T'.1 ≤ 900) (h2 : ∀ k, k < T'.1 → T'.2 k < 256) : zOk T' to K P tr f := ⟨h1, h2, h.2.2⟩
theorem fdT_lt {T : zT} {a b c e g : Int32} (h : ∀ k, k < T.1 → T.2 k < 256) (k : Nat) : (fdT T a b c e g).2 k < 256 := by
  show (if k < T.1 then T.2 k else _) < 256
  split
  · rename_i hk; exact h k hk
  · exact byt_lt _ _
section FD
variable {d n1 n2 : Nat} {fl : Nat → Bool} {p q : Bool} {ad : Nat → Nat} {J : mmJ} {Q : mmQ} {T : zT} {to : Bool} {K : Nat → Nat} {P : zP} {tr l : Nat} {f : zF} {I : mmI}
theorem MI_tape {T' : zT} {I' : mmI} (h : MI T to K P tr f I) (hf : fr [(46, [0, 2]), (47, [])] I I') (h1 : T'.1 ≤ 900) (h2 : ∀ k, k < T'.1 → T'.2 k < 256) (h3 : I' 46 2 = nI T'.1) (h4 : ∀ k, k < T'.1 → I' 47 k = nI (T'.2 k)) : MI T' to K P tr f I' := by
  obtain ⟨a1, a2, a3, a4, a5, a6, a7, a8, a9, a10, a11, a12⟩ := h
  refine ⟨zOk_tape a1 h1 h2, h3, h4, by rw [hf 46 9 rfl]; exact a4, fun z => by rw [hf 46 10 rfl]; exact a5 z, by rw [hf 46 11 rfl]; exact a6, by rw [hf 46 14 rfl]; exact a7, by rw [hf 46 19 rfl]; exact a8, by rw [hf 46 20 rfl]; exact a9, fun j hj => by rw [hf 55 j rfl]; exact a10 j hj, fun j hj => by rw [hf 56 j rfl]; exact a11 j hj, fun z => ?_⟩
  obtain ⟨⟨R, r1, r2⟩, b2, b3, b4, b5⟩ := a12 z
  exact ⟨⟨R, r1, r2.of (fun k _ => hf 49 k rfl) (fun k => hf 53 k rfl) (fun k => hf 54 k rfl)⟩, by rw [hf 46 17 rfl]; exact b2, by rw [hf 46 18 rfl]; exact b3, fun k hk => by rw [hf 51 _ rfl, hf 51 _ rfl]; exact b4 k hk, fun k hk => by rw [hf 52 _ rfl, hf 52 _ rfl]; exact b5 k hk⟩
theorem md_172 {a b c e g : Int32} (h : MI T to K P tr f I) (k : ∀ I' v T', frM I I' → MI T' to K P tr f I' → ra_feed T a b c e g v T' → Q (some (.int v)) ((fl, n1, n2, p, q, ad), I', J)) : mm_wc (d + 1) 172 [.ref 46, .int a, .int b, .int c, .int e, .int g] ((fl, n1, n2, p, q, ad), I, J) Q := by
  have h1 := h.1.1
  have h2 := h.2.1
  refine fx_172 ?_
  rw [h2, z_add, z_le (by omega) (by decide)]
  refine ⟨fun e1 => ?_, fun e1 => k _ _ _ (frM.rf.up (by decide) (by decide)) (h.th _) (.inr ⟨e1, rfl, rfl⟩)⟩
  have lp : ∀ m j, m + j = 20 → ∀ I', fr [(46, [0, 2]), (47, [])] I I' → I' 46 2 = nI (T.1 + j) → (∀ i, i < T.1 + j → I' 47 i = nI ((fdT T a b c e g).2 i)) → mm_w Q (mm_wc d) bk_172 23 [some (.ref 46), some (.int a), some (.int b), some (.int c), some (.int e), some (.int g), some (.int (nI j)), none] [] ((fl, n1, n2, p, q, ad), I', J) := by
    intro m
    induction m with
    | zero =>
      intro j hj I' hf g1 g2
      have : j = 20 := by omega
      subst this
      refine fx_172_23 ⟨fun _ => ?_, fun z => absurd (by rw [z_le (by decide) (by decide)]; omega) z⟩
      rw [g1]
      exact k I' _ _ (hf.M rfl) (MI_tape h hf e1 (fun i _ => fdT_lt h.1.2.1 i) g1 g2) (.inl ⟨e1, rfl, rfl⟩)
    | succ m ih =>
      intro j hj I' hf g1 g2
      have e4 : nI 24 - nI 8 * (nI j - nI j / nI 4 * nI 4) = nI (24 - 8 * (j % 4)) := by
        rw [z_rem (by omega) (by decide) (by decide), z_mul, z_sub (by omega)]
      have hv : vp_in (nI (T.1 + j)) 900 := z_in (by omega) (by decide)
      have nxt : ∀ w, w = wd5 a b c e g j → vp_in (nI (T.1 + j)) 900 ∧ mm_w Q (mm_wc d) bk_172 23 [some (.ref 46), some (.int a), some (.int b), some (.int c), some (.int e), some (.int g), some (.int (nI (j + 1))), none] [] ((fl, n1, n2, p, q, ad), mm_up (mm_up I' 47 (T.1 + j) (nI (byt w (24 - 8 * (j % 4))))) 46 2 (nI (T.1 + j + 1)), J) := by
        intro w hw
        refine ⟨hv, ih (j + 1) (by omega) _ ((hf.up rfl).up rfl) (up_s _ _ _ _) (fun i hi => ?_)⟩
        rw [up_c (by decide)]
        by_cases ei : i = T.1 + j
        · subst ei
          rw [up_s]
          show _ = nI (if T.1 + j < T.1 then _ else _)
          rw [if_neg (by omega), show T.1 + j - T.1 = j by omega, hw]
        · rw [up_k ei]; exact g2 i (by omega)
      refine fx_172_23 ?_
      rw [g1, z_ix (by omega), e4]
      have e255 : (24 - 8 * (j % 4)) ≤ 24 := by omega
      simp only [byt_m _ e255, z_add]
      rw [z_le (by decide) (by omega), z_le (by decide) (by omega), z_le (by decide) (by omega), z_le (by decide) (by omega), z_le (by decide) (by omega)]
      refine ⟨fun z => absurd z (by omega), fun _ => ⟨fun y4 => ⟨fun y8 => ⟨fun y12 => ⟨fun y16 => nxt g ?_, fun y16 => nxt e ?_⟩, fun y12 => nxt c ?_⟩, fun y8 => nxt b ?_⟩, fun y4 => nxt a ?_⟩⟩
      · unfold wd5; rw [if_neg (by omega), if_neg (by omega), if_neg (by omega), if_neg (by omega)]
      · unfold wd5; rw [if_neg (by omega), if_neg (by omega), if_neg (by omega), if_pos (by omega)]
      · unfold wd5; rw [if_neg (by omega), if_neg (by omega), if_pos (by omega)]
      · unfold wd5; rw [if_neg (by omega), if_pos (by omega)]
      · unfold wd5; rw [if_pos (by omega)]
  exact lp 20 0 rfl _ (fr.rf.up rfl) (by rw [up_k (by decide)]; exact h2) (fun i hi => by
    rw [up_c (by decide), h.2.2.1 i (by omega)]
    show _ = nI (if i < T.1 then _ else _)
    rw [if_pos (by omega)])
abbrev taS : List (Nat × List Nat) := [(1, [1]), (2, [])]
theorem ct_57 {w : Int32} {t : Nat} (ht : t + 4 ≤ 900) (h1 : I 1 1 = nI t) (k : ∀ I', fr taS I I' → I' 1 1 = nI (t + 4) → (∀ i, i < t → I' 2 i = I 2 i) → (∀ i, i < 4 → I' 2 (t + i) = by8 (byt w (24 - 8 * i))) → Q none ((fl, n1, n2, p, q, ad), I', J)) : mm_wc (d + 1) 57 [.ref 1, .int w] ((fl, n1, n2, p, q, ad), I, J) Q := by
  have step : ∀ (s s' : Int32) (n j : Nat) (I' : mmI), s = nI n → n < 32 → s + (-8) = s' → t + j < 900 → I' 1 1 = nI (t + j) → mm_w Q (mm_wc d) bk_57 3 [some (.ref 1), some (.int w), some (.int s')] [] ((fl, n1, n2, p, q, ad), mm_up (mm_up I' 2 (t + j) (by8 (byt w n))) 1 1 (nI (t + j + 1)), J) → mm_w Q (mm_wc d) bk_57 3 [some (.ref 1), some (.int w), some (.int s)] [] ((fl, n1, n2, p, q, ad), I', J) := by
    intro s s' n j I' hs hn hs' hj g1 kk
    refine fx_57_3 ?_
    rw [hs'] 
    rw [hs, g1, byt_c w hn, z_lt (by omega) (by decide), z_le (by decide) (by omega), z_ix (by omega), z_add]
    exact ⟨fun z => absurd z (by omega), fun _ => ⟨fun z => absurd z (by omega), fun _ => ⟨z_in hj (by decide), kk⟩⟩⟩
  refine fx_57 (step (nI 24) (nI 16) 24 0 I rfl (by decide) (by decide) (by omega) h1 ?_)
  refine step (nI 16) (nI 8) 16 1 _ rfl (by decide) (by decide) (by omega) (up_s _ _ _ _) ?_
  refine step (nI 8) (nI 0) 8 2 _ rfl (by decide) (by decide) (by omega) (up_s _ _ _ _) ?_
  refine step (nI 0) (-8) 0 3 _ rfl (by decide) (by decide) (by omega) (up_s _ _ _ _) ?_
  refine fx_57_3 ⟨fun _ => ?_, fun z => absurd (by decide) z⟩
  refine k _ ((((((((fr.rf.up rfl).up rfl).up rfl).up rfl).up rfl).up rfl).up rfl).up rfl) (up_s _ _ _ _) (fun i hi => ?_) (fun i hi => ?_)
  · simp (disch := omega) only [up_c, up_k]
  · have : i = 0 ∨ i = 1 ∨ i = 2 ∨ i = 3 := by omega
    rcases this with rfl | rfl | rfl | rfl <;> simp (disch := omega) only [up_c, up_k, up_s]
theorem CC_tape {T' : zT} {I' : mmI} (h : CC T to K P tr f p q l I) (hf : fr taS I I') (h1 : T'.1 ≤ 900) (h2 : ∀ k, k < T'.1 → T'.2 k < 256) (h3 : I' 1 1 = nI T'.1) (h4 : ∀ k, k < T'.1 → I' 2 k = by8 (T'.2 k)) : CC T' to K P tr f p q l I' := by
  obtain ⟨a1, a2, a3, a4, a5, a6, a7, a8, a9, a10, a11, a12, a13, a14, a15, a16, a17, a18⟩ := h
  have ock : ∀ c j k, j < 14 → I' (mm_ck c j) k = I (mm_ck c j) k := fun c j k hj => hf.ck rfl c hj k
  exact ⟨zOk_tape a1 h1 h2, by rw [hf 0 1 rfl]; exact a2, by rw [hf 0 7 rfl]; exact a3, by rw [hf 0 8 rfl]; exact a4, fun z => by rw [hf 0 9 rfl]; exact a5 z, h3, h4, fun c => by rw [ock c 1 0 (by decide), ock c 5 0 (by decide), ock c 8 0 (by decide)]; exact a8 c, a9, by rw [hf 15 2 rfl]; exact a10, by rw [hf 15 4 rfl]; exact a11, fun k hk => by rw [hf 16 k rfl]; exact a12 k hk, fun k hk => by rw [hf 17 k rfl]; exact a13 k hk, fun z => ⟨by rw [hf 15 0 rfl]; exact (a14 z).1, (a14 z).2.1.fr hf rfl, (a14 z).2.2.fr hf rfl rfl rfl rfl⟩, by rw [hf 6 13 rfl]; exact a15, by rw [hf 6 1 rfl]; exact a16, a17, ⟨fun j hj => by rw [hf 66 j rfl]; exact a18.1 j hj, fun j hj => by rw [hf 67 j rfl]; exact a18.2 j hj⟩⟩
variable {b0 b1 b2 : Bool}
theorem cd_111 {a b c e g : Int32} (h : CC T to K P tr f p q l I) (k : ∀ I' v T', fr taS I I' → CC T' to K P tr f p q l I' → ra_feed T a b c e g v T' → Q (some (.int v)) ((mm_fl b0 b1 b2, n1, n2, p, q, ad), I', J)) : mm_wc (d + 2) 111 [.ref 0, .int a, .int b, .int c, .int e, .int g] ((mm_fl b0 b1 b2, n1, n2, p, q, ad), I, J) Q := by
  have h1 := h.1.1
  have h2 := h.2.2.2.2.2.1
  have h3 := h.2.2.2.2.2.2.1
  refine fx_111 (fx_56 ?_)
  rw [h2, z_add, z_lt (by decide) (by omega)]
  refine ⟨fun e1 => ⟨_, _, _, rfl, rfl, fun z => absurd rfl z, fun _ => k I _ _ fr.rf h (.inr ⟨by omega, rfl, rfl⟩)⟩, fun e1 => ⟨_, _, _, rfl, rfl, fun _ => ?_, fun z => absurd z n10⟩⟩
  refine ct_57 (t := T.1) (by omega) h2 (fun I1 f1 p1 q1 r1 => ⟨_, _, rfl, rfl, ?_⟩)
  refine ct_57 (t := T.1 + 4) (by omega) p1 (fun I2 f2 p2 q2 r2 => ⟨_, _, rfl, rfl, ?_⟩)
  refine ct_57 (t := T.1 + 4 + 4) (by omega) p2 (fun I3 f3 p3 q3 r3 => ⟨_, _, rfl, rfl, ?_⟩)
  refine ct_57 (t := T.1 + 4 + 4 + 4) (by omega) p3 (fun I4 f4 p4 q4 r4 => ⟨_, _, rfl, rfl, ?_⟩)
  refine ct_57 (t := T.1 + 4 + 4 + 4 + 4) (by omega) p4 (fun I5 f5 p5 q5 r5 => ⟨_, _, rfl, rfl, ?_⟩)
  rw [p5]
  have fA : fr taS I I5 := (((f1.tr f2).tr f3).tr f4).tr f5
  refine k I5 _ (fdT T a b c e g) fA (CC_tape h fA (by show T.1 + 20 ≤ 900; omega) (fun i _ => fdT_lt h.1.2.1 i) p5 (fun i hi => ?_)) (.inl ⟨by omega, rfl, rfl⟩)
  have hi : i < T.1 + 20 := hi
  show _ = by8 (if i < T.1 then _ else _)
  by_cases c0 : i < T.1
  · rw [if_pos c0, q5 i (by omega), q4 i (by omega), q3 i (by omega), q2 i (by omega), q1 i (by omega)]; exact h3 i c0
  · rw [if_neg c0]
    obtain ⟨j, rfl⟩ : ∃ j, i = T.1 + j := ⟨i - T.1, by omega⟩
    rw [show T.1 + j - T.1 = j by omega]
    unfold wd5
    by_cases c1 : j < 4
    · rw [if_pos c1, q5 _ (by omega), q4 _ (by omega), q3 _ (by omega), q2 _ (by omega), r1 j c1, show j % 4 = j by omega]
    · by_cases c2 : j < 8
      · have := r2 (j - 4) (by omega)
        rw [show T.1 + 4 + (j - 4) = T.1 + j by omega] at this
        rw [if_neg c1, if_pos c2, q5 _ (by omega), q4 _ (by omega), q3 _ (by omega), this, show j % 4 = j - 4 by omega]
      · by_cases c3 : j < 12
        · have := r3 (j - 8) (by omega)
          rw [show T.1 + 4 + 4 + (j - 8) = T.1 + j by omega] at this
          rw [if_neg c1, if_neg c2, if_pos c3, q5 _ (by omega), q4 _ (by omega), this, show j % 4 = j - 8 by omega]
        · by_cases c4 : j < 16
          · have := r4 (j - 12) (by omega)
            rw [show T.1 + 4 + 4 + 4 + (j - 12) = T.1 + j by omega] at this
            rw [if_neg c1, if_neg c2, if_neg c3, if_pos c4, q5 _ (by omega), this, show j % 4 = j - 12 by omega]
          · have := r5 (j - 16) (by omega)
            rw [show T.1 + 4 + 4 + 4 + 4 + (j - 16) = T.1 + j by omega] at this
            rw [if_neg c1, if_neg c2, if_neg c3, if_neg c4, this, show j % 4 = j - 16 by omega]
theorem cd_150 {x : Int32} (h : CC T to K P tr f p q l I) (k : ∀ v, va_size T to K P x v → Q (some (.int v)) ((mm_fl b0 b1 b2, n1, n2, p, q, ad), I, J)) : mm_wc (d + 2) 150 [.ref 0, .int x] ((mm_fl b0 b1 b2, n1, n2, p, q, ad), I, J) Q := by
  obtain ⟨-, -, -, -, -, a6, -, -, -, a10, a11, -⟩ := id h
  have lo : x.toInt < 8 ∨ 10 < x.toInt → ∀ v, va_size T to K P x v → Q (some (.int v)) ((mm_fl b0 b1 b2, n1, n2, p, q, ad), I, J) := fun _ => k
  refine fx_150 ⟨fun e => fx_152 ?_, fun e => ?_, fun e => ?_, fun e => ?_⟩
  · have n10' : x ≠ nI 10 := fun z => by
      rw [z, nI_toInt (by decide)] at e; omega
    have bad : ¬ ix 10 x → Q (some (.int (-1))) ((mm_fl b0 b1 b2, n1, n2, p, q, ad), I, J) := fun hn => k _ (.inr (.inl ⟨n10', hn, rfl⟩))
    rcases z_ca x with z | ⟨a, ha, rfl⟩
    · exact ⟨fun _ => ⟨_, _, _, rfl, rfl, bad (by rintro ⟨c, hc, rfl⟩; rw [z_lt (by omega) (by decide)] at z; omega)⟩, fun y => absurd z y⟩
    · rw [nI_toInt ha] at e
      rw [z_lt ha (by decide), z_le ha (by decide), h.told, bI_0, nI_toInt ha]
      refine ⟨fun z => absurd z (by omega), fun _ => ⟨fun a7 => ⟨fun et => ?_, fun et => ⟨_, _, _, rfl, rfl, k _ (.inr (.inr (.inl ⟨⟨a, by omega, rfl⟩, et, rfl⟩)))⟩⟩, fun a7 => ⟨_, _, _, rfl, rfl, bad (by rintro ⟨c, hc, ec⟩; rw [z_eq ha (by omega)] at ec; omega)⟩⟩⟩
      have ht : to = true := by simpa using et
      obtain ⟨ok, c1, c2, c3, c4, c5, c6, c7, c8, -⟩ := h.cake ht
      have S := fun v hv => k v (.inr (.inr (.inr ⟨ht, hv⟩)))
      have o7 := ok.2.2.2.2.2.2.1
      rw [c1, c2, c3, c4, c5, c6, c7, c8, z_eq (by omega) (by decide)]
      have ea : ∀ n : Nat, (a : Int) = n → a = n := fun n hn => by omega
      refine ⟨fun y => ⟨_, _, _, rfl, rfl, S _ (.inr (.inr (.inr (.inr (.inr (.inr (.inr (.inl ⟨by rw [show a = 7 by omega], rfl⟩))))))))⟩, fun y => ⟨_, _, _, rfl, rfl, S _ (.inl ⟨by rw [ea 0 y], rfl⟩)⟩, fun y => ⟨_, _, _, rfl, rfl, S _ (.inr (.inl ⟨by rw [ea 1 y], rfl⟩))⟩, fun y => ⟨_, _, _, rfl, rfl, S _ (.inr (.inr (.inl ⟨by rw [ea 2 y], rfl⟩)))⟩, fun y => ⟨_, _, _, rfl, rfl, S _ (.inr (.inr (.inr (.inl ⟨by rw [ea 3 y], rfl⟩))))⟩, fun y => ⟨_, _, _, rfl, rfl, S _ (.inr (.inr (.inr (.inr (.inl ⟨by rw [ea 4 y], rfl⟩)))))⟩, fun y => ⟨_, _, _, rfl, rfl, S _ (.inr (.inr (.inr (.inr (.inr (.inl ⟨by rw [ea 5 y], rfl⟩))))))⟩, fun y => ⟨fun y0 => ⟨_, _, _, rfl, rfl, S _ (.inr (.inr (.inr (.inr (.inr (.inr (.inl ⟨by rw [ea 6 y], by rw [y0]⟩)))))))⟩, fun y0 => ⟨_, _, _, rfl, rfl, S _ (.inr (.inr (.inr (.inr (.inr (.inr (.inl ⟨by rw [ea 6 y], by rw [show K 7 = 1 by omega]⟩)))))))⟩⟩⟩
  · have hx : x = nI 8 := ti (by decide) e
    rw [a10]
    cases hto : to
    · refine k _ (.inr (.inr (.inl ⟨⟨8, by decide, hx⟩, hto, ?_⟩)))
      rw [(h.1.2.2.2.2.1 hto).1]
    · exact k _ (.inr (.inr (.inr ⟨hto, .inr (.inr (.inr (.inr (.inr (.inr (.inr (.inr (.inl ⟨hx, rfl⟩))))))))⟩)))
  · have hx : x = nI 9 := ti (by decide) e
    rw [a11]
    cases hto : to
    · refine k _ (.inr (.inr (.inl ⟨⟨9, by decide, hx⟩, hto, ?_⟩)))
      rw [(h.1.2.2.2.2.1 hto).2]
    · exact k _ (.inr (.inr (.inr ⟨hto, .inr (.inr (.inr (.inr (.inr (.inr (.inr (.inr (.inr ⟨hx, rfl⟩))))))))⟩)))
  · rw [a6]
    exact k _ (.inl ⟨ti (by decide) e, rfl⟩)
end FD
