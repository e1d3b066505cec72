/-! the model's calls that act: blow, light, all, undo, image, back, led -/
def ra_blow (to : Bool) (K : Nat → Nat) (P : zP) (x v : Int32) (P' : zP) (t : Nat) : Prop := (∃ b, to = true ∧ b < nB K ∧ x = nI b ∧ v = nI (zcnt (cstp K 0 0 (fanK K b) P.1 / 8)) ∧ P' = pAct P (cstp K 0 0 (fanK K b) P.1) ∧ t = 0) ∨ (¬ (to = true ∧ ix (nB K) x) ∧ v = -1 ∧ P' = P ∧ t = 1)
def zlit (m c : Nat) : Nat := (m / 8 ||| 2 ^ c) * 8 + m % 8
def ra_light (to : Bool) (K : Nat → Nat) (P : zP) (x v : Int32) (P' : zP) (t : Nat) : Prop := (∃ c, to = true ∧ c < K 3 ∧ x = nI c ∧ (P.1 / 8).testBit c = false ∧ v = nI 1 ∧ P' = pAct P (zlit P.1 c) ∧ t = 0) ∨ (∃ c, to = true ∧ c < K 3 ∧ x = nI c ∧ (P.1 / 8).testBit c = true ∧ v = nI 0 ∧ P' = P ∧ t = 5) ∨ (¬ (to = true ∧ ix (K 3) x) ∧ v = nI 0 ∧ P' = P ∧ t = 1)
def zall (K : Nat → Nat) : Nat := (2 ^ K 3 - 1) * 8
def ra_all (to : Bool) (K : Nat → Nat) (P : zP) (v : Int32) (P' : zP) (t : Nat) : Prop := (to = true ∧ v = nI 1 ∧ P' = pAct P (zall K) ∧ t = 0) ∨ (to = false ∧ v = nI 0 ∧ P' = P ∧ t = 1)
def ra_undo (P : zP) (v : Int32) (P' : zP) (t : Nat) : Prop := (P.2.1 ≠ 0 ∧ v = nI 1 ∧ P' = (P.2.2.1 (P.2.1 - 1), P.2.1 - 1, P.2.2) ∧ t = 0) ∨ (P.2.1 = 0 ∧ v = nI 0 ∧ P' = P ∧ t = 6)
def ra_image (to : Bool) (P : zP) (v : Int32) (P' : zP) (t : Nat) : Prop := (to = true ∧ P.2.2.2.1 ≠ 3 ∧ v = nI P.2.2.2.1 ∧ P' = (P.1, P.2.1, P.2.2.1, P.2.2.2.1 + 1, ap P.2.2.2.2 P.2.2.2.1 P.1) ∧ t = 0) ∨ (to = true ∧ P.2.2.2.1 = 3 ∧ v = -1 ∧ P' = P ∧ t = 3) ∨ (to = false ∧ v = -1 ∧ P' = P ∧ t = 1)
def ra_back (P : zP) (x v : Int32) (P' : zP) (t : Nat) : Prop := (∃ j, j < P.2.2.2.1 ∧ x = nI j ∧ v = nI 1 ∧ P' = (P.2.2.2.2 j, 0, P.2.2) ∧ t = 0) ∨ (¬ ix P.2.2.2.1 x ∧ v = nI 0 ∧ P' = P ∧ t = 1)
/-- how many of those below c are out -/
def nout (m c : Nat) : Nat := cntB (fun i => !(m / 8).testBit i) c
def ra_led (to : Bool) (K : Nat → Nat) (P : zP) (x v : Int32) (th : Nat) : Prop := (∃ c, to = true ∧ c < K 3 ∧ (P.1 / 8).testBit c = false ∧ x = nI (nout P.1 c) ∧ v = nI c ∧ th = 0) ∨ ((∀ c, to = true → c < K 3 → (P.1 / 8).testBit c = false → x ≠ nI (nout P.1 c)) ∧ v = nI 0 ∧ th = 1)
theorem zlit_vm {K : Nat → Nat} {m c : Nat} (h : vm K False m) (hc : c < K 3) : vm K False (zlit m c) := by
  have e1 : zlit m c / 8 = m / 8 ||| 2 ^ c := by unfold zlit; omega
  have e2 : zlit m c % 8 = m % 8 := by unfold zlit; omega
  unfold vm
  rw [e1, e2]
  refine ⟨fun i hi => ?_, h.2.1, fun i hi => by rw [Nat.testBit_or, h.2.2 i hi]; rfl⟩
  rw [Nat.testBit_or, tb_2pow, Bool.or_eq_true, decide_eq_true_eq] at hi
  rcases hi with z | z
  · exact h.1 i z
  · subst z; exact .inl hc
theorem zall_vm (K : Nat → Nat) : vm K False (zall K) := by
  have e1 : zall K / 8 = 2 ^ K 3 - 1 := by unfold zall; omega
  have e2 : zall K % 8 = 0 := by unfold zall; omega
  unfold vm
  rw [e1, e2]
  have ez : dzs (ofK K 3) (K 3) 0 = 0 := by
    apply Nat.eq_of_testBit_eq
    intro i
    rw [dzs_tb]; simp
  have ec : cde (ofK K 3) 0 (K 3) = 0 := by
    apply Nat.eq_of_testBit_eq
    intro t
    rw [Nat.zero_testBit]
    cases hb : (cde (ofK K 3) 0 (K 3)).testBit t
    · rfl
    · obtain ⟨c, -, -, h4, -⟩ := (cde_tb _ _ _ _).mp hb
      rw [Nat.zero_testBit] at h4; cases h4
  refine ⟨fun i hi => ?_, by rw [ez, ec], fun c hc => by rw [ez, Nat.zero_testBit] at hc; cases hc⟩
  rw [Nat.testBit_two_pow_sub_one] at hi
  exact .inl (by simpa using hi)
theorem dzK_all (K : Nat → Nat) : dzK K (zall K) = 0 := by
  unfold dzK
  rw [show zall K % 8 = 0 by unfold zall; omega]
  apply Nat.eq_of_testBit_eq
  intro i
  rw [dzs_tb]; simp
section MB2
variable {d n1 n2 : Nat} {fl : Nat → Bool} {p q : Bool} {ad : Nat → Nat} {J : mmJ} {Q : mmQ} {T : zT} {to : Bool} {K : Nat → Nat} {P : zP} {tr : Nat} {f : zF} {I : mmI}
theorem MI.now {m : Nat} {I' : mmI} (h : MI T to K P tr f I) (ht : to = true) (hf : fr [(46, [17, 18, 27])] I I') (hv : vm K False m) (h17 : I' 46 17 = nI (m / 8)) (h18 : I' 46 18 = nI (dzK K m)) : MI T to K (m, P.2) tr f I' := by
  obtain ⟨v1, v2, v3⟩ := h.vms ht
  obtain ⟨m1, m2, m3, m4⟩ := h.mem ht
  refine h.past ht (hf.sub rfl) ⟨hv, v2, v3⟩ h.1.2.2.1 h.1.2.2.2.1 ?_ ?_ h17 h18 (fun k hk => ?_) (fun k hk => ?_)
  · rw [hf 46 19 rfl]; exact h.2.2.2.2.2.2.2.1
  · rw [hf 46 20 rfl]; exact h.2.2.2.2.2.2.2.2.1
  · rw [hf 51 _ rfl, hf 51 _ rfl]; exact m3 k hk
  · rw [hf 52 _ rfl, hf 52 _ rfl]; exact m4 k hk
theorem md_230 {x : Int32} (h : MI T to K P tr f I) (k : ∀ I' v P' t, frM I I' → MI T to K P' t f I' → ra_blow to K P x v P' t → Q (some (.int v)) ((fl, n1, n2, p, q, ad), I', J)) : mm_wc (d + 3) 230 [.ref 46, .int x] ((fl, n1, n2, p, q, ad), I, J) Q := by
  refine fx_230 (ct_166 h (fun I1 f1 h1 => ⟨_, _, rfl, rfl, ?_⟩))
  refine ct_204 h1 (fun b ht hb eb => ⟨_, _, _, rfl, rfl, fun _ => ?_, fun z => absurd z n10⟩) (fun hn => ⟨_, _, _, rfl, rfl, fun z => absurd rfl z, fun _ => ct_167 h1 (by decide) (by decide) (fun I' f' h' => ⟨_, _, _, rfl, rfl, k I' _ _ _ (f1.tr f') h' (.inr ⟨hn, rfl, rfl, rfl⟩)⟩)⟩)
  refine ct_229 h1 ht (fun I2 f2 h2 => ⟨_, _, rfl, rfl, ?_⟩)
  obtain ⟨ok, R, ag, mb⟩ := h2.cake ht
  refine ct_224 mb.1 ⟨_, _, rfl, rfl, ?_⟩
  have hB := nB_le ok
  have h3 := ok.c
  have e3 := ag 3 (by decide) (by decide) (by decide)
  have eK3 := ofK_ag ag ok 3
  have m1 : I2 46 17 = nI (P.1 / 8) := (h2.mem ht).1
  have m2 : I2 46 18 = nI (dzs (ofK R 3) (R 3) (P.1 % 8)) := by rw [eK3, e3]; exact (h2.mem ht).2.1
  have hv : vm K False P.1 := (h2.vms ht).1
  have hmb : mB (mm_up I2 46 27 (nI (2 ^ R 3 - 1 ||| 1024))) R := mb.of (fun k _ => up_c (by decide)) (fun k => up_c (by decide)) (fun k => up_c (by decide))
  rw [eb, z_ix (by omega), hmb.2.1 b (by rw [agR_nB ag]; exact hb), up_k (by decide), up_k (by decide), m1, m2]
  refine ⟨z_in (by omega) (by decide), ?_⟩
  refine ct_212 hmb.1 hmb.2.2 (fun c _ => bset_lt _ _) (up_s _ _ _ _) ⟨_, _, _, rfl, rfl, ?_⟩
  have hm11 := hv.lt ok
  have hz := zcK ag ok (ms := 0) (th := 2 ^ R 3 - 1 ||| 1024) hb hv (fun i _ => Nat.zero_testBit i) (fun i hi => by rw [e3, th_tb hi]; simp)
  obtain ⟨d1, d2⟩ := zstp_d mb.1.1 (th := 2 ^ R 3 - 1 ||| 1024) (N := nearM R 11) (f := fanM R 11 b) (m := P.1)
  have hdz : dzK K (zstp R (2 ^ R 3 - 1 ||| 1024) (nearM R 11) (fanM R 11 b) P.1) = bH (ofK R 3 &&& (2 ^ R 3 - 1 ||| 1024)) (P.1 / 8) (dzs (ofK R 3) (R 3) (P.1 % 8)) (fanM R 11 b) := by
    unfold dzK
    rw [d2, eK3, e3]
    have hhs := bH_sub (ofK K 3 &&& (2 ^ K 3 - 1 ||| 1024)) (P.1 / 8) (dzs (ofK K 3) (K 3) (P.1 % 8)) (fanM R 11 b)
    refine dzs_cde (fun c hc => ?_)
    have := (hhs c hc).2.2.1
    rw [Nat.testBit_and, Bool.and_eq_true] at this
    exact ⟨lt_of_tb (ofK_lt K 3) this.1, this.1⟩
  have hlt := zbn_lt mb.1.1 (th := 2 ^ R 3 - 1 ||| 1024) (N := nearM R 11) (f := fanM R 11 b) (z := dzs (ofK R 3) (R 3) (P.1 % 8)) hm11 (by omega)
  have hhl := bH_le (ofK R 3 &&& (2 ^ R 3 - 1 ||| 1024)) (P.1 / 8) (dzs (ofK R 3) (R 3) (P.1 % 8)) (fanM R 11 b)
  rw [or_mul (k := 14) (by omega)]
  rw [← d1, ← hdz]
  have hh2 : dzK K (zstp R (2 ^ R 3 - 1 ||| 1024) (nearM R 11) (fanM R 11 b) P.1) < 2 ^ 11 := by rw [hdz]; omega
  rw [← d1] at hlt
  rw [hz] at *
  have hvm : vm K False (cstp K 0 0 (fanK K b) P.1) := cstp_vm ok hv (fun i hi => by rw [Nat.zero_testBit] at hi; cases hi)
  generalize hm' : cstp K 0 0 (fanK K b) P.1 = m' at *
  refine ct_213 ⟨_, _, _, rfl, rfl, ?_⟩
  rw [show (m' / 8 + dzK K m' * 2 ^ 14) % 2 ^ 14 = m' / 8 by omega]
  refine ct_214 (by omega) ⟨_, _, _, rfl, rfl, ?_⟩
  rw [show (m' / 8 + dzK K m' * 2 ^ 14) / 2 ^ 14 = dzK K m' by omega, up_s]
  refine ct_171 (by omega) ⟨_, _, _, rfl, rfl, ?_⟩
  have h3' : MI T to K (m', (pAct P P.1).2) 0 f (mm_up (mm_up (mm_up I2 46 27 (nI (2 ^ R 3 - 1 ||| 1024))) 46 17 (nI (m' / 8))) 46 18 (nI (dzK K m'))) := h2.now ht (((fr.rf.up rfl).up rfl).up rfl) hvm (by rw [up_k (by decide), up_s]) (up_s _ _ _ _)
  exact k _ _ _ _ (((((f1.tr (f2.M rfl))).up (by decide) (by decide)).up (by decide) (by decide)).up (by decide) (by decide)) h3' (.inl ⟨b, ht, hb, eb, by rw [hm'], by rw [hm']; rfl, rfl⟩)
theorem md_231 {x : Int32} (h : MI T to K P tr f I) (k : ∀ I' v P' t, frM I I' → MI T to K P' t f I' → ra_light to K P x v P' t → Q (some (.int v)) ((fl, n1, n2, p, q, ad), I', J)) : mm_wc (d + 3) 231 [.ref 46, .int x] ((fl, n1, n2, p, q, ad), I, J) Q := by
  refine fx_231 (ct_166 h (fun I1 f1 h1 => ⟨_, _, rfl, rfl, ?_⟩))
  refine ct_201 h1 (fun c ht hc ec => ⟨_, _, _, rfl, rfl, fun _ => ?_, fun z => absurd z n10⟩) (fun hn => ⟨_, _, _, rfl, rfl, fun z => absurd rfl z, fun _ => ct_168 h1 (by decide) (by decide) (fun I' f' h' => ⟨_, _, _, rfl, rfl, .inl rfl, k I' _ _ _ (f1.tr f') h' (.inr (.inr ⟨hn, rfl, rfl, rfl⟩))⟩)⟩)
  obtain ⟨ok, -⟩ := h1.cake ht
  have h3 := ok.c
  obtain ⟨m1, m2, -, -⟩ := h1.mem ht
  have hv := (h1.vms ht).1
  have hm11 := hv.lt ok
  rw [m1, ec]
  refine ct_170 (by omega) (by omega) ⟨_, _, _, rfl, rfl, ?_⟩
  rw [bI_0]
  refine ⟨fun e => ct_229 h1 ht (fun I2 f2 h2 => ⟨_, _, rfl, rfl, ?_⟩), fun e => ct_168 h1 (by decide) (by decide) (fun I' f' h' => ⟨_, _, _, rfl, rfl, .inl rfl, k I' _ _ _ (f1.tr f') h' (.inr (.inl ⟨c, ht, hc, ec, by simpa using e, rfl, rfl, rfl⟩))⟩)⟩
  obtain ⟨g1, g2, -, -⟩ := h2.mem ht
  rw [g1, z_bit (by omega), z_or]
  have e1 : zlit P.1 c / 8 = P.1 / 8 ||| 2 ^ c := by unfold zlit; omega
  have e2 : dzK K (zlit P.1 c) = dzK K P.1 := by unfold dzK; rw [show zlit P.1 c % 8 = P.1 % 8 by unfold zlit; omega]
  have h3' : MI T to K (zlit P.1 c, (pAct P P.1).2) 0 f (mm_up I2 46 17 (nI (P.1 / 8 ||| 2 ^ c))) := h2.now ht (fr.rf.up rfl) (zlit_vm hv hc) (by rw [up_s, e1]) (by rw [up_k (by decide), e2]; exact g2)
  exact k _ _ _ _ ((f1.tr (f2.M rfl)).up (by decide) (by decide)) h3' (.inl ⟨c, ht, hc, ec, e, rfl, rfl, rfl⟩)
theorem md_232 (h : MI T to K P tr f I) (k : ∀ I' v P' t, frM I I' → MI T to K P' t f I' → ra_all to K P v P' t → Q (some (.int v)) ((fl, n1, n2, p, q, ad), I', J)) : mm_wc (d + 3) 232 [.ref 46] ((fl, n1, n2, p, q, ad), I, J) Q := by
  refine fx_232 (ct_166 h (fun I1 f1 h1 => ⟨_, _, rfl, rfl, ?_⟩))
  rw [h1.told, bI_0]
  refine ⟨fun e => ?_, fun e => ct_168 h1 (by decide) (by decide) (fun I' f' h' => ⟨_, _, _, rfl, rfl, .inl rfl, k I' _ _ _ (f1.tr f') h' (.inr ⟨e, rfl, rfl, rfl⟩)⟩)⟩
  have ht : to = true := by simpa using e
  refine ct_229 h1 ht (fun I2 f2 h2 => ⟨_, _, rfl, rfl, ?_⟩)
  obtain ⟨ok, R, ag, mb⟩ := h2.cake ht
  refine ct_205 mb.1 ⟨_, _, _, rfl, rfl, ?_⟩
  rw [ag 3 (by decide) (by decide) (by decide)]
  have h3' : MI T to K (zall K, (pAct P P.1).2) 0 f (mm_up (mm_up I2 46 17 (nI (2 ^ K 3 - 1))) 46 18 (nI 0)) := h2.now ht ((fr.rf.up rfl).up rfl) (zall_vm K) (by rw [up_k (by decide), up_s]; congr 1; unfold zall; omega) (by rw [up_s, dzK_all])
  exact k _ _ _ _ (((f1.tr (f2.M rfl)).up (by decide) (by decide)).up (by decide) (by decide)) h3' (.inl ⟨ht, rfl, rfl, rfl⟩)
theorem md_233 (h : MI T to K P tr f I) (k : ∀ I' v P' t, frM I I' → MI T to K P' t f I' → ra_undo P v P' t → Q (some (.int v)) ((fl, n1, n2, p, q, ad), I', J)) : mm_wc (d + 2) 233 [.ref 46] ((fl, n1, n2, p, q, ad), I, J) Q := by
  refine fx_233 (ct_166 h (fun I1 f1 h1 => ⟨_, _, rfl, rfl, ?_⟩))
  have hna := h1.1.2.2.1
  have h19 := h1.2.2.2.2.2.2.2.1
  rw [h19, z_eq (by omega) (by decide)]
  refine ⟨fun e => ?_, fun e => ct_168 h1 (by decide) (by decide) (fun I' f' h' => ⟨_, _, _, rfl, rfl, .inl rfl, k I' _ _ _ (f1.tr f') h' (.inr ⟨e, rfl, rfl, rfl⟩)⟩)⟩
  have ht : to = true := by
    cases hto : to
    · exact absurd (h1.1.2.2.2.2.1 hto).1 e
    · rfl
  obtain ⟨v1, v2, v3⟩ := h1.vms ht
  obtain ⟨m1, m2, m3, m4⟩ := h1.mem ht
  simp (disch := omega) only [z_sub, z_mul, z_add, z_ix]
  obtain ⟨g1, g2⟩ := m3 (P.2.1 - 1) (by omega)
  rw [g1, g2]
  refine ⟨z_in (by omega) (by decide), z_in (by omega) (by decide), k _ _ (P.2.2.1 (P.2.1 - 1), P.2.1 - 1, P.2.2) _ (((f1.up (by decide) (by decide)).up (by decide) (by decide)).up (by decide) (by decide)) (h1.past ht (((fr.rf.up rfl).up rfl).up rfl) ⟨v2 _ (by omega), fun k hk => v2 k (by have : k < P.2.1 - 1 := hk; omega), v3⟩ (by show P.2.1 - 1 ≤ 20; omega) h1.1.2.2.2.1 ?_ ?_ ?_ ?_ (fun k hk => ?_) (fun k hk => ?_)) (.inl ⟨e, rfl, rfl, rfl⟩)⟩
  · rw [up_k (by decide), up_k (by decide), up_s]
  · rw [up_k (by decide), up_k (by decide), up_k (by decide)]; exact h1.2.2.2.2.2.2.2.2.1
  · rw [up_k (by decide), up_s]
  · rw [up_s]
  · simp (disch := omega) only [up_c]; exact m3 k (by have : k < P.2.1 - 1 := hk; omega)
  · simp (disch := omega) only [up_c]; exact m4 k hk
theorem md_273 (h : MI T to K P tr f I) (k : ∀ I' v P' t, frM I I' → MI T to K P' t f I' → ra_image to P v P' t → Q (some (.int v)) ((fl, n1, n2, p, q, ad), I', J)) : mm_wc (d + 2) 273 [.ref 46] ((fl, n1, n2, p, q, ad), I, J) Q := by
  refine fx_273 (ct_166 h (fun I1 f1 h1 => ⟨_, _, rfl, rfl, ?_⟩))
  have hni := h1.1.2.2.2.1
  have h20 := h1.2.2.2.2.2.2.2.2.1
  rw [h1.told, bI_0, h20, z_eq (by omega) (by decide)]
  refine ⟨fun e => ⟨fun e3 => ?_, fun e3 => ct_167 h1 (by decide) (by decide) (fun I' f' h' => ⟨_, _, _, rfl, rfl, k I' _ _ _ (f1.tr f') h' (.inr (.inl ⟨by simpa using e, e3, rfl, rfl, rfl⟩))⟩)⟩, fun e => ct_167 h1 (by decide) (by decide) (fun I' f' h' => ⟨_, _, _, rfl, rfl, k I' _ _ _ (f1.tr f') h' (.inr (.inr ⟨e, rfl, rfl, rfl⟩))⟩)⟩
  have ht : to = true := by simpa using e
  obtain ⟨v1, v2, v3⟩ := h1.vms ht
  obtain ⟨m1, m2, m3, m4⟩ := h1.mem ht
  simp (disch := omega) only [z_sub, z_mul, z_add, z_ix, Nat.add_sub_cancel]
  refine ⟨z_in (by omega) (by decide), z_in (by omega) (by decide), k _ _ (P.1, P.2.1, P.2.2.1, P.2.2.2.1 + 1, ap P.2.2.2.2 P.2.2.2.1 P.1) _ (((f1.up (by decide) (by decide)).up (by decide) (by decide)).up (by decide) (by decide)) (h1.past ht (((fr.rf.up rfl).up rfl).up rfl) ⟨v1, v2, fun k hk => ?_⟩ h1.1.2.2.1 (by show P.2.2.2.1 + 1 ≤ 3; omega) ?_ ?_ ?_ ?_ (fun k hk => ?_) (fun k hk => ?_)) (.inl ⟨ht, e3, rfl, rfl, rfl⟩)⟩
  · have hk : k < P.2.2.2.1 + 1 := hk
    by_cases ek : k = P.2.2.2.1
    · subst ek
      show vm K False (ap P.2.2.2.2 P.2.2.2.1 P.1 P.2.2.2.1)
      rw [ap_eq]; exact v1
    · show vm K False (ap P.2.2.2.2 P.2.2.2.1 P.1 k)
      rw [ap_lt (by omega)]; exact v3 k (by omega)
  · simp (disch := omega) only [up_k, up_c]; exact h1.2.2.2.2.2.2.2.1
  · rw [up_s]
  · simp (disch := omega) only [up_k, up_c]; exact m1
  · simp (disch := omega) only [up_k, up_c]; exact m2
  · simp (disch := omega) only [up_c]; exact m3 k hk
  · have hk : k < P.2.2.2.1 + 1 := hk
    simp (disch := omega) only [up_c]
    show _ = nI (ap P.2.2.2.2 P.2.2.2.1 P.1 k / 8) ∧ _ = nI (dzK K (ap P.2.2.2.2 P.2.2.2.1 P.1 k))
    by_cases ek : k = P.2.2.2.1
    · subst ek
      rw [ap_eq, up_k (by omega), up_s, up_s]
      exact ⟨m1, m2⟩
    · rw [ap_lt (by omega), up_k (by omega), up_k (by omega), up_k (by omega), up_k (by omega)]
      exact m4 k (by omega)
theorem md_274 {x : Int32} (h : MI T to K P tr f I) (k : ∀ I' v P' t, frM I I' → MI T to K P' t f I' → ra_back P x v P' t → Q (some (.int v)) ((fl, n1, n2, p, q, ad), I', J)) : mm_wc (d + 2) 274 [.ref 46, .int x] ((fl, n1, n2, p, q, ad), I, J) Q := by
  refine fx_274 (ct_166 h (fun I1 f1 h1 => ⟨_, _, rfl, rfl, ?_⟩))
  have hni := h1.1.2.2.2.1
  have h20 := h1.2.2.2.2.2.2.2.2.1
  rw [h20]
  have no : ¬ ix P.2.2.2.1 x → mm_wc (d + 1) 168 [.ref 46, .int (nI 1)] ((fl, 0, 0, p, q, ad), I1, J) (fun v τ => ∃ r3 I3 J3, v = some (.int r3) ∧ τ = ((fl, 0, 0, p, q, ad), I3, J3) ∧ ((r3 = 0 ∨ r3 = 1) ∧ Q (some (.int r3)) ((fl, n1, n2, p, q, ad), I3, J3))) := fun hn => ct_168 h1 (by decide) (by decide) (fun I' f' h' => ⟨_, _, _, rfl, rfl, .inl rfl, k I' _ _ _ (f1.tr f') h' (.inr ⟨hn, rfl, rfl, rfl⟩)⟩)
  by_cases e0 : P.2.2.2.1 = 0
  · rw [e0]
    refine ct_169 ⟨_, _, _, rfl, rfl, ?_⟩
    have : decide (¬ x < nI 0 ∧ ¬ nI 0 - nI 1 < x) = false := by
      apply decide_eq_false
      rintro ⟨z1, z2⟩
      rcases z_ca x with z | ⟨a, ha, rfl⟩
      · exact z1 z
      · apply z2
        rw [Int32.lt_iff_toInt_lt, nI_toInt ha, show (nI 0 - nI 1).toInt = -1 from by decide]
        omega
    rw [this]
    exact ⟨fun z => absurd rfl z, fun _ => no (by rw [e0]; rintro ⟨c, hc, -⟩; omega)⟩
  · refine wi (by omega) (by omega) (fun j hj ej => ⟨_, _, _, rfl, rfl, fun _ => ?_, fun z => absurd z n10⟩) (fun hn => ⟨_, _, _, rfl, rfl, fun z => absurd rfl z, fun _ => no hn⟩)
    have ht : to = true := by
      cases hto : to
      · exact absurd (h1.1.2.2.2.2.1 hto).2 e0
      · rfl
    obtain ⟨v1, v2, v3⟩ := h1.vms ht
    obtain ⟨m1, m2, m3, m4⟩ := h1.mem ht
    obtain ⟨g1, g2⟩ := m4 j hj
    rw [ej]
    simp (disch := omega) only [z_mul, z_add, z_ix]
    rw [g1, g2]
    refine ⟨z_in (by omega) (by decide), z_in (by omega) (by decide), k _ _ (P.2.2.2.2 j, 0, P.2.2) _ (((f1.up (by decide) (by decide)).up (by decide) (by decide)).up (by decide) (by decide)) (h1.past ht (((fr.rf.up rfl).up rfl).up rfl) ⟨v3 j hj, fun k hk => absurd hk (by show ¬ k < 0; omega), v3⟩ (by show 0 ≤ 20; omega) h1.1.2.2.2.1 ?_ ?_ ?_ ?_ (fun k hk => absurd hk (by show ¬ k < 0; omega)) (fun k hk => ?_)) (.inl ⟨j, hj, ej, rfl, rfl, rfl⟩)⟩
    · rw [up_s]
    · simp (disch := omega) only [up_k, up_c]; exact h20
    · simp (disch := omega) only [up_k, up_s]
    · simp (disch := omega) only [up_k, up_s]
    · simp (disch := omega) only [up_c]; exact m4 k hk
theorem md_275 {x : Int32} (h : MI T to K P tr f I) (k : ∀ I' v th, frM I I' → MI T to K P tr f I' → I' 46 0 = nI th → ra_led to K P x v th → Q (some (.int v)) ((fl, n1, n2, p, q, ad), I', J)) : mm_wc (d + 2) 275 [.ref 46, .int x] ((fl, n1, n2, p, q, ad), I, J) Q := by
  have kk : ∀ v th, ra_led to K P x v th → Q (some (.int v)) ((fl, n1, n2, p, q, ad), mm_up I 46 0 (nI th), J) := fun v th hr => k _ v th (frM.rf.up (by decide) (by decide)) (h.th _) (up_s _ _ _ _) hr
  refine fx_275 ?_
  by_cases ht : to = true
  · obtain ⟨ok, R, ag, mb⟩ := h.cake ht
    have h3 := ok.c
    obtain ⟨m1, m2, -, -⟩ := h.mem ht
    have hv := (h.vms ht).1
    have hm11 := hv.lt ok
    have e3 : I 49 3 = nI (K 3) := by rw [mb.1.2 3 (by decide), ag 3 (by decide) (by decide) (by decide)]
    have lp : ∀ m c, m + c = K 3 → (∀ i, i < c → (P.1 / 8).testBit i = false → x ≠ nI (nout P.1 i)) → mm_w Q (mm_wc (d + 1)) bk_275 4 [some (.ref 46), some (.int x), some (.int (nI (nout P.1 c))), some (.int (nI c))] [] ((fl, n1, n2, p, q, ad), I, J) := by
      intro m
      induction m with
      | zero =>
        intro c hc hno
        refine fx_275_4 ?_
        rw [h.told, bI_0, e3, z_le (by omega) (by omega)]
        have fin := kk (nI 0) 1 (.inr ⟨fun i _ hi => hno i (by omega), rfl, rfl⟩)
        exact ⟨fun _ => fin, fun _ => ⟨fun _ => fin, fun e => absurd (by omega) e⟩⟩
      | succ m ih =>
        intro c hc hno
        refine fx_275_4 ?_
        have hnl := cntB_le (fun i => !(P.1 / 8).testBit i) c
        rw [h.told, bI_0, e3, z_le (by omega) (by omega), m1, z_add, z_add]
        refine ⟨fun e => absurd e (by rw [ht]; decide), fun _ => ⟨fun e => absurd e (by omega), fun _ => ct_170 (by omega) (by omega) ⟨_, _, _, rfl, rfl, ?_⟩⟩⟩
        rw [bI_0]
        have en : nout P.1 (c + 1) = nout P.1 c + (!(P.1 / 8).testBit c).toNat := rfl
        refine ⟨fun e => ⟨fun e2 => ?_, fun e2 => kk _ 0 (.inl ⟨c, ht, by omega, e, e2.symm, rfl, rfl⟩)⟩, fun e => ?_⟩
        · have := ih (c + 1) (by omega) (fun i hi hb => ?_)
          · rw [en, e] at this; exact this
          · by_cases ei : i = c
            · subst ei; exact fun z => e2 z.symm
            · exact hno i (by omega) hb
        · have e : (P.1 / 8).testBit c = true := by simpa using e
          have := ih (c + 1) (by omega) (fun i hi hb => ?_)
          · rw [en, e] at this; exact this
          · by_cases ei : i = c
            · subst ei; rw [e] at hb; cases hb
            · exact hno i (by omega) hb
    exact lp (K 3) 0 (by omega) (fun i hi => absurd hi (by omega))
  · have ht' : to = false := by simpa using ht
    refine fx_275_4 ?_
    rw [h.told, bI_0]
    exact ⟨fun _ => kk (nI 0) 1 (.inr ⟨fun c z => absurd z ht, rfl, rfl⟩), fun e => absurd ht' e⟩
end MB2
