/-! the model's from, by, inTime, less, more -/
theorem aP_pl {R K : Nat → Nat} (ok : okR K) (ag : agR R K) {b j : Nat} (hj : j < K 4) (hb : b < nB K) : aP R (-1) (nI j) (-1) (-1) b ↔ b / 16 % K 4 = j := by
  obtain ⟨b1, b2⟩ := bd_ix ok hb
  have h4 := ok.p
  have h6 := ok.h
  have e4 := ag 4 (by decide) (by decide) (by decide)
  unfold aP
  rw [e4, z_m1 (by omega), z_m1 (by omega), z_eq (a := b / 16 % K 4) (b := j) (by omega) (by omega), z_lt (by omega) (by decide)]
  constructor
  · rintro ⟨-, z | z, -⟩
    · omega
    · exact z
  · exact fun z => ⟨.inl nm1_lt, .inr z, id, id⟩
theorem aP_pe {R K : Nat → Nat} (ok : okR K) (ag : agR R K) {b j : Nat} (hj : j < K 6) (hb : b < nB K) : aP R (nI j) (-1) (-1) (-1) b ↔ b / 16 / K 4 = j := by
  obtain ⟨b1, b2⟩ := bd_ix ok hb
  have h4 := ok.p
  have h6 := ok.h
  have e4 := ag 4 (by decide) (by decide) (by decide)
  unfold aP
  rw [e4, z_m1 (by omega), z_m1 (by omega), z_eq (a := b / 16 / K 4) (b := j) (by omega) (by omega), z_lt (by omega) (by decide)]
  constructor
  · rintro ⟨z | z, -⟩
    · omega
    · exact z
  · exact fun z => ⟨.inr z, .inl nm1_lt, id, id⟩
theorem aP_nl {R K : Nat → Nat} (ok : okR K) (ag : agR R K) {b j : Nat} (hj : j < K 4) (hb : b < nB K) : aP R (-1) (-1) (-1) (nI j) b ↔ ¬ b / 16 % K 4 = j := by
  obtain ⟨b1, b2⟩ := bd_ix ok hb
  have h4 := ok.p
  have h6 := ok.h
  have e4 := ag 4 (by decide) (by decide) (by decide)
  unfold aP
  rw [e4, z_m1 (a := b / 16 / K 4) (by omega), z_eq (a := b / 16 % K 4) (b := j) (by omega) (by omega)]
  exact ⟨fun z => z.2.2.2, fun z => ⟨.inl nm1_lt, .inl nm1_lt, id, z⟩⟩
theorem aP_ne {R K : Nat → Nat} (ok : okR K) (ag : agR R K) {b j : Nat} (hj : j < K 6) (hb : b < nB K) : aP R (-1) (-1) (nI j) (-1) b ↔ ¬ b / 16 / K 4 = j := by
  obtain ⟨b1, b2⟩ := bd_ix ok hb
  have h4 := ok.p
  have h6 := ok.h
  have e4 := ag 4 (by decide) (by decide) (by decide)
  unfold aP
  rw [e4, z_m1 (a := b / 16 % K 4) (by omega), z_eq (a := b / 16 / K 4) (b := j) (by omega) (by omega)]
  exact ⟨fun z => z.2.2.1, fun z => ⟨.inl nm1_lt, .inl nm1_lt, z, id⟩⟩
/-- without the candle i -/
def zwo (K : Nat → Nat) (m i : Nat) : Nat := sd (m / 8) (2 ^ i) * 8 + cde (ofK K 3) (sd (dzK K m) (2 ^ i)) (K 3)
theorem zwo_d {K : Nat → Nat} (ok : okR K) (m i : Nat) : zwo K m i / 8 = sd (m / 8) (2 ^ i) ∧ zwo K m i % 8 = cde (ofK K 3) (sd (dzK K m) (2 ^ i)) (K 3) := by
  have h : cde (ofK K 3) (sd (dzK K m) (2 ^ i)) (K 3) < 2 ^ 3 := cde_lt ok.t
  unfold zwo
  omega
theorem zwo_vmm {K : Nat → Nat} (ok : okR K) {m i : Nat} (h : vm K False m) : vmm K False (2 ^ i) (zwo K m i) := by
  obtain ⟨e1, e2⟩ := zwo_d ok m i
  have ez : dzs (ofK K 3) (K 3) (cde (ofK K 3) (sd (dzK K m) (2 ^ i)) (K 3)) = sd (dzK K m) (2 ^ i) := dzs_cde (fun c hc => by
    rw [sd_tb, Bool.and_eq_true] at hc
    have := hc.1
    unfold dzK at this
    rw [dzs_tb] at this
    simp only [Bool.and_eq_true, decide_eq_true_eq] at this
    exact ⟨this.1, this.2.1⟩)
  unfold vmm vm
  rw [e1, e2, ez]
  refine ⟨⟨fun c hc => ?_, rfl, fun c hc => ?_⟩, fun c hc => ?_⟩
  · rw [sd_tb, Bool.and_eq_true] at hc; exact h.1 c hc.1
  · rw [sd_tb, Bool.and_eq_true] at hc ⊢
    exact ⟨h.2.2 c hc.1, hc.2⟩
  · rw [sd_tb, Bool.and_eq_true] at hc
    simpa using hc.2
def va_from (K : Nat → Nat) (P : zP) (x v : Int32) : Prop := ∃ j, j < K 4 ∧ x = nI j ∧ isD (goal0 (ksc K 0 0 (fanK K) (fun b => b / 16 % K 4 = j)) P.1) v
def va_by (K : Nat → Nat) (P : zP) (x v : Int32) : Prop := ∃ j, j < K 6 ∧ x = nI j ∧ isD (goal0 (ksc K 0 0 (fanK K) (fun b => b / 16 / K 4 = j)) P.1) v
def va_inTime (K : Nat → Nat) (P : zP) (v : Int32) : Prop := ∃ r, isD (goal0 (ksc K 0 0 (fanK K) (fun _ => True)) P.1) r ∧ v = if r ≠ -2 ∧ ¬ nI (K 2) < r then nI 1 else nI 0
def lsC (K : Nat → Nat) (x y : Int32) : Prop := (x = nI 0 ∧ ix (K 3) y) ∨ (x = nI 1 ∧ ix (K 4) y) ∨ (x = nI 2 ∧ ix (K 6) y)
def va_less (K : Nat → Nat) (P : zP) (x y v : Int32) : Prop := (∃ i, i < K 3 ∧ x = nI 0 ∧ y = nI i ∧ isD (goal0 (ksc K (2 ^ i) 0 (fanK K) (fun _ => True)) (zwo K P.1 i)) v) ∨ (∃ i, i < K 4 ∧ x = nI 1 ∧ y = nI i ∧ isD (goal0 (ksc K 0 0 (fanK K) (fun b => ¬ b / 16 % K 4 = i)) P.1) v) ∨ (∃ i, i < K 6 ∧ x = nI 2 ∧ y = nI i ∧ isD (goal0 (ksc K 0 0 (fanK K) (fun b => ¬ b / 16 / K 4 = i)) P.1) v)
section MT2
variable {d n1 n2 : Nat} {fl : Nat → Bool} {p q : Bool} {ad : Nat → Nat} {J : mmJ} {Q : mmQ} {T : zT} {to : Bool} {K : Nat → Nat} {P : zP} {tr : Nat} {f : zF} {I : mmI}
theorem md_244 {x : Int32} (h : MI T to K P tr f I) (k : ∀ I' v t, frM I I' → MI T to K P t f I' → rf (to = true ∧ ix (K 4) x) (va_from K P x) v t → Q (some (.int v)) ((fl, n1, n2, p, q, ad), I', J)) : mm_wc (d + 6) 244 [.ref 46, .int x] ((fl, n1, n2, p, q, ad), I, J) Q := by
  refine fx_244 (ct_166 h (fun I1 f1 h1 => ⟨_, _, rfl, rfl, ?_⟩))
  refine ct_202 h1 (fun j ht hj ej => ⟨_, _, _, rfl, rfl, fun _ => ?_, fun z => absurd z n10⟩) (fun hn => ⟨_, _, _, rfl, rfl, fun z => absurd rfl z, fun _ => ct_167 h1 (by decide) (by decide) (fun I' f' h' => ⟨_, _, _, rfl, rfl, k I' _ _ (f1.tr f') h' (.inr ⟨hn, rfl, rfl⟩)⟩)⟩)
  rw [ej]
  exact sN h1 ht (Pb := fun b => b / 16 % K 4 = j) (fun R ag b hb => aP_pl (h1.cake ht).1 ag hj hb) (k := fun r I3 J3 => Q (some (.int r)) ((fl, n1, n2, p, q, ad), I3, J3)) (fun I' r f' h' hr => k I' _ _ (f1.tr (fr.ssM f')) h' (.inl ⟨⟨ht, j, hj, ej⟩, ⟨j, hj, ej, hr⟩, rfl⟩))
theorem md_245 {x : Int32} (h : MI T to K P tr f I) (k : ∀ I' v t, frM I I' → MI T to K P t f I' → rf (to = true ∧ ix (K 6) x) (va_by K P x) v t → Q (some (.int v)) ((fl, n1, n2, p, q, ad), I', J)) : mm_wc (d + 6) 245 [.ref 46, .int x] ((fl, n1, n2, p, q, ad), I, J) Q := by
  refine fx_245 (ct_166 h (fun I1 f1 h1 => ⟨_, _, rfl, rfl, ?_⟩))
  refine ct_203 h1 (fun j ht hj ej => ⟨_, _, _, rfl, rfl, fun _ => ?_, fun z => absurd z n10⟩) (fun hn => ⟨_, _, _, rfl, rfl, fun z => absurd rfl z, fun _ => ct_167 h1 (by decide) (by decide) (fun I' f' h' => ⟨_, _, _, rfl, rfl, k I' _ _ (f1.tr f') h' (.inr ⟨hn, rfl, rfl⟩)⟩)⟩)
  rw [ej]
  exact sN h1 ht (Pb := fun b => b / 16 / K 4 = j) (fun R ag b hb => aP_pe (h1.cake ht).1 ag hj hb) (k := fun r I3 J3 => Q (some (.int r)) ((fl, n1, n2, p, q, ad), I3, J3)) (fun I' r f' h' hr => k I' _ _ (f1.tr (fr.ssM f')) h' (.inl ⟨⟨ht, j, hj, ej⟩, ⟨j, hj, ej, hr⟩, rfl⟩))
theorem md_248 (h : MI T to K P tr f I) (k : ∀ I' v t, frM I I' → MI T to K P t f I' → rf (to = true) (va_inTime K P) v t → Q (some (.int v)) ((fl, n1, n2, p, q, ad), I', J)) : mm_wc (d + 6) 248 [.ref 46] ((fl, n1, n2, p, q, ad), I, J) Q := by
  refine fx_248 (ct_166 h (fun I1 f1 h1 => ⟨_, _, rfl, rfl, ?_⟩))
  rw [h1.told, bI_0]
  refine ⟨fun e => ?_, fun e => ct_167 h1 (by decide) (by decide) (fun I' f' h' => ⟨_, _, _, rfl, rfl, k I' _ _ (f1.tr f') h' (.inr ⟨by rw [e]; decide, rfl, rfl⟩)⟩)⟩
  have ht : to = true := by simpa using e
  refine sN h1 ht (Pb := fun _ => True) (fun R ag b hb => aP_allK (h1.cake ht).1 ag hb) (k := fun r I3 J3 => (r = (-2) → Q (some (.int (nI 0))) ((fl, n1, n2, p, q, ad), I3, J3)) ∧ (¬ r = (-2) → ((I3 49 2) < r → Q (some (.int (nI 0))) ((fl, n1, n2, p, q, ad), I3, J3)) ∧ (¬ (I3 49 2) < r → Q (some (.int (nI 1))) ((fl, n1, n2, p, q, ad), I3, J3)))) (fun I' r f' h' hr => ?_)
  obtain ⟨ok, R, ag, mb⟩ := h'.cake ht
  rw [mb.1.2 2 (by decide), ag 2 (by decide) (by decide) (by decide)]
  have fin : ∀ v, v = (if r ≠ -2 ∧ ¬ nI (K 2) < r then nI 1 else nI 0) → Q (some (.int v)) ((fl, n1, n2, p, q, ad), I', J) := fun v hv => k I' _ _ (f1.tr (fr.ssM f')) h' (.inl ⟨ht, ⟨r, hr, hv⟩, rfl⟩)
  refine ⟨fun e => fin _ ?_, fun e => ⟨fun e2 => fin _ ?_, fun e2 => fin _ ?_⟩⟩
  · rw [if_neg (fun z => z.1 e)]
  · rw [if_neg (fun z => z.2 e2)]
  · rw [if_pos ⟨e, e2⟩]
/-- allow, allThere, what isn't there out, search -/
theorem ls_93 {a1 a2 x2 x3 : Int32} {Pb : Nat → Prop} {ms s z : Nat} (h : MI T to K P tr f I) (ht : to = true) (hP : ∀ R, agR R K → ∀ b, b < nB K → (aP R (-1) (-1) x2 x3 b ↔ Pb b)) (hs : vmm K False ms s) (hs8 : s / 8 = sd (P.1 / 8) ms) (hz : z = sd (dzK K P.1) ms) (hzc : cde (ofK K 3) z (K 3) = s % 8)
    (hm : (¬ a1 = nI 0 ∧ ms = 0) ∨ (a1 = nI 0 ∧ ∃ i, i < K 3 ∧ a2 = nI i ∧ ms = 2 ^ i)) (hk : ∀ I' r, frM I I' → MI T to K P tr f I' → isD (goal0 (ksc K ms 0 (fanK K) Pb) s) r → Q (some (.int r)) ((fl, n1, n2, p, q, ad), I', J)) :
    mm_w Q (mm_wc (d + 5)) bk_272 93 [some (.ref 46), some (.int a1), some (.int a2)] [.int x3, .int x2, .int (-1), .int (-1), .ref 46] ((fl, n1, n2, p, q, ad), I, J) := by
  obtain ⟨ok, R, ag, mb⟩ := h.cake ht
  have e3 := ag 3 (by decide) (by decide) (by decide)
  have h3 := ok.c
  have hB := agR_nB ag
  have hBl := nB_le ok
  refine fx_272k_93 (ct_234 (e := false) (F := fanM R 11) mb.1 mb.2.1 (fun b _ => Nat.lt_trans (bset_lt _ _) (by decide)) (fun I1 cnt al f1 g1 g2 g3 => ⟨_, _, rfl, rfl, ?_⟩))
  have mb1 : mB I1 R := mb.of (fun k _ => f1 49 k rfl) (fun k => f1 53 k rfl) (fun k => f1 54 k rfl)
  refine ct_224 mb1.1 ⟨_, _, rfl, rfl, ?_⟩
  have key : ∀ th I2, fr ssS I I2 → (∀ k, I2 57 k = I1 57 k) → I2 46 32 = I1 46 32 → I2 46 27 = nI th → (∀ i, i < K 3 → th.testBit i = !ms.testBit i) → mm_w Q (mm_wc (d + 5)) bk_272 119 [some (.ref 46), none, none] [] ((fl, n1, n2, p, q, ad), I2, J) := by
    intro th I2 f2 q1 q2 q3 hth
    have h2 := h.ss f2
    obtain ⟨m1, m2, -, -⟩ := h2.mem ht
    have hv := (h.vms ht).1
    have eA : ∀ a, a < 2 ^ K 3 → a &&& th = sd a ms := by
      intro a ha
      apply Nat.eq_of_testBit_eq
      intro i
      rw [Nat.testBit_and, sd_tb]
      cases hb : a.testBit i
      · simp
      · rw [hth i (lt_of_tb ha hb)]
    refine fx_272k_119 ?_
    rw [m1, m2, q3, z_and, z_and, eA _ hv.lt0, eA _ (dzK_lt K P.1), ← hz, ← hs8]
    have mb2 : mB I2 R := mb.of (fun k _ => f2 49 k rfl) (fun k => f2 53 k rfl) (fun k => f2 54 k rfl)
    have hC : mC I2 R (fanM R 11) (nearM R 11) th cnt al := ⟨⟨mb2.1, mb2.2.2, fun c _ => bset_lt _ _, q3, mb2.2.1, fun b _ => bset_lt _ _⟩, by rw [q2]; exact g1, by have := g3.1; omega, fun k hk => by rw [q1]; exact g2 k hk, fun k hk => (g3.2.1 k hk).1⟩
    have hzl : z < 2 ^ 31 := by
      rw [hz]
      have := sd_le (dzK K P.1) ms
      have := lt_p11 ok (dzK_lt K P.1)
      omega
    refine ct_239 hC hzl (hs.1.lt ok) (by rw [ofK_ag ag ok, e3]; exact hzc) (fun I3 r hr => ⟨_, _, _, rfl, rfl, ?_⟩)
    obtain ⟨-, -, -, -, f3, -⟩ := id hr
    have f4 : fr ssS I I3 := f2.tr (f3.sub rfl)
    exact hk I3 r (fr.ssM f4) (h.ss f4) (mSE_isD hr ok hB g3 (hP R ag) (fun i hi => by rw [Nat.zero_testBit] at hi; cases hi) (g := False) (fun b hb m hm => zcK ag ok hb hm.1 hm.2 hth) hs)
  rcases hm with ⟨n0, rfl⟩ | ⟨y0, i, hi, rfl, rfl⟩
  · exact ⟨fun _ => key _ _ ((f1.sub rfl).up rfl) (fun k => up_c (by decide)) (up_k (by decide)) (up_s _ _ _ _) (fun i hi => by rw [e3, th_tb hi]; simp), fun e => absurd e n0⟩
  · refine ⟨fun e => absurd y0 e, fun _ => key (sd (2 ^ R 3 - 1 ||| 1024) (2 ^ i)) _ (((f1.sub rfl).up rfl).up rfl) (fun k => by rw [up_c (by decide), up_c (by decide)]) (by rw [up_k (by decide), up_k (by decide)]) ?_ (fun c hc => ?_)⟩
    · rw [up_s, up_s, z_bit (by omega), z_andn]
    · rw [sd_tb, e3, th_tb hc]; simp
theorem md_272 {x y : Int32} (h : MI T to K P tr f I) (k : ∀ I' v t, frM I I' → MI T to K P t f I' → rf (to = true ∧ lsC K x y) (va_less K P x y) v t → Q (some (.int v)) ((fl, n1, n2, p, q, ad), I', J)) : mm_wc (d + 6) 272 [.ref 46, .int x, .int y] ((fl, n1, n2, p, q, ad), I, J) Q := by
  refine fx_272k (ct_166 h (fun I1 f1 h1 => ⟨_, _, rfl, rfl, ?_⟩))
  have no : ¬ (to = true ∧ lsC K x y) → mm_w Q (mm_wc (d + 5)) bk_272 64 [some (.ref 46), none, none] [] ((fl, n1, n2, p, q, ad), I1, J) := fun hn => fx_272k_64 (ct_167 h1 (by decide) (by decide) (fun I' f' h' => ⟨_, _, _, rfl, rfl, k I' _ _ (f1.tr f') h' (.inr ⟨hn, rfl, rfl⟩)⟩))
  rw [h1.told, bI_0]
  refine ⟨fun e => no (fun z => by rw [e] at z; cases z.1), fun e => ?_⟩
  have ht : to = true := by simpa using e
  obtain ⟨ok, R, ag, mb⟩ := h1.cake ht
  have hv := (h1.vms ht).1
  have h3 := ok.c
  have h4 := ok.p
  have h6 := ok.h
  have r : ∀ j, j < 10 → I1 49 j = nI (K j) := fun j hj => by rw [mb.1.2 j (by omega), ag j (by omega) (by omega) (by omega)]
  have hs0 : vmm K False 0 P.1 := ⟨hv, fun i _ => Nat.zero_testBit i⟩
  have sd0 : ∀ a, sd a 0 = a := fun a => by
    apply Nat.eq_of_testBit_eq; intro i; rw [sd_tb]; simp
  refine wi2 3 rfl (by decide) (by decide) (fun j hj ej => ⟨_, _, _, rfl, rfl, fun z => absurd z n10, fun _ => ⟨fun n0 => ⟨fun n1 => ?_, fun e1 => ?_⟩, fun e0 => ?_⟩⟩) (fun hn => ⟨_, _, _, rfl, rfl, fun _ => no (fun z => hn ?_), fun z => absurd rfl z⟩)
  · have e2 : x = nI 2 := by
      rw [ej] at n0 n1 ⊢
      rw [z_eq (by omega) (by decide)] at n0 n1
      congr 1; omega
    rw [r 6 (by decide)]
    refine fx_272k_56 (wi (by omega) (by omega) (fun i hi ei => ⟨_, _, _, rfl, rfl, fun _ => ⟨fun z => absurd e2 z, fun _ => fx_272k_83 ⟨fun _ => ?_, fun z => absurd z n1⟩⟩, fun z => absurd z n10⟩) (fun hn => ⟨_, _, _, rfl, rfl, fun z => absurd rfl z, fun _ => no (fun z => ?_)⟩))
    · refine ls_93 (Pb := fun b => ¬ b / 16 / K 4 = i) (ms := 0) (s := P.1) (z := dzK K P.1) h1 ht (fun R ag b hb => by rw [ei]; exact aP_ne ok ag hi hb) hs0 (sd0 _).symm (sd0 _).symm hv.2.1.symm (.inl ⟨n0, rfl⟩) (fun I' r f' h' hr => k I' _ _ (f1.tr f') h' (.inl ⟨⟨ht, .inr (.inr ⟨e2, i, hi, ei⟩)⟩, .inr (.inr ⟨i, hi, e2, ei, hr⟩), rfl⟩))
    · rcases z.2 with z | z | z
      · exact n0 z.1
      · exact n1 z.1
      · exact hn z.2
  · rw [r 4 (by decide)]
    refine fx_272k_56 (wi (by omega) (by omega) (fun i hi ei => ⟨_, _, _, rfl, rfl, fun _ => ⟨fun _ => fx_272k_83 ⟨fun z => absurd e1 z, fun _ => ?_⟩, fun z => ?_⟩, fun z => absurd z n10⟩) (fun hn => ⟨_, _, _, rfl, rfl, fun z => absurd rfl z, fun _ => no (fun z => ?_)⟩))
    · refine ls_93 (Pb := fun b => ¬ b / 16 % K 4 = i) (ms := 0) (s := P.1) (z := dzK K P.1) h1 ht (fun R ag b hb => by rw [ei]; exact aP_nl ok ag hi hb) hs0 (sd0 _).symm (sd0 _).symm hv.2.1.symm (.inl ⟨n0, rfl⟩) (fun I' r f' h' hr => k I' _ _ (f1.tr f') h' (.inl ⟨⟨ht, .inr (.inl ⟨e1, i, hi, ei⟩)⟩, .inr (.inl ⟨i, hi, e1, ei, hr⟩), rfl⟩))
    · rw [e1, z_eq (by decide) (by decide)] at z; omega
    · rcases z.2 with z | z | z
      · exact n0 z.1
      · exact hn z.2
      · rw [e1, z_eq (by decide) (by decide)] at z; omega
  · rw [r 3 (by decide)]
    refine fx_272k_56 (wi (by omega) (by omega) (fun i hi ei => ⟨_, _, _, rfl, rfl, fun _ => ⟨fun _ => fx_272k_83 ⟨fun _ => ?_, fun z => ?_⟩, fun z => ?_⟩, fun z => absurd z n10⟩) (fun hn => ⟨_, _, _, rfl, rfl, fun z => absurd rfl z, fun _ => no (fun z => ?_)⟩))
    · obtain ⟨w1, w2⟩ := zwo_d ok P.1 i
      refine ls_93 (Pb := fun _ => True) (ms := 2 ^ i) (s := zwo K P.1 i) (z := sd (dzK K P.1) (2 ^ i)) h1 ht (fun R ag b hb => aP_allK ok ag hb) (zwo_vmm ok hv) w1 rfl w2.symm (.inr ⟨e0, i, hi, ei, rfl⟩) (fun I' r f' h' hr => k I' _ _ (f1.tr f') h' (.inl ⟨⟨ht, .inl ⟨e0, i, hi, ei⟩⟩, .inl ⟨i, hi, e0, ei, hr⟩, rfl⟩))
    · rw [e0, z_eq (by decide) (by decide)] at z; omega
    · rw [e0, z_eq (by decide) (by decide)] at z; omega
    · rcases z.2 with z | z | z
      · exact hn z.2
      · rw [e0, z_eq (by decide) (by decide)] at z; omega
      · rw [e0, z_eq (by decide) (by decide)] at z; omega
  · rcases z.2 with z | z | z
    · exact ⟨0, by decide, z.1⟩
    · exact ⟨1, by decide, z.1⟩
    · exact ⟨2, by decide, z.1⟩
end MT2
