/-! the class: its search, lazily made; fewestOf and its like -/
def kall (K : Nat → Nat) : Nat → Nat → Prop := ksc K 0 0 (fanK K) (fun _ => True)
/-- by just the people of S, each with one breath -/
def tchn (K : Nat → Nat) (s : Nat) : Nat → Nat → Nat → Prop
  | 0, S, m => S = 0 ∧ m = s
  | n + 1, S, m => ∃ h m' b, h < K 6 ∧ S.testBit h = true ∧ tchn K s n (sd S (2 ^ h)) m' ∧ b < nB K ∧ b / 16 / K 4 = h ∧ m = zst K m' b
def tch (K : Nat → Nat) (s S m : Nat) : Prop := ∃ n, tchn K s n S m
def tdone (K : Nat → Nat) (s S : Nat) : Prop := ∃ m, tch K s S m ∧ m / 8 = 0
def isT (K : Nat → Nat) (s : Nat) (r : Int32) : Prop := (∃ S, S < 2 ^ K 6 ∧ r = nI S ∧ tdone K s S ∧ ∀ S', S' < 2 ^ K 6 → tdone K s S' → zcnt S < zcnt S' ∨ (zcnt S = zcnt S' ∧ S ≤ S')) ∨ (r = -2 ∧ ∀ S', S' < 2 ^ K 6 → ¬ tdone K s S')
theorem isT.uq {K : Nat → Nat} {s : Nat} {r r' : Int32} (h : isT K s r) (h' : isT K s r') : r = r' := by
  rcases h with ⟨S, a1, a2, a3, a4⟩ | ⟨a2, a3⟩ <;> rcases h' with ⟨S', a1', a2', a3', a4'⟩ | ⟨a2', a3'⟩
  · have q1 := a4 S' a1' a3'
    have q2 := a4' S a1 a3
    rw [a2, a2', show S = S' by omega]
  · exact absurd a3 (a3' S a1)
  · exact absurd a3' (a3 S' a1')
  · rw [a2, a2']
/-- the row of n breaths from m on -/
def rowP (K : Nat → Nat) : Nat → Nat → (Nat → Nat) → Prop
  | 0, _, _ => True
  | n + 1, m, w => w 0 < nB K ∧ goal0 (kall K) (zst K m (w 0)) n ∧ (∀ b, b < w 0 → ¬ goal0 (kall K) (zst K m b) n) ∧ rowP K n (zst K m (w 0)) (fun i => w (i + 1))
theorem rowP.uq {K : Nat → Nat} : ∀ {n m : Nat} {w w' : Nat → Nat}, rowP K n m w → rowP K n m w' → ∀ i, i < n → w i = w' i
  | 0, _, _, _, _, _, i, hi => absurd hi (by omega)
  | n + 1, m, w, w', ⟨a1, a2, a3, a4⟩, ⟨b1, b2, b3, b4⟩, i, hi => by
    have e : w 0 = w' 0 := by
      rcases Nat.lt_trichotomy (w 0) (w' 0) with z | z | z
      · exact absurd a2 (b3 _ z)
      · exact z
      · exact absurd b2 (a3 _ z)
    cases i with
    | zero => exact e
    | succ i =>
      rw [← e] at b4
      exact rowP.uq a4 b4 i (by omega)
/-- what is kept of an answer -/
def cac (K : Nat → Nat) (m : Nat) (I : mmI) : Prop := (I 70 11 = -3 ∨ isD (goal0 (kall K) m) (I 70 11)) ∧ (I 70 12 = -3 ∨ isT K m (I 70 12)) ∧ (¬ I 70 13 = nI 0 → ∃ L w, isD (goal0 (kall K) m) (nI L) ∧ L < 3456 ∧ rowP K L m w ∧ ∀ i, i < L → I 76 i = nI (w i))
def SEi (to : Bool) (K : Nat → Nat) (l Lm : Nat) (I : mmI) : Prop := cF I ∧ (∃ L, cLs I L ∧ L ≤ Lm) ∧ (∃ l', I 70 9 = nI l' ∧ l' ≤ l) ∧ (to = true → I 70 9 = nI l → ∃ m, vm K False m ∧ I 70 10 = nI m ∧ cac K m I)
theorem SEi.of {to : Bool} {K : Nat → Nat} {l Lm Lm' : Nat} {I I' : mmI} (h : SEi to K l Lm I) (hL : Lm ≤ Lm') (hf : ∀ r k, 70 ≤ r → r < 81 → I' r k = I r k) : SEi to K l Lm' I' := by
  obtain ⟨⟨tl, qq, a1, a2, a3, a4⟩, ⟨L, b1, b2⟩, ⟨l', c1, c2⟩, e⟩ := h
  have o : ∀ r k, 70 ≤ r → r < 81 → I' r k = I r k := hf
  refine ⟨⟨tl, qq, by rw [o 70 _ (by decide) (by decide)]; exact a1, a2, fun i hi => by rw [o 72 _ (by decide) (by decide)]; exact a3 i hi, fun s hs hn => by rw [o 71 _ (by decide) (by decide)]; exact a4 s hs hn⟩, ⟨L, ⟨by rw [o 77 _ (by decide) (by decide)]; exact b1.1, b1.2.1, fun f hf => by rw [o 80 _ (by decide) (by decide)]; exact b1.2.2 f hf⟩, by omega⟩, ⟨l', by rw [o 70 _ (by decide) (by decide)]; exact c1, c2⟩, fun ht hl => ?_⟩
  rw [o 70 9 (by decide) (by decide)] at hl
  obtain ⟨m, m1, m2, m3, m4, m5⟩ := e ht hl
  refine ⟨m, m1, by rw [o 70 _ (by decide) (by decide)]; exact m2, by rw [o 70 _ (by decide) (by decide)]; exact m3, by rw [o 70 _ (by decide) (by decide)]; exact m4, fun z => ?_⟩
  rw [o 70 13 (by decide) (by decide)] at z
  obtain ⟨L', w, w1, w2, w3, w4⟩ := m5 z
  exact ⟨L', w, w1, w2, w3, fun i hi => by rw [o 76 _ (by decide) (by decide)]; exact w4 i hi⟩
/-- only the lists and the queue are new -/
theorem SEi.run {to : Bool} {K : Nat → Nat} {l Lm L : Nat} {I I' : mmI} (h : SEi to K l Lm I) (hf : fr [(77, [3, 5]), (78, []), (79, []), (80, []), (70, [5]), (71, []), (72, []), (73, []), (74, []), (75, [])] I I') (hF : cF I') (hL : cLs I' L) : SEi to K l (max Lm L) I' := by
  obtain ⟨-, -, ⟨l', c1, c2⟩, e⟩ := h
  refine ⟨hF, ⟨L, hL, Nat.le_max_right _ _⟩, ⟨l', by rw [hf 70 9 rfl]; exact c1, c2⟩, fun ht hl => ?_⟩
  rw [hf 70 9 rfl] at hl
  obtain ⟨m, m1, m2, m3, m4, m5⟩ := e ht hl
  refine ⟨m, m1, by rw [hf 70 10 rfl]; exact m2, by rw [hf 70 11 rfl]; exact m3, by rw [hf 70 12 rfl]; exact m4, fun z => ?_⟩
  rw [hf 70 13 rfl] at z
  obtain ⟨L', w, w1, w2, w3, w4⟩ := m5 z
  exact ⟨L', w, w1, w2, w3, fun i hi => by rw [hf 76 i rfl]; exact w4 i hi⟩
theorem csc_ksc {K : Nat → Nat} {ms gl cnt : Nat} {al fan : Nat → Nat} {Pb : Nat → Prop} (hal : alw fan Pb False (nB K) cnt al) (m m' : Nat) : csc K ms gl cnt (fun k => fan (al k)) m m' ↔ ksc K ms gl fan Pb m m' := by
  obtain ⟨a0, a1, a2, a3⟩ := hal
  constructor
  · rintro ⟨k, hk, rfl⟩
    exact ⟨al k, (a1 k hk).1, (a1 k hk).2, rfl⟩
  · rintro ⟨b, hb, hP, rfl⟩
    obtain ⟨k, hk, -, hF, -⟩ := a3 b hb hP
    exact ⟨k, hk, by show cstp K ms gl (fan b) m = cstp K ms gl (fan (al k)) m; rw [hF]⟩
theorem csc_eq {K : Nat → Nat} {ms gl cnt : Nat} {al fan : Nat → Nat} {Pb : Nat → Prop} (hal : alw fan Pb False (nB K) cnt al) : csc K ms gl cnt (fun k => fan (al k)) = ksc K ms gl fan Pb := by
  funext m m'; exact propext (csc_ksc hal m m')
theorem goalC_0 {K : Nat → Nat} (ok : okR K) {g : Prop} {ms gl s : Nat} {fan : Nat → Nat} {Pb : Nat → Prop} (hs : vmm K g ms s) (hgl : ∀ i, gl.testBit i = true → i < K 3) (n : Nat) : goalC (ksc K ms gl fan Pb) s 2047 n ↔ goal0 (ksc K ms gl fan Pb) s n := by
  have key : ∀ m, m / 8 < 2 ^ 11 → (m / 8 &&& 2047 = 0 ↔ m / 8 = 0) := fun m hm => by
    rw [show (2047 : Nat) = 2 ^ 11 - 1 from rfl, Nat.and_two_pow_sub_one_eq_mod, Nat.mod_eq_of_lt hm]
  constructor
  · rintro ⟨m, hr, hm⟩
    exact ⟨m, hr, (key m ((rch_V hs (ksc_V ok hgl) n m hr).1.lt ok)).mp hm⟩
  · rintro ⟨m, hr, hm⟩
    exact ⟨m, hr, (key m ((rch_V hs (ksc_V ok hgl) n m hr).1.lt ok)).mpr hm⟩
abbrev foS : List (Nat × List Nat) := [(77, [3, 5]), (78, []), (79, []), (80, []), (70, [5]), (71, []), (72, []), (73, [])]
section SE
variable {d n1 n2 : Nat} {b0 b1 b2 p q : Bool} {ad : Nat → Nat} {J : mmJ} {Q : mmQ} {K : Nat → Nat} {I : mmI} {L : Nat}
theorem cLg.Ls {I : mmI} {F : Nat → Nat} {Pb : Nat → Prop} {L B cnt : Nat} {al : Nat → Nat} (h : cLg I F Pb L B cnt al) : cLs I L := ⟨h.1, h.2.1, fun f hf => by obtain ⟨v, h1, h2, -⟩ := h.2.2.2.2.2.2 f hf; exact ⟨v, h1, h2⟩⟩
theorem cSE.F {I0 I : mmI} {g : Prop} {ms gl cnt s cs : Nat} {fs : Nat → Nat} {r : Int32} (ok : okR K) (hs : vm K g s) (hgl : ∀ i, gl.testBit i = true → i < K 3) (h : cSE I0 I K ms gl cnt fs s cs r) : cF I := by
  obtain ⟨qq, dp, tl, hd, f, -, h2, h3, -, h5, -⟩ := h
  exact h2.F h5 (fun i hi => by have := (h3.V (V := vm K g) hs (csc_V ok hgl) hi).lt ok; omega)
/-- list and search: what a search of the class finds -/
theorem ct_84 {so m : Nat} {wh : Int32} (hK : cK I p K) (hD : bD I K) (hms : I 6 13 = nI 0) (hF : cF I) (hL : cLs I L) (hL1 : L + 1 < 2 ^ 30) (hso : so < 5) (hv : vm K False m) (k : ∀ I1 I' cnt al r, fr liS I I1 → cLg I1 (fanK K) (lP K so wh true) (L + 1) (nB K) cnt al → cSE I1 I' K 0 0 cnt (fun k => fanK K (al k)) m 2047 r → fr foS I I' → cF I' → cLs I' (L + 1) → isD (goal0 (ksc K 0 0 (fanK K) (lP K so wh true)) m) r → Q (some (.int r)) ((mm_fl true b1 b2, n1, n2, p, q, ad), I', J)) : mm_wc (d + 4) 84 [.ref 70, .int (nI m), .int (nI so), .int wh] ((mm_fl true b1 b2, n1, n2, p, q, ad), I, J) Q := by
  have ok := hD.1
  have hg0 : ∀ i, Nat.testBit 0 i = true → i < K 3 := fun i hi => by rw [Nat.zero_testBit] at hi; cases hi
  refine fx_84 (ct_36 (its := true) hK hD.2.1 hD.2.2.1 hL hL1 hso (fun I1 cnt al f1 g1 => ⟨_, _, rfl, rfl, ?_⟩))
  have hB := nB_le ok
  have hC : cC I1 K False 0 0 cnt (fun k => fanK K (al k)) := ⟨hD.fr f1 rfl rfl rfl rfl, by rw [f1 6 13 rfl]; exact hms, False.elim, hg0, g1.2.2.1, by have := g1.2.2.2.2.2.1.1; omega, g1.2.2.2.1⟩
  have hF1 : cF I1 := by
    obtain ⟨tl, qq, a1, a2, a3, a4⟩ := hF
    exact ⟨tl, qq, by rw [f1 70 5 rfl]; exact a1, a2, fun i hi => by rw [f1 72 i rfl]; exact a3 i hi, fun s hs hn => by rw [f1 71 s rfl]; exact a4 s hs hn⟩
  refine ct_89 hC hF1 hv (by decide) (fun I2 r hr => ⟨_, _, _, rfl, rfl, ?_⟩)
  obtain ⟨-, -, -, -, -, f2, -, -, -, -, hd, -⟩ := id hr
  have f3 : fr foS I I2 := (f1.sub rfl).tr (f2.sub rfl)
  have hL2 : cLs I2 (L + 1) := by
    obtain ⟨x1, x2, x3⟩ := g1.Ls
    exact ⟨by rw [f2 77 5 rfl]; exact x1, x2, fun f hf => by rw [f2 80 f rfl]; exact x3 f hf⟩
  rw [csc_eq g1.2.2.2.2.2.1] at hd
  exact k I1 I2 cnt al r f1 g1 hr f3 (cSE.F ok hv hg0 hr) hL2 (hd.congr (goalC_0 ok (g := False) ⟨hv, fun i _ => Nat.zero_testBit i⟩ hg0))
theorem ct_85 {so m : Nat} {wh : Int32} (hK : cK I p K) (hD : bD I K) (hms : I 6 13 = nI 0) (hF : cF I) (hL : cLs I L) (hL1 : L + 1 < 2 ^ 30) (hso : so < 5) (hv : vm K False m) (k : ∀ I' r, fr foS I I' → cF I' → cLs I' (L + 1) → isD (goal0 (ksc K 0 0 (fanK K) (lP K so wh false)) m) r → Q (some (.int r)) ((mm_fl true b1 b2, n1, n2, p, q, ad), I', J)) : mm_wc (d + 4) 85 [.ref 70, .int (nI m), .int (nI so), .int wh] ((mm_fl true b1 b2, n1, n2, p, q, ad), I, J) Q := by
  have ok := hD.1
  have hg0 : ∀ i, Nat.testBit 0 i = true → i < K 3 := fun i hi => by rw [Nat.zero_testBit] at hi; cases hi
  refine fx_85 (ct_36 (its := false) hK hD.2.1 hD.2.2.1 hL hL1 hso (fun I1 cnt al f1 g1 => ⟨_, _, rfl, rfl, ?_⟩))
  have hB := nB_le ok
  have hC : cC I1 K False 0 0 cnt (fun k => fanK K (al k)) := ⟨hD.fr f1 rfl rfl rfl rfl, by rw [f1 6 13 rfl]; exact hms, False.elim, hg0, g1.2.2.1, by have := g1.2.2.2.2.2.1.1; omega, g1.2.2.2.1⟩
  have hF1 : cF I1 := by
    obtain ⟨tl, qq, a1, a2, a3, a4⟩ := hF
    exact ⟨tl, qq, by rw [f1 70 5 rfl]; exact a1, a2, fun i hi => by rw [f1 72 i rfl]; exact a3 i hi, fun s hs hn => by rw [f1 71 s rfl]; exact a4 s hs hn⟩
  refine ct_89 hC hF1 hv (by decide) (fun I2 r hr => ⟨_, _, _, rfl, rfl, ?_⟩)
  obtain ⟨-, -, -, -, -, f2, -, -, -, -, hd, -⟩ := id hr
  have f3 : fr foS I I2 := (f1.sub rfl).tr (f2.sub rfl)
  have hL2 : cLs I2 (L + 1) := by
    obtain ⟨x1, x2, x3⟩ := g1.Ls
    exact ⟨by rw [f2 77 5 rfl]; exact x1, x2, fun f hf => by rw [f2 80 f rfl]; exact x3 f hf⟩
  rw [csc_eq g1.2.2.2.2.2.1] at hd
  exact k I2 r f3 (cSE.F ok hv hg0 hr) hL2 (hd.congr (goalC_0 ok (g := False) ⟨hv, fun i _ => Nat.zero_testBit i⟩ hg0))
theorem ct_88 {m c : Nat} (hK : cK I p K) (hD : bD I K) (hms : I 6 13 = nI 0) (hF : cF I) (hL : cLs I L) (hL1 : L + 1 < 2 ^ 30) (hv : vm K False m) (hc : c < K 3) (k : ∀ I' r, fr foS I I' → cF I' → cLs I' (L + 1) → isD (goalS (kall K) m c) r → Q (some (.int r)) ((mm_fl true b1 b2, n1, n2, p, q, ad), I', J)) : mm_wc (d + 4) 88 [.ref 70, .int (nI m), .int (nI c)] ((mm_fl true b1 b2, n1, n2, p, q, ad), I, J) Q := by
  have ok := hD.1
  have h3 := ok.c
  have hg0 : ∀ i, Nat.testBit 0 i = true → i < K 3 := fun i hi => by rw [Nat.zero_testBit] at hi; cases hi
  refine fx_88 (ct_36 (its := true) hK hD.2.1 hD.2.2.1 hL hL1 (by decide) (fun I1 cnt al f1 g1 => ⟨_, _, rfl, rfl, ?_⟩))
  have hB := nB_le ok
  have hC : cC I1 K False 0 0 cnt (fun k => fanK K (al k)) := ⟨hD.fr f1 rfl rfl rfl rfl, by rw [f1 6 13 rfl]; exact hms, False.elim, hg0, g1.2.2.1, by have := g1.2.2.2.2.2.1.1; omega, g1.2.2.2.1⟩
  have hF1 : cF I1 := by
    obtain ⟨tl, qq, a1, a2, a3, a4⟩ := hF
    exact ⟨tl, qq, by rw [f1 70 5 rfl]; exact a1, a2, fun i hi => by rw [f1 72 i rfl]; exact a3 i hi, fun s hs hn => by rw [f1 71 s rfl]; exact a4 s hs hn⟩
  have h2c := lt_p11 ok (Nat.pow_lt_pow_right (a := 2) (by decide) hc)
  rw [z_bit (by omega)]
  refine ct_89 hC hF1 hv (by omega) (fun I2 r hr => ⟨_, _, _, rfl, rfl, ?_⟩)
  obtain ⟨-, -, -, -, -, f2, -, -, -, -, hd, -⟩ := id hr
  have f3 : fr foS I I2 := (f1.sub rfl).tr (f2.sub rfl)
  have hL2 : cLs I2 (L + 1) := by
    obtain ⟨x1, x2, x3⟩ := g1.Ls
    exact ⟨by rw [f2 77 5 rfl]; exact x1, x2, fun f hf => by rw [f2 80 f rfl]; exact x3 f hf⟩
  have eP : lP K 4 (-1) true = fun _ => True := by funext b; exact propext ⟨fun _ => trivial, fun _ => .inl rfl⟩
  rw [csc_eq g1.2.2.2.2.2.1, eP] at hd
  refine k I2 r f3 (cSE.F ok hv hg0 hr) hL2 (hd.congr (fun n => ?_))
  have key : ∀ a : Nat, (a &&& 2 ^ c = 0) ↔ a.testBit c = false := by
    intro a
    rw [and_eq0]
    constructor
    · intro h
      cases hb : a.testBit c
      · rfl
      · have := h c hb; rw [tb_2pow] at this; simp at this
    · intro h i hi
      rw [tb_2pow]
      by_cases e : c = i
      · subst e; rw [h] at hi; cases hi
      · simp [e]
  exact ⟨fun ⟨m, a, b⟩ => ⟨m, a, (key _).mp b⟩, fun ⟨m, a, b⟩ => ⟨m, a, (key _).mpr b⟩⟩
theorem ct_22 {m c : Nat} (hD : bD I K) (hv : vm K False m) (hc : c < K 3) (k : Q (some (.int (nI (zwo K m c)))) ((mm_fl b0 b1 b2, n1, n2, p, q, ad), I, J)) : mm_wc (d + 2) 22 [.ref 6, .int (nI m), .int (nI c)] ((mm_fl b0 b1 b2, n1, n2, p, q, ad), I, J) Q := by
  have ok := hD.1
  have h3 := ok.c
  have hm := hv.lt ok
  have hdl := lt_p11 ok (dzK_lt K m)
  refine fx_22 (ct_17 (by omega) ⟨_, _, _, rfl, rfl, ct_19 hD (by omega) ⟨_, _, _, rfl, rfl, ?_⟩⟩)
  rw [z_bit (by omega), z_andn, z_andn]
  have := sd_le (dzK K m) (2 ^ c)
  exact ct_23 hD (by omega) ⟨_, _, _, rfl, rfl, k⟩
theorem ct_86 {m c : Nat} (hK : cK I p K) (hD : bD I K) (hF : cF I) (hL : cLs I L) (hL1 : L + 1 < 2 ^ 30) (hv : vm K False m) (hc : c < K 3) (k : ∀ I' r, fr (foS ++ [(6, [13])]) I I' → I' 6 13 = nI 0 → cF I' → cLs I' (L + 1) → isD (goal0 (ksc K (2 ^ c) 0 (fanK K) (fun _ => True)) (zwo K m c)) r → Q (some (.int r)) ((mm_fl true b1 b2, n1, n2, p, q, ad), I', J)) : mm_wc (d + 4) 86 [.ref 70, .int (nI m), .int (nI c)] ((mm_fl true b1 b2, n1, n2, p, q, ad), I, J) Q := by
  have ok := hD.1
  have h3 := ok.c
  have hg0 : ∀ i, Nat.testBit 0 i = true → i < K 3 := fun i hi => by rw [Nat.zero_testBit] at hi; cases hi
  refine fx_86 (ct_36 (its := true) hK hD.2.1 hD.2.2.1 hL hL1 (by decide) (fun I1 cnt al f1 g1 => ⟨_, _, rfl, rfl, ?_⟩))
  have hB := nB_le ok
  rw [z_bit (by omega)]
  have fU : fr (liS ++ [(6, [13])]) I (mm_up I1 6 13 (nI (2 ^ c))) := (f1.sub rfl).up rfl
  have hD1 : bD (mm_up I1 6 13 (nI (2 ^ c))) K := hD.fr fU rfl rfl rfl rfl
  refine ct_22 hD1 hv hc ⟨_, _, _, rfl, rfl, ?_⟩
  have hC : cC (mm_up I1 6 13 (nI (2 ^ c))) K False (2 ^ c) 0 cnt (fun k => fanK K (al k)) := ⟨hD1, up_s _ _ _ _, False.elim, hg0, by rw [up_c (by decide)]; exact g1.2.2.1, by have := g1.2.2.2.2.2.1.1; omega, fun k hk => by rw [up_c (by decide)]; exact g1.2.2.2.1 k hk⟩
  have hF1 : cF (mm_up I1 6 13 (nI (2 ^ c))) := by
    obtain ⟨tl, qq, a1, a2, a3, a4⟩ := hF
    exact ⟨tl, qq, by rw [fU 70 5 rfl]; exact a1, a2, fun i hi => by rw [fU 72 i rfl]; exact a3 i hi, fun s hs hn => by rw [fU 71 s rfl]; exact a4 s hs hn⟩
  have hz := zwo_vmm (i := c) ok hv
  refine ct_89 hC hF1 hz.1 (by decide) (fun I2 r hr => ⟨_, _, _, rfl, rfl, ?_⟩)
  obtain ⟨-, -, -, -, -, f2, -, -, -, -, hd, -⟩ := id hr
  have f3 : fr (foS ++ [(6, [13])]) I (mm_up I2 6 13 (nI 0)) := ((fU.sub rfl).tr (f2.sub rfl)).up rfl
  have hF2 := cSE.F ok hz.1 hg0 hr
  have hL2 : cLs (mm_up I2 6 13 (nI 0)) (L + 1) := by
    obtain ⟨x1, x2, x3⟩ := g1.Ls
    exact ⟨by rw [up_c (by decide), f2 77 5 rfl, up_c (by decide)]; exact x1, x2, fun f hf => by rw [up_c (by decide), f2 80 f rfl, up_c (by decide)]; exact x3 f hf⟩
  have hF3 : cF (mm_up I2 6 13 (nI 0)) := by
    obtain ⟨tl, qq, a1, a2, a3, a4⟩ := hF2
    exact ⟨tl, qq, by rw [up_c (by decide)]; exact a1, a2, fun i hi => by rw [up_c (by decide)]; exact a3 i hi, fun s hs hn => by rw [up_c (by decide)]; exact a4 s hs hn⟩
  have eP : lP K 4 (-1) true = fun _ => True := by funext b; exact propext ⟨fun _ => trivial, fun _ => .inl rfl⟩
  rw [csc_eq g1.2.2.2.2.2.1, eP] at hd
  exact k _ r f3 (up_s _ _ _ _) hF3 hL2 (hd.congr (goalC_0 ok hz hg0))
end SE
