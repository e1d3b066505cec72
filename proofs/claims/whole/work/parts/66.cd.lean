/-! the class: the board laid, moments, behind a breath -/
def subS (L M : List (Nat × List Nat)) : Bool := L.all fun e => M.any fun e' => e'.1 == e.1 && (e'.2.isEmpty || (!e.2.isEmpty && e.2.all fun x => e'.2.contains x))
theorem fr.sub {L M : List (Nat × List Nat)} {I I' : mmI} (h : fr L I I') (hs : subS L M = true) : fr M I I' := by
  intro r k hr
  refine h r k ?_
  cases hb : inS L r k
  · rfl
  · exfalso
    obtain ⟨e, he, h3⟩ := List.any_eq_true.mp hb
    obtain ⟨e', he', h4⟩ := List.any_eq_true.mp (List.all_eq_true.mp hs e he)
    refine List.any_eq_false.mp hr e' he' ?_
    simp only [Bool.and_eq_true, Bool.or_eq_true, beq_iff_eq] at h3 h4 ⊢
    refine ⟨h4.1.trans h3.1, ?_⟩
    rcases h4.2 with z | ⟨z1, z2⟩
    · exact .inl z
    · rcases h3.2 with y | y
      · rw [y] at z1; cases z1
      · refine .inr (List.all_eq_true.mp z2 k ?_)
        simpa using y
def bD (I : mmI) (K : Nat → Nat) : Prop := okR K ∧ I 6 2 = nI (nB K) ∧ (∀ b, b < nB K → I 7 b = nI (fanK K b)) ∧ (∃ u un uo, uni (fanK K) I (nB K) u un uo) ∧ I 6 11 = nI (ofK K 3) ∧ (∀ t, t < 3 → I 13 t = nI (tkB (ofK K 3) (K 3) t)) ∧ (∀ e, e < 8 → I 14 e = nI (dzs (ofK K 3) (K 3) e)) ∧ (∀ s, s < 2 ^ K 3 → I 12 s = nI (litS K s))
theorem uni.of {fan : Nat → Nat} {I I' : mmI} {B u : Nat} {un uo : Nat → Nat} (h : uni fan I B u un uo) (h1 : I' 6 7 = I 6 7) (h2 : ∀ r k, 8 ≤ r → r < 12 → I' r k = I r k) : uni fan I' B u un uo := by
  unfold uni at h ⊢
  simp (disch := omega) only [h1, h2]
  exact h
theorem bD.of {I I' : mmI} {K : Nat → Nat} (h : bD I K) (h1 : I' 6 2 = I 6 2) (h2 : I' 6 7 = I 6 7) (h3 : I' 6 11 = I 6 11) (h4 : ∀ r k, 7 ≤ r → r < 15 → I' r k = I r k) : bD I' K := by
  obtain ⟨a, b, c, ⟨u, un, uo, e⟩, f, g, i, j⟩ := h
  refine ⟨a, by rw [h1]; exact b, fun x hx => by rw [h4 7 x (by decide) (by decide)]; exact c x hx, ⟨u, un, uo, e.of h2 (fun r k g1 g2 => h4 r k (by omega) (by omega))⟩, by rw [h3]; exact f, fun x hx => by rw [h4 13 x (by decide) (by decide)]; exact g x hx, fun x hx => by rw [h4 14 x (by decide) (by decide)]; exact i x hx, fun x hx => by rw [h4 12 x (by decide) (by decide)]; exact j x hx⟩
theorem bD.fr {I I' : mmI} {K : Nat → Nat} (h : bD I K) {L : List (Nat × List Nat)} (hf : fr L I I') (h1 : inS L 6 2 = false) (h2 : inS L 6 7 = false) (h3 : inS L 6 11 = false) (h4 : noR 7 15 L = true) : bD I' K :=
  h.of (hf 6 2 h1) (hf 6 7 h2) (hf 6 11 h3) (fun r k g1 g2 => hf r k (inS_no h4 g1 g2))
def cstp (K : Nat → Nat) (ms gl f m : Nat) : Nat :=
  (bL (m / 8) f (bH (ofK K 3) (m / 8) (dzs (ofK K 3) (K 3) (m % 8)) f) ||| sd (litS K (bL (m / 8) f (bH (ofK K 3) (m / 8) (dzs (ofK K 3) (K 3) (m % 8)) f) % 1024) ||| (if (bL (m / 8) f (bH (ofK K 3) (m / 8) (dzs (ofK K 3) (K 3) (m % 8)) f)).testBit 10 = true then gl else 0)) ms) * 8 + cde (ofK K 3) (bH (ofK K 3) (m / 8) (dzs (ofK K 3) (K 3) (m % 8)) f) (K 3)
theorem litS_lt {K : Nat → Nat} (ok : okR K) (s : Nat) : litS K s < 2 ^ 10 := lt_p11 ok (bset_lt _ _)
theorem bL_sub {b f h : Nat} (hh : ∀ i, h.testBit i = true → b.testBit i = true) (i : Nat) : (bL b f h).testBit i = true → b.testBit i = true := by
  unfold bL
  rw [Nat.testBit_or, sd_tb, Bool.or_eq_true, Bool.and_eq_true]
  rintro (⟨z, -⟩ | z)
  · exact z
  · exact hh i z
theorem bH_sub (T b z f i : Nat) : (bH T b z f).testBit i = true → b.testBit i = true ∧ f.testBit i = true ∧ T.testBit i = true ∧ z.testBit i = false := by
  unfold bH
  rw [sd_tb, Nat.testBit_and, Nat.testBit_and]
  simp only [Bool.and_eq_true, Bool.not_eq_true']
  exact fun ⟨⟨⟨a, b⟩, c⟩, d⟩ => ⟨a, b, c, d⟩
theorem mod_lt_of_sub {a b n : Nat} (h : ∀ i, a.testBit i = true → b.testBit i = true) (hb : b % 1024 < 2 ^ n) : a % 1024 < 2 ^ n := by
  apply Nat.lt_pow_two_of_testBit
  intro i hi
  rw [show 1024 = 2 ^ 10 from rfl, Nat.testBit_mod_two_pow]
  cases ha : a.testBit i
  · simp
  · have h2 := h i ha
    have h3 : (b % 2 ^ 10).testBit i = false := Nat.testBit_lt_two_pow (Nat.lt_of_lt_of_le hb (Nat.pow_le_pow_right (by decide) hi))
    rw [Nat.testBit_mod_two_pow, h2] at h3
    simpa using h3
section CD
variable {d n1 n2 : Nat} {fl : Nat → Bool} {p q : Bool} {ad : Nat → Nat} {I : mmI} {J : mmJ} {Q : mmQ} {K : Nat → Nat}
abbrev lyS : List (Nat × List Nat) := [(6, [1, 2, 7, 11, 13]), (7, []), (8, []), (9, []), (10, []), (11, []), (12, []), (13, []), (14, [])]
theorem ct_0 {I0 : mmI} (hK : cK I0 q K) (hw : cWy I0) (k : ∀ I, fr lyS I0 I → bD I K → I 6 1 = I0 6 1 + nI 1 → I 6 13 = nI 0 → Q none ((fl, n1, n2, q, q, ad), I, J)) : mm_wc (d + 4) 0 [.ref 6, .ref (mm_ck q 0)] ((fl, n1, n2, p, q, ad), I0, J) Q := by
  refine fx_0 ?_
  rw [hK.2.2.1, hK.2.2.2.2.1, z_mul, z_mul]
  have f1 : fr lyS I0 (mm_up (mm_up (mm_up I0 6 1 (I0 6 1 + nI 1)) 6 2 (nI (16 * K 4 * K 6))) 6 13 (nI 0)) := ((fr.rf.up rfl).up rfl).up rfl
  have e2 : mm_up (mm_up (mm_up I0 6 1 (I0 6 1 + nI 1)) 6 2 (nI (16 * K 4 * K 6))) 6 13 (nI 0) 6 2 = nI (nB K) := by rw [up_k (by decide), up_s]; rfl
  have e1 : mm_up (mm_up (mm_up I0 6 1 (I0 6 1 + nI 1)) 6 2 (nI (16 * K 4 * K 6))) 6 13 (nI 0) 6 1 = I0 6 1 + nI 1 := by rw [up_k (by decide), up_k (by decide), up_s]
  have e3 : mm_up (mm_up (mm_up I0 6 1 (I0 6 1 + nI 1)) 6 2 (nI (16 * K 4 * K 6))) 6 13 (nI 0) 6 13 = nI 0 := up_s _ _ _ _
  generalize mm_up (mm_up (mm_up I0 6 1 (I0 6 1 + nI 1)) 6 2 (nI (16 * K 4 * K 6))) 6 13 (nI 0) = I1 at *
  have K1 := hK.fr f1 rfl
  have w1 : cWy I1 := ⟨fun j hj => by rw [f1 66 j rfl]; exact hw.1 j hj, fun j hj => by rw [f1 67 j rfl]; exact hw.2 j hj⟩
  refine ct_1 K1 w1 e2 (fun I2 f2 g2 => ⟨_, _, rfl, rfl, ?_⟩)
  have K2 := K1.fr f2 rfl
  refine ct_3 hK.1 (by rw [f2 6 2 rfl]; exact e2) g2 (fun I3 u un uo f3 g3 => ⟨_, _, rfl, rfl, ?_⟩)
  have K3 := K2.fr f3 rfl
  refine ct_4 K3 (fun I4 f4 g4 g5 g6 => ⟨_, _, rfl, rfl, ?_⟩)
  have K4 := K3.fr f4 rfl
  refine ct_5 K4 (fun I5 f5 g7 => ⟨_, _, rfl, rfl, ?_⟩)
  refine k I5 ((((f1.tr (f2.sub rfl)).tr (f3.sub rfl)).tr (f4.sub rfl)).tr (f5.sub rfl)) ⟨hK.1, ?_, fun b hb => ?_, ⟨u, un, uo, g3.of ?_ (fun r k z1 z2 => ?_)⟩, ?_, fun t ht => ?_, fun e he => ?_, g7⟩ ?_ ?_
  · rw [f5 6 2 rfl, f4 6 2 rfl, f3 6 2 rfl, f2 6 2 rfl]; exact e2
  · rw [f5 7 b rfl, f4 7 b rfl, f3 7 b rfl]; exact g2 b hb
  · rw [f5 6 7 rfl, f4 6 7 rfl]
  · rw [f5 r k (inS_no (lo := 8) (hi := 12) rfl z1 z2), f4 r k (inS_no (lo := 8) (hi := 12) rfl z1 z2)]
  · rw [f5 6 11 rfl]; exact g4
  · rw [f5 13 t rfl]; exact g5 t ht
  · rw [f5 14 e rfl]; exact g6 e he
  · rw [f5 6 1 rfl, f4 6 1 rfl, f3 6 1 rfl, f2 6 1 rfl]; exact e1
  · rw [f5 6 13 rfl, f4 6 13 rfl, f3 6 13 rfl, f2 6 13 rfl]; exact e3
theorem cde_bs {T n z : Nat} (h3 : popc T n ≤ 3) : bset (fun t => z &&& tkB T n t != 0) 3 = cde T z n := by
  apply Nat.eq_of_testBit_eq
  intro t
  rw [bset_tb, Bool.eq_iff_iff, cde_tb]
  simp only [Bool.and_eq_true, decide_eq_true_eq, bne_iff_ne]
  rw [and_ne0]
  constructor
  · rintro ⟨-, c, h1, h2⟩
    rw [tkB_tb] at h2
    simp only [Bool.and_eq_true, decide_eq_true_eq, beq_iff_eq] at h2
    exact ⟨c, h2.1, h2.2.1, h1, h2.2.2⟩
  · rintro ⟨c, h1, h2, h4, h5⟩
    have := popc_lt h1 h2
    refine ⟨by omega, c, h4, ?_⟩
    rw [tkB_tb]
    simp [h1, h2, h5]
theorem ct_23 (hD : bD I K) {b z : Nat} (hz : z < 2 ^ 31) (k : Q (some (.int (nI (b * 8 + cde (ofK K 3) z (K 3))))) ((fl, n1, n2, p, q, ad), I, J)) : mm_wc (d + 1) 23 [.ref 6, .int (nI b), .int (nI z)] ((fl, n1, n2, p, q, ad), I, J) Q := by
  obtain ⟨ok, -, -, -, -, h13, -⟩ := hD
  have hc : cde (ofK K 3) z (K 3) < 2 ^ 3 := cde_lt ok.t
  have e8 : b * 2 ^ 3 ||| cde (ofK K 3) z (K 3) = b * 8 + cde (ofK K 3) z (K 3) := by rw [Nat.or_comm, or_mul hc, Nat.add_comm]
  have lp : ∀ m t, m + t = 3 → mm_w Q (mm_wc d) bk_23 9 [some (.ref 6), some (.int (nI b)), some (.int (nI z)), some (.int (nI (bset (fun t => z &&& tkB (ofK K 3) (K 3) t != 0) t))), some (.int (nI t))] [] ((fl, n1, n2, p, q, ad), I, J) := by
    intro m
    induction m with
    | zero =>
      intro t ht
      have : t = 3 := by omega
      subst this
      refine fx_23_9 ⟨fun _ => ?_, fun e => absurd (by rw [z_le (by decide) (by decide)]; omega) e⟩
      rw [z_shl (by decide), z_or, cde_bs ok.t, e8]; exact k
    | succ m ih =>
      intro t ht
      have ihc := ih (t + 1) (by omega)
      have hlt : z &&& tkB (ofK K 3) (K 3) t < 2 ^ 31 := Nat.lt_of_le_of_lt Nat.and_le_left hz
      refine fx_23_9 ?_
      simp (disch := omega) only [z_le, z_ix, h13, z_and, z_eq, z_bit, z_or, z_add]
      refine ⟨fun e => absurd e (by omega), fun _ => ⟨z_in (by omega) (by decide), fun e => ?_, fun e => ?_⟩⟩
      · rw [bset_f (by simp [e])] at ihc; exact ihc
      · rw [bset_t (by simpa using e)] at ihc; exact ihc
  refine fx_23 ?_
  rw [z_eq hz (by decide)]
  refine ⟨fun e => ?_, fun e => lp 3 0 rfl⟩
  subst e
  have e0 : cde (ofK K 3) 0 (K 3) = 0 := by
    apply Nat.eq_of_testBit_eq
    intro t
    rw [Nat.zero_testBit]
    cases hb : (cde (ofK K 3) 0 (K 3)).testBit t
    · rfl
    · obtain ⟨c, -, -, h4, -⟩ := (cde_tb _ _ _ _).mp hb
      rw [Nat.zero_testBit] at h4; cases h4
  rw [e0] at k
  rw [z_shl (by decide), z_or, Nat.or_zero]
  exact k
theorem ct_24 (hD : bD I K) {m f ms gl : Nat} (hm : m / 8 < 2 ^ 11) (hm2 : m / 8 % 1024 < 2 ^ K 3) (hms : I 6 13 = nI ms) (hgl : (m / 8).testBit 10 = true → I 6 14 = nI gl) (k : Q (some (.int (nI (cstp K ms gl f m)))) ((fl, n1, n2, p, q, ad), I, J)) : mm_wc (d + 2) 24 [.ref 6, .int (nI m), .int (nI f)] ((fl, n1, n2, p, q, ad), I, J) Q := by
  have hD' := hD
  obtain ⟨ok, -, -, -, h11, -, h14, h12⟩ := hD
  have hm3 : m < 2 ^ 14 := by omega
  refine fx_24 ?_
  have e7 : m &&& 7 = m % 8 := by rw [show (7 : Nat) = 2 ^ 3 - 1 from rfl, Nat.and_two_pow_sub_one_eq_mod]
  unfold cstp at k
  simp (disch := omega) only [z_and, e7, z_ix, h14, z_shr, h11, z_andn, z_or]
  change (vp_in _ _ ∧ _)
  have e3 : m / 2 ^ 3 = m / 8 := rfl
  rw [e3]
  have hhs := bH_sub (ofK K 3) (m / 8) (dzs (ofK K 3) (K 3) (m % 8)) f
  have hhl := bH_le (ofK K 3) (m / 8) (dzs (ofK K 3) (K 3) (m % 8)) f
  change (vp_in _ _ ∧ vp_in (nI (bL (m / 8) f (bH (ofK K 3) (m / 8) (dzs (ofK K 3) (K 3) (m % 8)) f) &&& 1023)) _ ∧ (nI (bL (m / 8) f (bH (ofK K 3) (m / 8) (dzs (ofK K 3) (K 3) (m % 8)) f) &&& 1024) = nI 0 → mm_wc _ _ [_, .int (nI (bL (m / 8) f (bH (ofK K 3) (m / 8) (dzs (ofK K 3) (K 3) (m % 8)) f)) ||| (I 12 ((nI (bL (m / 8) f (bH (ofK K 3) (m / 8) (dzs (ofK K 3) (K 3) (m % 8)) f) &&& 1023)).toNatClampNeg) &&& (I 6 13 ^^^ (-1)))), .int (nI (bH (ofK K 3) (m / 8) (dzs (ofK K 3) (K 3) (m % 8)) f))] _ _) ∧ (¬ nI (bL (m / 8) f (bH (ofK K 3) (m / 8) (dzs (ofK K 3) (K 3) (m % 8)) f) &&& 1024) = nI 0 → mm_wc _ _ [_, .int (nI (bL (m / 8) f (bH (ofK K 3) (m / 8) (dzs (ofK K 3) (K 3) (m % 8)) f)) ||| ((I 12 ((nI (bL (m / 8) f (bH (ofK K 3) (m / 8) (dzs (ofK K 3) (K 3) (m % 8)) f) &&& 1023)).toNatClampNeg) ||| I 6 14) &&& (I 6 13 ^^^ (-1)))), .int (nI (bH (ofK K 3) (m / 8) (dzs (ofK K 3) (K 3) (m % 8)) f))] _ _))
  generalize bH (ofK K 3) (m / 8) (dzs (ofK K 3) (K 3) (m % 8)) f = hh at *
  have hls := bL_sub (b := m / 8) (f := f) (h := hh) (fun i hi => (hhs i hi).1)
  generalize bL (m / 8) f hh = ll at *
  have hl2 : ll % 1024 < 2 ^ K 3 := mod_lt_of_sub hls hm2
  have h10 := ok.c
  have e1023 : ll &&& 1023 = ll % 1024 := by rw [show (1023 : Nat) = 2 ^ 10 - 1 from rfl, Nat.and_two_pow_sub_one_eq_mod]
  have hl3 : ll % 1024 < 1024 := Nat.mod_lt _ (by decide)
  have e1024 : (ll &&& 1024 = 0) ↔ ll.testBit 10 = false := by
    rw [show (1024 : Nat) = 2 ^ 10 from rfl, and_eq0]
    constructor
    · intro h
      cases hb : ll.testBit 10
      · rfl
      · have := h 10 hb; rw [tb_2pow] at this; simp at this
    · intro h i hi
      rw [tb_2pow]
      by_cases e : 10 = i
      · subst e; rw [h] at hi; cases hi
      · simp [e]
  rw [e1023, z_ix (by omega), h12 _ hl2, hms, z_eq (Nat.lt_of_le_of_lt Nat.and_le_right (by decide)) (by decide), e1024]
  refine ⟨z_in (Nat.mod_lt _ (by decide)) (by decide), z_in hl3 (by decide), fun e => ?_, fun e => ?_⟩
  · rw [z_andn, z_or]
    refine ct_23 hD' (by omega) ⟨_, _, _, rfl, rfl, ?_⟩
    rw [e] at k
    simpa using k
  · have e : ll.testBit 10 = true := by simpa using e
    rw [hgl (hls 10 e), z_or, z_andn, z_or]
    refine ct_23 hD' (by omega) ⟨_, _, _, rfl, rfl, ?_⟩
    rw [e] at k
    simpa using k
end CD
