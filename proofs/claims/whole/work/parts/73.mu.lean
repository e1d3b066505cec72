/-! the model's more -/
def glK (K : Nat → Nat) (j : Nat) : Nat := bset (fun c => (K (35 + c) == 2) && nrXY K c (K (56 + j)) (K (60 + j))) (K 3)
def fanG (K : Nat → Nat) (j b : Nat) : Nat := if inXY K b (K (56 + j)) (K (60 + j)) false = true then fanK K b ||| 2 ^ 10 else fanK K b
def zgu (m : Nat) : Nat := m + 8192
theorem zgu_d {m : Nat} (h : m / 8 < 2 ^ 10) : zgu m / 8 = m / 8 ||| 1024 ∧ zgu m % 8 = m % 8 := by
  have : m / 8 ||| 1024 = m / 8 + 1024 := by
    have := or_mul (a := m / 8) (h := 1) (k := 10) h
    rw [Nat.one_mul] at this
    exact this
  unfold zgu
  omega
theorem zgu_vm {K : Nat → Nat} (ok : okR K) {m : Nat} (h : vm K False m) : vmm K True 0 (zgu m) := by
  obtain ⟨e1, e2⟩ := zgu_d (lt_p11 ok h.lt0)
  unfold vmm vm
  rw [e1, e2]
  refine ⟨⟨fun i hi => ?_, h.2.1, fun c hc => by rw [Nat.testBit_or, h.2.2 c hc]; rfl⟩, fun i _ => Nat.zero_testBit i⟩
  rw [Nat.testBit_or, show (1024 : Nat) = 2 ^ 10 from rfl, tb_2pow, Bool.or_eq_true, decide_eq_true_eq] at hi
  rcases hi with z | z
  · rcases h.1 i z with y | y
    · exact .inl y
    · exact y.1.elim
  · exact .inr ⟨trivial, z.symm⟩
/-- with a guest at the spot j -/
theorem zcG {R K : Nat → Nat} (ag : agR R K) (ok : okR K) {b m j th : Nat} (hx : R 23 = K (56 + j)) (hy : R 34 = K (60 + j)) (h45 : K 45 = 0) (hb : b < nB K) (hm : vm K True m) (hth : ∀ i, i < K 3 → th.testBit i = true) : zstp R th (nearM R 11) (fanM R 11 b) m = cstp K 0 (glK K j) (fanG K j b) m := by
  have h3 := ok.c
  have h4 := ok.p
  have h6 := ok.h
  have hfl := lt_p11 ok (fanK_lt K b)
  refine zc (ag 3 (by decide) (by decide) (by decide)) (fun c hc => ag (35 + c) (by omega) (by omega) (by omega)) (fun i hi => ?_) h3.2 (fun i hi => ?_) (fun i _ hi => hth i (lt_of_tb (ofK_lt K 3) hi)) (fun i hi => by rw [hth i (lt_of_tb (ofK_lt K 2) hi)]; simp) (fun c hc e he => nearM_tb ag ok hc he) (fun _ c => ?_)
  · rcases hm.1 i hi with z | z
    · exact .inl z
    · exact .inr z.2
  · rcases hm.1 i hi with z | z
    · rw [fanM_tb ag ok hb z]
      unfold fanG
      split
      · rw [Nat.testBit_or, tb_2pow]
        have : ¬ 10 = i := by omega
        simp [this]
      · rfl
    · have e10 : i = 10 := z.2
      subst e10
      unfold fanM
      rw [bset_tb]
      obtain ⟨b1, b2⟩ := bd_ix ok hb
      have e : inM R b 10 = inXY K b (K (56 + j)) (K (60 + j)) false := by
        unfold inM inXY
        rw [show 13 + 10 = 23 from rfl, show 24 + 10 = 34 from rfl, show 35 + 10 = 45 from rfl, hx, hy, ag 45 (by decide) (by decide) (by decide), h45, ag 4 (by decide) (by decide) (by decide)]
        generalize b / 16 % K 4 = u at *
        generalize b / 16 / K 4 = w at *
        rw [ag (46 + u) (by omega) (by omega) (by omega), ag (51 + u) (by omega) (by omega) (by omega), ag (68 + w) (by omega) (by omega) (by omega), ag (64 + w) (by omega) (by omega) (by omega)]
        rfl
      rw [e]
      have f10 : (fanK K b).testBit 10 = false := Nat.testBit_lt_two_pow hfl
      unfold fanG
      split
      · rename_i hh; rw [hh, Nat.testBit_or, tb_2pow]; simp
      · rename_i hh; rw [f10]; simp [hh]
  · unfold glK
    rw [bset_tb]
    by_cases hc : c < K 3
    · rw [ofK_tb hc]
      unfold nearM
      rw [bset_tb]
      have e : nrM R c 10 = nrXY K c (K (56 + j)) (K (60 + j)) := by
        unfold nrM nrXY
        rw [show 13 + 10 = 23 from rfl, show 24 + 10 = 34 from rfl, hx, hy, ag 1 (by decide) (by decide) (by decide), ag (13 + c) (by omega) (by omega) (by omega), ag (24 + c) (by omega) (by omega) (by omega)]
        have : c ≠ 10 := by omega
        simp [this]
      rw [e]; simp [hc]
    · have : (ofK K 2).testBit c = false := by
        cases hz : (ofK K 2).testBit c
        · rfl
        · exact absurd (lt_of_tb (ofK_lt K 2) hz) hc
      simp [hc, this]
theorem glK_lt (K : Nat → Nat) (j : Nat) : ∀ i, (glK K j).testBit i = true → i < K 3 := fun i hi => lt_of_tb (bset_lt _ _) hi
def va_more (K : Nat → Nat) (P : zP) (x v : Int32) : Prop := ∃ j, j < K 5 ∧ x = nI j ∧ isD (goal0 (ksc K 0 (glK K j) (fanG K j) (fun _ => True)) (zgu P.1)) v
section MU
variable {d n1 n2 : Nat} {fl : Nat → Bool} {p q : Bool} {ad : Nat → Nat} {J : mmJ} {Q : mmQ} {T : zT} {to : Bool} {K : Nat → Nat} {P : zP} {tr : Nat} {f : zF} {I : mmI}
theorem MI.lay {I' : mmI} {R : Nat → Nat} (h : MI T to K P tr f I) (hf : fr [(49, []), (53, []), (54, [])] I I') (ag : agR R K) (mb : mB I' R) : MI T to K P tr f I' := by
  obtain ⟨a1, a2, a3, a4, a5, a6, a7, a8, a9, a10, a11, a12⟩ := h
  refine ⟨a1, by rw [hf 46 2 rfl]; exact a2, fun k hk => by rw [hf 47 k rfl]; exact a3 k hk, by rw [hf 46 9 rfl]; exact a4, fun z => by rw [hf 46 10 rfl]; exact a5 z, by rw [hf 46 11 rfl]; exact a6, by rw [hf 46 14 rfl]; exact a7, by rw [hf 46 19 rfl]; exact a8, by rw [hf 46 20 rfl]; exact a9, fun j hj => by rw [hf 55 j rfl]; exact a10 j hj, fun j hj => by rw [hf 56 j rfl]; exact a11 j hj, fun z => ?_⟩
  obtain ⟨-, b2, b3, b4, b5⟩ := a12 z
  exact ⟨⟨R, ag, mb⟩, by rw [hf 46 17 rfl]; exact b2, by rw [hf 46 18 rfl]; exact b3, fun k hk => by rw [hf 51 _ rfl, hf 51 _ rfl]; exact b4 k hk, fun k hk => by rw [hf 52 _ rfl, hf 52 _ rfl]; exact b5 k hk⟩
theorem md_271 {x : Int32} (h : MI T to K P tr f I) (k : ∀ I' v t, frM I I' → MI T to K P t f I' → rf (to = true ∧ ix (K 5) x) (va_more K P x) v t → Q (some (.int v)) ((fl, n1, n2, p, q, ad), I', J)) : mm_wc (d + 6) 271 [.ref 46, .int x] ((fl, n1, n2, p, q, ad), I, J) Q := by
  refine fx_271 (ct_166 h (fun I1 f1 h1 => ⟨_, _, rfl, rfl, ?_⟩))
  have no : ¬ (to = true ∧ ix (K 5) x) → mm_wc (d + 5) 167 [.ref 46, .int (nI 1)] ((fl, 0, 0, p, q, ad), I1, J) (fun v τ => ∃ r3 I3 J3, v = some (.int r3) ∧ τ = ((fl, 0, 0, p, q, ad), I3, J3) ∧ Q (some (.int r3)) ((fl, n1, n2, p, q, ad), I3, J3)) := fun hn => ct_167 h1 (by decide) (by decide) (fun I' f' h' => ⟨_, _, _, rfl, rfl, k I' _ _ (f1.tr f') h' (.inr ⟨hn, rfl, rfl⟩)⟩)
  rw [h1.told, bI_0]
  refine ⟨fun e => no (fun z => by rw [e] at z; cases z.1), fun e => ?_⟩
  have ht : to = true := by simpa using e
  obtain ⟨ok, R0, ag0, mb0⟩ := h1.cake ht
  have h5 := ok.s
  have e5 : I1 49 5 = nI (K 5) := by rw [mb0.1.2 5 (by decide), ag0 5 (by decide) (by decide) (by decide)]
  rw [e5]
  refine wiz (by omega) (fun j hj ej => ⟨_, _, _, rfl, rfl, fun _ => ?_, fun z => absurd z n10⟩) (fun hn => ⟨_, _, _, rfl, rfl, fun z => absurd rfl z, fun _ => no (fun z => hn z.2)⟩)
  rw [ej]
  simp (disch := omega) only [z_add, z_ix]
  rw [up_k (by omega), mb0.1.2 (56 + j) (by omega), mb0.1.2 (60 + j) (by omega), ag0 (56 + j) (by omega) (by omega) (by omega), ag0 (60 + j) (by omega) (by omega) (by omega)]
  refine ⟨z_in (by omega) (by decide), z_in (by omega) (by decide), ?_⟩
  -- the row with the guest
  have k56 := ok.xy (k := 56 + j) (by omega) (by omega)
  have k60 := ok.xy (k := 60 + j) (by omega) (by omega)
  have hg : ∃ R, agR R K ∧ R 23 = K (56 + j) ∧ R 34 = K (60 + j) ∧ mR (mm_up (mm_up I1 49 23 (nI (K (56 + j)))) 49 34 (nI (K (60 + j)))) R := by
    refine ⟨fun i => if i = 23 then K (56 + j) else if i = 34 then K (60 + j) else R0 i, fun i h1 h2 h3 => ?_, rfl, rfl, ?_, fun i hi => ?_⟩
    · show (if i = 23 then _ else if i = 34 then _ else R0 i) = K i
      rw [if_neg h2, if_neg h3]; exact ag0 i h1 h2 h3
    · have ok0 := mb0.1.1
      obtain ⟨o1, o2, o3, o4, o5, o6, o7, o8, o9, o10, o11, o12, o13, o14⟩ := ok0
      have eo : ∀ i, i ≠ 23 → i ≠ 34 → (if i = 23 then K (56 + j) else if i = 34 then K (60 + j) else R0 i) = R0 i := fun i g1 g2 => by rw [if_neg g1, if_neg g2]
      refine ⟨o1, o2, o3, o4, o5, o6, o7, o8, o9, fun i g1 g2 => ?_, o11, fun i g1 g2 => ?_, fun i g1 g2 => ?_, ?_⟩
      · show (if i = 23 then K (56 + j) else if i = 34 then K (60 + j) else R0 i) ≤ 9
        rw [eo i (by omega) (by omega)]; exact o10 i g1 g2
      · show (if i = 23 then K (56 + j) else if i = 34 then K (60 + j) else R0 i) ≤ 20
        by_cases e1 : i = 23
        · rw [if_pos e1]; exact k56
        · by_cases e2 : i = 34
          · rw [if_neg e1, if_pos e2]; exact k60
          · rw [eo i e1 e2]; exact o12 i g1 g2
      · show (if i = 23 then K (56 + j) else if i = 34 then K (60 + j) else R0 i) ≤ 30
        rw [eo i (by omega) (by omega)]; exact o13 i g1 g2
      · have : ofK (fun i => if i = 23 then K (56 + j) else if i = 34 then K (60 + j) else R0 i) 3 = ofK R0 3 := by
          unfold ofK
          show bset _ (R0 3) = _
          refine bset_congr (fun c hc => ?_)
          have := o1.2
          show ((if 35 + c = 23 then _ else if 35 + c = 34 then _ else R0 (35 + c)) == 3) = _
          rw [eo (35 + c) (by omega) (by omega)]
        rw [this]
        exact o14
    · show _ = nI (if i = 23 then _ else if i = 34 then _ else R0 i)
      by_cases e1 : i = 23
      · subst e1; rw [up_k (by decide), up_s, if_pos rfl]
      · by_cases e2 : i = 34
        · subst e2; rw [up_s, if_neg (by decide), if_pos rfl]
        · rw [up_k e2, up_k e1, if_neg e1, if_neg e2]; exact mb0.1.2 i hi
  obtain ⟨R, ag, hx, hy, hmR⟩ := hg
  have hw := h1.2.2.2.2.2.2.2.2.2.1
  have hw2 := h1.2.2.2.2.2.2.2.2.2.2.1
  refine ct_210 hmR (fun i hi => by rw [up_c (by decide), up_c (by decide)]; exact hw i hi) (fun i hi => by rw [up_c (by decide), up_c (by decide)]; exact hw2 i hi) (fun I2 f2 g1 g2 => ⟨_, _, rfl, rfl, ?_⟩)
  have mb2 : mB I2 R := ⟨hmR.of (fun i _ => f2 49 i rfl), g1, g2⟩
  have f12 : fr [(49, []), (53, []), (54, [])] I1 I2 := ((fr.rf.up rfl).up rfl).tr (f2.sub rfl)
  have h2 := h1.lay f12 ag mb2
  have e3 := ag 3 (by decide) (by decide) (by decide)
  have hB := agR_nB ag
  have hBl := nB_le ok
  refine ct_234 (e := false) (F := fanM R 11) mb2.1 mb2.2.1 (fun b _ => Nat.lt_trans (bset_lt _ _) (by decide)) (fun I3 cnt al f3 q1 q2 q3 => ⟨_, _, rfl, rfl, ?_⟩)
  have mb3 : mB I3 R := mb2.of (fun k _ => f3 49 k rfl) (fun k => f3 53 k rfl) (fun k => f3 54 k rfl)
  refine ct_224 mb3.1 ⟨_, _, rfl, rfl, ?_⟩
  have f4 : fr ssS I2 (mm_up I3 46 27 (nI (2 ^ R 3 - 1 ||| 1024))) := (f3.sub rfl).up rfl
  have h4 := h2.ss f4
  obtain ⟨m1, m2, -, -⟩ := h4.mem ht
  have hv := (h4.vms ht).1
  have h45 := (h4.1.2.2.2.2.2.1 ht).2.2.2.2
  obtain ⟨z1, z2⟩ := zgu_d (lt_p11 ok hv.lt0)
  rw [m1, m2, z_or, ← z1]
  have mb4 : mB (mm_up I3 46 27 (nI (2 ^ R 3 - 1 ||| 1024))) R := mb3.of (fun k _ => up_c (by decide)) (fun k => up_c (by decide)) (fun k => up_c (by decide))
  have hC : mC (mm_up I3 46 27 (nI (2 ^ R 3 - 1 ||| 1024))) R (fanM R 11) (nearM R 11) (2 ^ R 3 - 1 ||| 1024) cnt al := ⟨⟨mb4.1, mb4.2.2, fun c _ => bset_lt _ _, up_s _ _ _ _, mb4.2.1, fun b _ => bset_lt _ _⟩, by rw [up_k (by decide)]; exact q1, by have := q3.1; omega, fun k hk => by rw [up_c (by decide)]; exact q2 k hk, fun k hk => (q3.2.1 k hk).1⟩
  have hvg := zgu_vm ok hv
  refine ct_239 hC (z := dzK K P.1) (Nat.lt_trans (lt_p11 ok (dzK_lt K P.1)) (by decide)) (hvg.1.lt ok) (by rw [ofK_ag ag ok, e3, z2]; exact hv.2.1.symm) (fun I5 r hr => ⟨_, _, _, rfl, rfl, ?_⟩)
  obtain ⟨-, -, -, -, f5, -⟩ := id hr
  have f6 : fr ssS I2 I5 := f4.tr (f5.sub rfl)
  exact k I5 _ _ ((f1.tr (f12.M rfl)).tr (fr.ssM f6)) (h2.ss f6) (.inl ⟨⟨ht, j, hj, ej⟩, ⟨j, hj, ej, mSE_isD hr ok hB q3 (fun b hb => aP_allK ok ag hb) (glK_lt K j) (g := True) (fun b hb m hm => zcG ag ok hx hy h45 hb hm.1 (fun i hi => by rw [e3]; exact th_tb hi)) hvg⟩, rfl⟩)
end MU
