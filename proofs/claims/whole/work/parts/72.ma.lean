/-! the model's calls that act: note, blow, light, all, undo, image, back, led -/
theorem fanM_tb {R K : Nat → Nat} (ag : agR R K) (ok : okR K) {b i : Nat} (hb : b < nB K) (hi : i < K 3) : (fanM R 11 b).testBit i = (fanK K b).testBit i := by
  rw [← fanM_and ag ok hb, Nat.testBit_and, Nat.testBit_two_pow_sub_one]
  simp [hi]
theorem nearM_tb {R K : Nat → Nat} (ag : agR R K) (ok : okR K) {c e : Nat} (hc : c < K 3) (he : e < K 3) : (nearM R 11 c).testBit e = nrM K c e := by
  have h3 := ok.c
  unfold nearM
  rw [bset_tb, nrM_ag ag (by omega) (by omega)]
  have : e < 11 := by omega
  simp [this]
/-- without a guest; ms: what isn't there -/
theorem zcK {R K : Nat → Nat} (ag : agR R K) (ok : okR K) {b m ms th : Nat} (hb : b < nB K) (hm : vm K False m) (hms : ∀ i, (m / 8).testBit i = true → ms.testBit i = false) (hth : ∀ i, i < K 3 → th.testBit i = !ms.testBit i) : zstp R th (nearM R 11) (fanM R 11 b) m = cstp K ms 0 (fanK K b) m := by
  have h3 := ok.c
  have hb3 : ∀ i, (m / 8).testBit i = true → i < K 3 := fun i hi => by
    rcases hm.1 i hi with z | z
    · exact z
    · exact z.1.elim
  refine zc (ag 3 (by decide) (by decide) (by decide)) (fun c hc => ag (35 + c) (by omega) (by omega) (by omega)) (fun i hi => .inl (hb3 i hi)) h3.2 (fun i hi => fanM_tb ag ok hb (hb3 i hi)) (fun i hi _ => ?_) (fun i hi => hth i (lt_of_tb (ofK_lt K 2) hi)) (fun c hc e he => nearM_tb ag ok hc he) (fun z => ?_)
  · rw [hth i (hb3 i hi), hms i hi]; rfl
  · have := hb3 10 z; omega
theorem th_tb {n i : Nat} (hi : i < n) : (2 ^ n - 1 ||| 1024).testBit i = true := by
  rw [Nat.testBit_or, Nat.testBit_two_pow_sub_one]; simp [hi]
theorem dzK_cstp {K : Nat → Nat} (ok : okR K) (ms gl f m : Nat) : dzK K (cstp K ms gl f m) = bH (ofK K 3) (m / 8) (dzK K m) f := by
  unfold dzK
  rw [(cstp_d ok).2]
  have hhs := bH_sub (ofK K 3) (m / 8) (dzs (ofK K 3) (K 3) (m % 8)) f
  exact dzs_cde (fun c hc => ⟨lt_of_tb (ofK_lt K 3) (hhs c hc).2.2.1, (hhs c hc).2.2.1⟩)
theorem dzK_lt (K : Nat → Nat) (m : Nat) : dzK K m < 2 ^ K 3 := dzs_lt _ _ _
def pAct (P : zP) (m : Nat) : zP := (m, (if P.2.1 = 20 then 20 else P.2.1 + 1), (if P.2.1 = 20 then fun k => if k = 19 then P.1 else P.2.2.1 (k + 1) else ap P.2.2.1 P.2.1 P.1), P.2.2.2)
theorem pAct_2 (P : zP) (m m' : Nat) : (m', (pAct P m).2) = pAct P m' := rfl
section MA2
variable {d n1 n2 : Nat} {fl : Nat → Bool} {p q : Bool} {ad : Nat → Nat} {J : mmJ} {Q : mmQ} {T : zT} {to : Bool} {K : Nat → Nat} {P : zP} {tr : Nat} {f : zF} {I : mmI}
/-- a new past, told by what the model's cells hold -/
theorem MI.past {P' : zP} {I' : mmI} (h : MI T to K P tr f I) (ht : to = true) (hf : fr [(46, [0, 17, 18, 19, 20, 27]), (51, []), (52, [])] I I') (hv : vm K False P'.1 ∧ (∀ k, k < P'.2.1 → vm K False (P'.2.2.1 k)) ∧ (∀ k, k < P'.2.2.2.1 → vm K False (P'.2.2.2.2 k))) (hn : P'.2.1 ≤ 20) (hi : P'.2.2.2.1 ≤ 3)
    (h19 : I' 46 19 = nI P'.2.1) (h20 : I' 46 20 = nI P'.2.2.2.1) (h17 : I' 46 17 = nI (P'.1 / 8)) (h18 : I' 46 18 = nI (dzK K P'.1)) (h51 : ∀ k, k < P'.2.1 → I' 51 (2 * k) = nI (P'.2.2.1 k / 8) ∧ I' 51 (2 * k + 1) = nI (dzK K (P'.2.2.1 k))) (h52 : ∀ k, k < P'.2.2.2.1 → I' 52 (2 * k) = nI (P'.2.2.2.2 k / 8) ∧ I' 52 (2 * k + 1) = nI (dzK K (P'.2.2.2.2 k))) : MI T to K P' tr f I' := by
  obtain ⟨⟨z1, z2, z3, z4, z5, z6, z7, z8, z9⟩, a2, a3, a4, a5, a6, a7, a8, a9, a10, a11, a12⟩ := h
  obtain ⟨y1, y2, y3, y4, y5⟩ := z6 ht
  refine ⟨⟨z1, z2, hn, hi, fun z => (by rw [ht] at z; cases z), fun _ => ⟨y1, hv.1, hv.2.1, hv.2.2, y5⟩, z7, z8, z9⟩, by rw [hf 46 2 rfl]; exact a2, fun k hk => by rw [hf 47 k rfl]; exact a3 k hk, by rw [hf 46 9 rfl]; exact a4, fun z => by rw [hf 46 10 rfl]; exact a5 z, by rw [hf 46 11 rfl]; exact a6, by rw [hf 46 14 rfl]; exact a7, h19, h20, fun j hj => by rw [hf 55 j rfl]; exact a10 j hj, fun j hj => by rw [hf 56 j rfl]; exact a11 j hj, fun z => ?_⟩
  obtain ⟨⟨R, r1, r2⟩, b2, b3, b4, b5⟩ := a12 z
  exact ⟨⟨R, r1, r2.of (fun k _ => hf 49 k rfl) (fun k => hf 53 k rfl) (fun k => hf 54 k rfl)⟩, h17, h18, h51, h52⟩
theorem MI.vms (h : MI T to K P tr f I) (ht : to = true) : vm K False P.1 ∧ (∀ k, k < P.2.1 → vm K False (P.2.2.1 k)) ∧ (∀ k, k < P.2.2.2.1 → vm K False (P.2.2.2.2 k)) := ⟨(h.1.2.2.2.2.2.1 ht).2.1, (h.1.2.2.2.2.2.1 ht).2.2.1, (h.1.2.2.2.2.2.1 ht).2.2.2.1⟩
theorem MI.mem (h : MI T to K P tr f I) (ht : to = true) : I 46 17 = nI (P.1 / 8) ∧ I 46 18 = nI (dzK K P.1) ∧ (∀ k, k < P.2.1 → I 51 (2 * k) = nI (P.2.2.1 k / 8) ∧ I 51 (2 * k + 1) = nI (dzK K (P.2.2.1 k))) ∧ (∀ k, k < P.2.2.2.1 → I 52 (2 * k) = nI (P.2.2.2.2 k / 8) ∧ I 52 (2 * k + 1) = nI (dzK K (P.2.2.2.2 k))) := (h.2.2.2.2.2.2.2.2.2.2.2 ht).2
theorem ct_229 (h : MI T to K P tr f I) (ht : to = true) (k : ∀ I', fr [(46, [19]), (51, [])] I I' → MI T to K (pAct P P.1) tr f I' → Q none ((fl, n1, n2, p, q, ad), I', J)) : mm_wc (d + 1) 229 [.ref 46] ((fl, n1, n2, p, q, ad), I, J) Q := by
  have hna := h.1.2.2.1
  have hni := h.1.2.2.2.1
  have h19 := h.2.2.2.2.2.2.2.1
  have h20 := h.2.2.2.2.2.2.2.2.1
  obtain ⟨v1, v2, v3⟩ := h.vms ht
  obtain ⟨m1, m2, m3, m4⟩ := h.mem ht
  by_cases e20 : P.2.1 = 20
  · have lp : ∀ m j, m + j = 38 → ∀ I', fr [(51, [])] I I' → (∀ i, i < j → I' 51 i = I 51 (i + 2)) → (∀ i, j ≤ i → I' 51 i = I 51 i) → mm_w Q (mm_wc d) bk_229 11 [some (.ref 46), some (.int (nI j))] [] ((fl, n1, n2, p, q, ad), I', J) := by
      intro m
      induction m with
      | zero =>
        intro j hj I' hf g1 g2
        refine fx_229_11 ?_
        rw [hf 46 19 rfl, h19, e20, hf 46 17 rfl, hf 46 18 rfl]
        simp (disch := omega) only [z_le, z_sub, z_mul, z_add, z_ix]
        refine ⟨fun _ => ⟨z_in (by decide) (by decide), z_in (by decide) (by decide), ?_⟩, fun e => absurd (by omega) e⟩
        refine k _ ((((((hf.sub rfl).up rfl).up rfl).up rfl).up rfl)) (h.past ht ?_ ⟨v1, fun k hk => ?_, v3⟩ (by unfold pAct; simp [e20]) hni ?_ ?_ ?_ ?_ (fun k hk => ?_) (fun k hk => ?_))
        · exact (((((hf.sub rfl).up rfl).up rfl).up rfl).up rfl)
        · unfold pAct at hk ⊢
          simp only [e20, if_true] at hk ⊢
          split
          · exact v1
          · exact v2 (k + 1) (by omega)
        · unfold pAct; simp only [e20, if_true]; exact up_s _ _ _ _
        · simp (disch := omega) only [up_k, up_c]; rw [hf 46 20 rfl]; exact h20
        · simp (disch := omega) only [up_k, up_c]; rw [hf 46 17 rfl]; exact m1
        · simp (disch := omega) only [up_k, up_c]; rw [hf 46 18 rfl]; exact m2
        · unfold pAct at hk ⊢
          simp only [e20, if_true] at hk ⊢
          simp (disch := omega) only [up_c]
          by_cases ek : k = 19
          · subst ek
            simp only [if_true]
            rw [up_k (by decide), up_s, up_s]
            exact ⟨m1, m2⟩
          · simp only [ek, if_false]
            rw [up_k (by omega), up_k (by omega), up_k (by omega), up_k (by omega)]
            simp (disch := omega) only [up_c]
            rw [g1 (2 * k) (by omega), g1 (2 * k + 1) (by omega)]
            have := m3 (k + 1) (by omega)
            rw [show 2 * (k + 1) = 2 * k + 2 by omega] at this
            exact this
        · simp (disch := omega) only [up_c]; rw [hf 52 _ rfl, hf 52 _ rfl]; exact m4 k hk
      | succ m ih =>
        intro j hj I' hf g1 g2
        refine fx_229_11 ?_
        simp (disch := omega) only [z_le, z_add, z_ix]
        refine ⟨fun e => absurd e (by omega), fun _ => ⟨z_in (by omega) (by decide), z_in (by omega) (by decide), ih (j + 1) (by omega) _ (hf.up rfl) (fun i hi => ?_) (fun i hi => ?_)⟩⟩
        · by_cases e : i = j
          · subst e; rw [up_s]; exact g2 (i + 2) (by omega)
          · rw [up_k e]; exact g1 i (by omega)
        · rw [up_k (by omega)]; exact g2 i (by omega)
    refine fx_229 ⟨fun e => absurd (by rw [h19, e20]) e, fun _ => lp 38 0 rfl I fr.rf (fun i hi => absurd hi (by omega)) (fun i _ => rfl)⟩
  · refine fx_229 ⟨fun _ => ?_, fun e => absurd e (by rw [h19, z_eq (by omega) (by decide)]; exact e20)⟩
    rw [h19]
    simp (disch := omega) only [z_mul, z_add, z_ix]
    refine ⟨z_in (by omega) (by decide), z_in (by omega) (by decide), k _ (((fr.rf.up rfl).up rfl).up rfl) (h.past ht (((fr.rf.up rfl).up rfl).up rfl) ⟨v1, fun k hk => ?_, v3⟩ ?_ hni ?_ ?_ ?_ ?_ (fun k hk => ?_) (fun k hk => ?_))⟩
    · unfold pAct at hk ⊢
      simp only [e20, if_false] at hk ⊢
      by_cases ek : k = P.2.1
      · subst ek; rw [ap_eq]; exact v1
      · rw [ap_lt (by omega)]; exact v2 k (by omega)
    · unfold pAct; simp only [e20, if_false]; omega
    · unfold pAct; simp only [e20, if_false]; exact up_s _ _ _ _
    · simp (disch := omega) only [up_k, up_c]; exact h20
    · simp (disch := omega) only [up_k, up_c]; exact m1
    · simp (disch := omega) only [up_k, up_c]; exact m2
    · unfold pAct at hk ⊢
      simp only [e20, if_false] at hk ⊢
      simp (disch := omega) only [up_c]
      by_cases ek : k = P.2.1
      · subst ek
        rw [ap_eq, up_k (by omega), up_s, up_s]
        exact ⟨m1, m2⟩
      · rw [ap_lt (by omega), up_k (by omega), up_k (by omega), up_k (by omega), up_k (by omega)]
        exact m3 k (by omega)
    · simp (disch := omega) only [up_c]; exact m4 k hk
end MA2
