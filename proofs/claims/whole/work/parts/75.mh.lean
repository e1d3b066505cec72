/-! the model's spared, fans -/
theorem cntB_t {P : Nat → Bool} {b : Nat} (h : P b = true) : cntB P (b + 1) = cntB P b + 1 := by rw [cntB, h]; rfl
theorem cntB_f {P : Nat → Bool} {b : Nat} (h : P b = false) : cntB P (b + 1) = cntB P b := by rw [cntB, h]; rfl
def sprK (K : Nat → Nat) (B : Nat) : Nat := bset (fun c => cntB (fun b => (fanK K b).testBit c) B == 0) (K 3)
def nfan (K : Nat → Nat) (B : Nat) : Nat := cntB (fun b => (fanK K b != 0) && newB (fanK K) b) B
section MH
variable {d n1 n2 : Nat} {fl : Nat → Bool} {p q : Bool} {ad : Nat → Nat} {J : mmJ} {Q : mmQ} {T : zT} {to : Bool} {K : Nat → Nat} {P : zP} {tr : Nat} {f : zF} {I : mmI}
theorem md_220 (h : MI T to K P tr f I) (k : ∀ I' v t, frM I I' → MI T to K P t f I' → rf (to = true) (fun v => v = nI (sprK K (nB K))) v t → Q (some (.int v)) ((fl, n1, n2, p, q, ad), I', J)) : mm_wc (d + 3) 220 [.ref 46] ((fl, n1, n2, p, q, ad), I, J) Q := by
  refine fx_220 (ct_166 h (fun I1 f1 h1 => ⟨_, _, rfl, rfl, ?_⟩))
  rw [h1.told, bI_0]
  refine ⟨fun e => ?_, fun e => ct_167 h1 (by decide) (by decide) (fun I' f' h' => ⟨_, _, _, rfl, rfl, k I' _ _ (f1.tr f') h' (.inr ⟨by rw [e]; decide, rfl, rfl⟩)⟩)⟩
  have ht : to = true := by simpa using e
  obtain ⟨ok, R, ag, mb⟩ := h1.cake ht
  have hB := nB_le ok
  have lp : ∀ m b, m + b = nB K → mm_w Q (mm_wc (d + 2)) bk_220 24 [some (.ref 46), some (.int (nI (sprK K b))), some (.int (nI b))] [] ((fl, n1, n2, p, q, ad), I1, J) := by
    intro m
    induction m with
    | zero =>
      intro b hb
      refine fx_220_24 (ct_206 mb.1 ⟨_, _, _, rfl, rfl, ?_⟩)
      rw [agR_nB ag, z_le (by omega) (by omega)]
      have : b = nB K := by omega
      subst this
      exact ⟨fun _ => k I1 _ _ f1 h1 (.inl ⟨ht, rfl, rfl⟩), fun e => absurd (Nat.le_refl _) e⟩
    | succ m ih =>
      intro b hb
      refine fx_220_24 (ct_206 mb.1 ⟨_, _, _, rfl, rfl, ?_⟩)
      rw [agR_nB ag, z_le (by omega) (by omega), z_ix (by omega), mb.2.1 b (by rw [agR_nB ag]; omega), z_andn, z_add]
      refine ⟨fun e => absurd e (by omega), fun _ => ⟨z_in (by omega) (by decide), ?_⟩⟩
      have e : sd (sprK K b) (fanM R 11 b) = sprK K (b + 1) := by
        apply Nat.eq_of_testBit_eq
        intro i
        unfold sprK
        rw [sd_tb, bset_tb, bset_tb]
        by_cases hi : i < K 3
        · rw [fanM_tb ag ok (show b < nB K by omega) hi]
          cases hfb : (fanK K b).testBit i
          · rw [cntB_f (P := fun b => (fanK K b).testBit i) hfb]; simp
          · rw [cntB_t (P := fun b => (fanK K b).testBit i) hfb]; simp
        · simp [hi]
      rw [e]
      exact ih (b + 1) (by omega)
  refine ct_205 mb.1 ⟨_, _, _, rfl, rfl, ?_⟩
  have e0 : sprK K 0 = 2 ^ R 3 - 1 := by
    rw [ag 3 (by decide) (by decide) (by decide)]
    apply Nat.eq_of_testBit_eq
    intro i
    unfold sprK
    rw [bset_tb, Nat.testBit_two_pow_sub_one]
    simp [cntB]
  rw [← e0]
  exact lp (nB K) 0 (by omega)
theorem md_219 (h : MI T to K P tr f I) (k : ∀ I' v t, frM I I' → MI T to K P t f I' → rf (to = true) (fun v => v = nI (nfan K (nB K))) v t → Q (some (.int v)) ((fl, n1, n2, p, q, ad), I', J)) : mm_wc (d + 3) 219 [.ref 46] ((fl, n1, n2, p, q, ad), I, J) Q := by
  refine fx_219 (ct_166 h (fun I1 f1 h1 => ⟨_, _, rfl, rfl, ?_⟩))
  rw [h1.told, bI_0]
  refine ⟨fun e => ?_, fun e => ct_167 h1 (by decide) (by decide) (fun I' f' h' => ⟨_, _, _, rfl, rfl, k I' _ _ (f1.tr f') h' (.inr ⟨by rw [e]; decide, rfl, rfl⟩)⟩)⟩
  have ht : to = true := by simpa using e
  obtain ⟨ok, R, ag, mb⟩ := h1.cake ht
  have hB := nB_le ok
  have e3 := ag 3 (by decide) (by decide) (by decide)
  have lp : ∀ m b, m + b = nB K → mm_w Q (mm_wc (d + 2)) bk_219 21 [some (.ref 46), some (.int (nI (nfan K b))), some (.int (nI b)), none, none, none] [] ((fl, n1, n2, p, q, ad), I1, J) := by
    intro m
    induction m with
    | zero =>
      intro b hb
      refine fx_219_21 (ct_206 mb.1 ⟨_, _, _, rfl, rfl, ?_⟩)
      rw [agR_nB ag, z_le (by omega) (by omega)]
      have : b = nB K := by omega
      subst this
      exact ⟨fun _ => k I1 _ _ f1 h1 (.inl ⟨ht, rfl, rfl⟩), fun e => absurd (Nat.le_refl _) e⟩
    | succ m ih =>
      intro b hb
      have hbB : b < nB K := by omega
      have ihb := ih (b + 1) (by omega)
      have hcl := cntB_le (fun b => (fanK K b != 0) && newB (fanK K) b) b
      have hfl := lt_p11 ok (fanK_lt K b)
      refine fx_219_21 (ct_206 mb.1 ⟨_, _, _, rfl, rfl, ?_⟩)
      rw [agR_nB ag, z_le (by omega) (by omega), z_ix (by omega), mb.2.1 b (by rw [agR_nB ag]; exact hbB)]
      refine ⟨fun e => absurd e (by omega), fun _ => ⟨z_in (by omega) (by decide), ct_205 mb.1 ⟨_, _, _, rfl, rfl, ?_⟩⟩⟩
      rw [e3, z_and, fanM_and ag ok hbB, z_eq (by omega) (by decide)]
      have step0 : ((fanK K b != 0) && newB (fanK K) b) = false → mm_w Q (mm_wc (d + 2)) bk_219 21 [some (.ref 46), some (.int (nI (nfan K b) + nI 0)), some (.int (nI b + nI 1)), none, none, none] [] ((fl, n1, n2, p, q, ad), I1, J) := by
        intro e
        have en : nfan K (b + 1) = nfan K b + 0 := cntB_f (P := fun b => (fanK K b != 0) && newB (fanK K) b) e
        rw [en] at ihb
        rw [z_add, z_add]; exact ihb
      have step1 : ((fanK K b != 0) && newB (fanK K) b) = true → mm_w Q (mm_wc (d + 2)) bk_219 21 [some (.ref 46), some (.int (nI (nfan K b) + nI 1)), some (.int (nI b + nI 1)), none, none, none] [] ((fl, n1, n2, p, q, ad), I1, J) := by
        intro e
        have en : nfan K (b + 1) = nfan K b + 1 := cntB_t (P := fun b => (fanK K b != 0) && newB (fanK K) b) e
        rw [en] at ihb
        rw [z_add, z_add]; exact ihb
      have in0 : ((fanK K b != 0) && newB (fanK K) b) = false → ∀ j : Nat, j < 2 ^ 31 → mm_w Q (mm_wc (d + 2)) bk_219 55 [some (.ref 46), some (.int (nI (nfan K b))), some (.int (nI b)), some (.int (nI (fanK K b))), some (.int (nI 0)), some (.int (nI j))] [] ((fl, n1, n2, p, q, ad), I1, J) := by
        intro e j hj
        refine fx_219_55 ⟨fun _ => ⟨fun _ => step0 e, fun z => absurd rfl z⟩, fun _ => ⟨fun _ => ⟨fun _ => step0 e, fun z => absurd rfl z⟩, fun z => absurd rfl z⟩⟩
      have in1 : fanK K b ≠ 0 → ∀ n j, n + j = b → (∀ i, i < j → fanK K i ≠ fanK K b) → mm_w Q (mm_wc (d + 2)) bk_219 55 [some (.ref 46), some (.int (nI (nfan K b))), some (.int (nI b)), some (.int (nI (fanK K b))), some (.int (nI 1)), some (.int (nI j))] [] ((fl, n1, n2, p, q, ad), I1, J) := by
        intro h0 n
        induction n with
        | zero =>
          intro j hj hn
          have e1 : ((fanK K b != 0) && newB (fanK K) b) = true := by
            unfold newB
            rw [Bool.and_eq_true, bne_iff_ne]
            exact ⟨h0, decide_eq_true (fun i hi => hn i (by omega))⟩
          refine fx_219_55 ?_
          rw [z_le (by omega) (by omega)]
          exact ⟨fun _ => ⟨fun z => absurd z n10, fun _ => step1 e1⟩, fun z => absurd (by omega) z⟩
        | succ n ihn =>
          intro j hj hn
          have hfj := lt_p11 ok (fanK_lt K j)
          refine fx_219_55 ?_
          rw [z_le (by omega) (by omega), z_ix (by omega), mb.2.1 j (by rw [agR_nB ag]; omega)]
          refine ⟨fun z => absurd z (by omega), fun _ => ⟨fun z => absurd z n10, fun _ => ⟨z_in (by omega) (by decide), ct_205 mb.1 ⟨_, _, _, rfl, rfl, ?_⟩⟩⟩⟩
          rw [e3, z_and, fanM_and ag ok (show j < nB K by omega), z_eq (by omega) (by omega), z_add]
          refine ⟨fun e => in0 ?_ (j + 1) (by omega), fun e => ihn (j + 1) (by omega) (fun i hi => ?_)⟩
          · unfold newB
            rw [decide_eq_false (fun z => z j (by omega) e)]; simp
          · by_cases ei : i = j
            · subst ei; exact e
            · exact hn i (by omega)
      refine ⟨fun e => in0 (by rw [e]; rfl) 0 (by decide), fun e => in1 e b 0 (by omega) (fun i hi => absurd hi (by omega))⟩
  exact lp (nB K) 0 (by omega)
end MH
