/-! what was seen: the class -/
section TB
variable {d n1 n2 s1 s2 : Nat} {b0 b1 b2 p q : Bool} {ad : Nat → Nat} {J : mmJ} {Q : mmQ} {K : Nat → Nat} {I : mmI} {T : zT} {to : Bool} {P : zP} {tr l : Nat} {f : zF}
theorem ct_110 (hK : cK I p K) (h8 : K 8 = 1) {m : Nat} (hm : vm K False m) (k : Q (some (.int (nI (isL K m)))) ((mm_fl b0 b1 true, n1, n2, p, q, ad), I, J)) : mm_wc (d + 2) 110 [.ref 96, .int (nI m)] ((mm_fl b0 b1 true, n1, n2, p, q, ad), I, J) Q := by
  have ok := hK.1
  have hl := hm.lt ok
  have hK9 : K 9 < 2 ^ 10 := lt_p11 ok ok.2.2.2.2.2.2.2.2.1
  have e11 : I (mm_ck p 0) 11 = nI (K 9) := by
    have := hK.2.2.2.2.2.2.2.2.1
    rw [if_pos h8] at this; exact this
  refine fx_110 (ct_17 (by omega) ⟨_, _, _, rfl, rfl, ?_⟩)
  rw [e11, z_eq (by omega) (by omega)]
  unfold isL at k
  exact ⟨fun e => by rw [if_neg e] at k; exact k, fun e => by rw [if_pos e] at k; exact k⟩
theorem ct_109 (hK : cK I p K) (hD : bD I K) (hms : I 6 13 = nI 0) (h8 : K 8 = 1) {m : Nat} (hm : vm K False m) (k : Q (some (.int (nI (sumB (fun c => isL K (zst K m c)) (nB K))))) ((mm_fl b0 b1 true, n1, n2, p, q, ad), I, J)) : mm_wc (d + 3) 109 [.ref 96, .int (nI m)] ((mm_fl b0 b1 true, n1, n2, p, q, ad), I, J) Q := by
  have ok := hK.1
  have hB := nB_le ok
  obtain ⟨u, un, uo, u0, u1, u2, u3, u4, u5, u6, -⟩ := hD.2.2.2.1
  have tot : sumB (fun f => cntB (fun b => fanK K b == un f) (nB K) * isL K (cstp K 0 0 (un f) m)) u = sumB (fun c => isL K (zst K m c)) (nB K) := sum_uni (G := fun F => isL K (cstp K 0 0 F m)) u3 (fun b hb => ⟨uo b, (u4 b hb).2.1, (u4 b hb).2.2⟩)
  have lp : ∀ r f, r + f = u → mm_w Q (mm_wc (d + 2)) bk_109 4 [some (.ref 96), some (.int (nI m)), some (.int (nI (sumB (fun f => cntB (fun b => fanK K b == un f) (nB K) * isL K (cstp K 0 0 (un f) m)) f))), some (.int (nI f))] [] ((mm_fl b0 b1 true, n1, n2, p, q, ad), I, J) := by
    intro r
    induction r with
    | zero =>
      intro f hf
      have : f = u := by omega
      subst this
      refine fx_109_4 ?_
      rw [u0, z_le (by omega) (by omega), tot]
      exact ⟨fun _ => k, fun e => absurd (Nat.le_refl _) e⟩
    | succ r ih =>
      intro f hf
      obtain ⟨b, hb, eb⟩ := u5 f (by omega)
      have nx := ih (f + 1) (by omega)
      rw [sumB] at nx
      refine fx_109_4 ?_
      rw [u0, z_le (by omega) (by omega), z_ix (by omega), u2 f (by omega), u6 f (by omega), ← eb]
      refine ⟨fun e => by omega, fun _ => ⟨z_in (by omega) (by decide), z_in (by omega) (by decide), ct_24n hD hms hm ⟨_, _, _, rfl, rfl, ct_110 hK h8 (zst_vm ok hm b) ⟨_, _, _, rfl, rfl, ?_⟩⟩⟩⟩
      rw [z_mul, z_add, z_add]
      rw [← eb] at nx
      exact nx
  exact fx_109 (lp u 0 (by omega))
theorem ct_108 {j u : Nat} {un uo : Nat → Nat} (hK : cK I p K) (hD : bD I K) (hms : I 6 13 = nI 0) (h8 : K 8 = 1) (hu : uni (fanK K) I (nB K) u un uo) (j1 : 1 ≤ j) (j2 : j ≤ 2) (k : ∀ I', fr [(97, [])] I I' → (∀ f, f < u → I' 97 f = nI (rwG K j (un f))) → Q none ((mm_fl b0 b1 true, n1, n2, p, q, ad), I', J)) : mm_wc (d + 4) 108 [.ref 96, .int (nI j)] ((mm_fl b0 b1 true, n1, n2, p, q, ad), I, J) Q := by
  have ok := hK.1
  have hB := nB_le ok
  have hv := zall_vm K
  obtain ⟨u0, u1, u2, u3, u4, u5, u6, -⟩ := id hu
  have lp : ∀ r f, r + f = u → ∀ I', fr [(97, [])] I I' → (∀ f', f' < f → I' 97 f' = nI (rwG K j (un f'))) → mm_w Q (mm_wc (d + 3)) bk_108 10 [some (.ref 96), some (.int (nI j)), some (.int (nI (zall K))), some (.int (nI f)), none] [] ((mm_fl b0 b1 true, n1, n2, p, q, ad), I', J) := by
    intro r
    induction r with
    | zero =>
      intro f hf I' f1 hr
      have : f = u := by omega
      subst this
      refine fx_108_10 ?_
      rw [f1 6 7 rfl, u0, z_le (by omega) (by omega)]
      exact ⟨fun _ => k I' f1 hr, fun e => absurd (Nat.le_refl _) e⟩
    | succ r ih =>
      intro f hf I' f1 hr
      have hK1 := hK.fr f1 rfl
      have hD1 := hD.fr f1 rfl rfl rfl rfl
      have hm1 : I' 6 13 = nI 0 := by rw [f1 6 13 rfl]; exact hms
      obtain ⟨b, hb, eb⟩ := u5 f (by omega)
      have nx : ∀ w, w = rwG K j (un f) → mm_w Q (mm_wc (d + 3)) bk_108 10 [some (.ref 96), some (.int (nI j)), some (.int (nI (zall K))), some (.int (nI f + nI 1)), none] [] ((mm_fl b0 b1 true, n1, n2, p, q, ad), mm_up I' 97 f (nI w), J) := fun w hw => by
        rw [z_add]
        refine ih (f + 1) (by omega) _ (f1.up rfl) (fun f' hf' => ?_)
        by_cases e : f' = f
        · subst e; rw [up_s, hw]
        · rw [up_k e]; exact hr f' (by omega)
      refine fx_108_10 ?_
      rw [f1 6 7 rfl, u0, z_le (by omega) (by omega), z_ix (by omega), f1 9 f rfl, u2 f (by omega), ← eb, z_eq (by omega) (by decide)]
      refine ⟨fun e => by omega, fun _ => ⟨z_in (by omega) (by decide), ct_24n hD1 hm1 hv ⟨_, _, _, rfl, rfl, fun e => ct_109 hK1 hD1 hm1 h8 (zst_vm ok hv b) ⟨_, _, _, rfl, rfl, z_in (by omega) (by decide), nx _ ?_⟩, fun e => ct_110 hK1 h8 (zst_vm ok hv b) ⟨_, _, _, rfl, rfl, z_in (by omega) (by decide), nx _ ?_⟩⟩⟩⟩
      · unfold rwG; rw [if_neg e, ← eb]; rfl
      · unfold rwG; rw [if_pos e, ← eb]; rfl
  exact fx_108 (ct_16 hK hD ⟨_, _, _, rfl, rfl, lp u 0 (by omega) I fr.rf (fun f hf => absurd hf (Nat.not_lt_zero f))⟩)
theorem ct_106 {j : Nat} (hK : cK I p K) (hD : bD I K) (hms : I 6 13 = nI 0) (h8 : K 8 = 1) (j1 : 1 ≤ j) (j2 : j ≤ 2) (k : ∀ I', fr [(97, [])] I I' → Q (some (.int (nI (sumB (rwN K j) (nB K))))) ((mm_fl b0 b1 true, n1, n2, p, q, ad), I', J)) : mm_wc (d + 5) 106 [.ref 96, .int (nI j)] ((mm_fl b0 b1 true, n1, n2, p, q, ad), I, J) Q := by
  have ok := hK.1
  have hB := nB_le ok
  obtain ⟨u, un, uo, hu⟩ := hD.2.2.2.1
  obtain ⟨u0, u1, u2, u3, u4, u5, u6, -⟩ := id hu
  have tot : sumB (fun f => cntB (fun b => fanK K b == un f) (nB K) * rwG K j (un f)) u = sumB (rwN K j) (nB K) := sum_uni (G := fun F => rwG K j F) u3 (fun b hb => ⟨uo b, (u4 b hb).2.1, (u4 b hb).2.2⟩)
  refine fx_106 (ct_108 hK hD hms h8 hu j1 j2 (fun I1 f1 hr => ⟨_, _, rfl, rfl, ?_⟩))
  have lp : ∀ r f, r + f = u → mm_w Q (mm_wc (d + 4)) bk_106 9 [some (.ref 96), none, some (.int (nI (sumB (fun f => cntB (fun b => fanK K b == un f) (nB K) * rwG K j (un f)) f))), some (.int (nI f))] [] ((mm_fl b0 b1 true, n1, n2, p, q, ad), I1, J) := by
    intro r
    induction r with
    | zero =>
      intro f hf
      have : f = u := by omega
      subst this
      refine fx_106_9 ?_
      rw [f1 6 7 rfl, u0, z_le (by omega) (by omega), tot]
      exact ⟨fun _ => k I1 f1, fun e => absurd (Nat.le_refl _) e⟩
    | succ r ih =>
      intro f hf
      have nx := ih (f + 1) (by omega)
      rw [sumB] at nx
      refine fx_106_9 ?_
      rw [f1 6 7 rfl, u0, z_le (by omega) (by omega), z_ix (by omega), f1 10 f rfl, u6 f (by omega), hr f (by omega), z_mul, z_add, z_add]
      exact ⟨fun e => by omega, fun _ => ⟨z_in (by omega) (by decide), z_in (by omega) (by decide), nx⟩⟩
  exact lp u 0 (by omega)
theorem ct_107 {j : Nat} {y : Int32} (hK : cK I p K) (hD : bD I K) (hms : I 6 13 = nI 0) (h8 : K 8 = 1) (j1 : 1 ≤ j) (j2 : j ≤ 2) (kb : ∀ I' i b, fr [(97, [])] I I' → i < 2 ^ 31 → y = nI i → isFt K j i b → Q (some (.int (nI b))) ((mm_fl b0 b1 true, n1, n2, p, q, ad), I', J)) (kn : ∀ I', fr [(97, [])] I I' → (y < nI 0 ∨ ∃ i, i < 2 ^ 31 ∧ y = nI i ∧ sumB (rwN K j) (nB K) ≤ i) → Q (some (.int (-1))) ((mm_fl b0 b1 true, n1, n2, p, q, ad), I', J)) : mm_wc (d + 5) 107 [.ref 96, .int (nI j), .int y] ((mm_fl b0 b1 true, n1, n2, p, q, ad), I, J) Q := by
  have ok := hK.1
  have hB := nB_le ok
  obtain ⟨u, un, uo, hu⟩ := hD.2.2.2.1
  obtain ⟨u0, u1, u2, u3, u4, u5, u6, -⟩ := id hu
  refine fx_107 ?_
  rcases z_ca y with hy | ⟨i, hi, ey⟩
  · refine ⟨fun z => ?_, fun _ => kn I fr.rf (.inl hy)⟩
    rw [Int32.lt_iff_toInt_lt] at hy
    rw [Int32.le_iff_toInt_le] at z
    omega
  · rw [ey, z_le (by decide) hi]
    refine ⟨fun _ => ct_108 hK hD hms h8 hu j1 j2 (fun I1 f1 hr => ⟨_, _, rfl, rfl, ?_⟩), fun z => absurd (Nat.zero_le _) z⟩
    have lp : ∀ r b, r + b = nB K → sumB (rwN K j) b ≤ i → mm_w Q (mm_wc (d + 4)) bk_107 16 [some (.ref 96), none, none, some (.int (nI (i - sumB (rwN K j) b))), some (.int (nI b))] [] ((mm_fl b0 b1 true, n1, n2, p, q, ad), I1, J) := by
      intro r
      induction r with
      | zero =>
        intro b hb hs
        have : b = nB K := by omega
        subst this
        refine fx_107_16 ?_
        rw [f1 6 2 rfl, hD.2.1, z_le (by omega) (by omega)]
        exact ⟨fun _ => kn I1 f1 (.inr ⟨i, hi, ey, hs⟩), fun e => absurd (Nat.le_refl _) e⟩
      | succ r ih =>
        intro b hb hs
        obtain ⟨q1, q2, q3⟩ := u4 b (by omega)
        have hw : rwN K j b ≤ 320 := rwG_le ok j _
        have e97 : I1 97 (uo b) = nI (rwN K j b) := by rw [hr _ q2, q3]; rfl
        have hs1 : sumB (rwN K j) (b + 1) = sumB (rwN K j) b + rwN K j b := rfl
        refine fx_107_16 ?_
        rw [f1 6 2 rfl, hD.2.1, z_le (by omega) (by omega), z_ix (a := b) (by omega), f1 8 b rfl, q1, z_ix (by omega), e97, z_le0 (by omega) (by omega), z_add]
        refine ⟨fun e => by omega, fun _ => ⟨z_in (by omega) (by decide), z_in (by omega) (by decide), fun e => ?_, fun e => kb I1 i b f1 hi ey ⟨by omega, hs, by omega⟩⟩⟩
        rw [z_sub e]
        have nx := ih (b + 1) (by omega) (by omega)
        rw [hs1, Nat.sub_add_eq] at nx
        exact nx
    exact lp (nB K) 0 (by omega) (Nat.zero_le _)
theorem ct_158 {x : Int32} (h : CC T to K P tr f p q l I) (k0 : ∀ j, to = true → K 8 = 1 → 1 ≤ j → j ≤ 2 → x = nI j → Q (some (.int (nI 0))) ((mm_fl b0 b1 b2, n1, n2, p, q, ad), I, J)) (kr : ∀ I' w, fr trS I I' → CC T to K P w f p q l I' → (∀ V, ra_f to K x V (-1) w) → Q (some (.int (nI 1))) ((mm_fl b0 b1 b2, n1, n2, p, q, ad), I', J)) : mm_wc (d + 2) 158 [.ref 0, .int x] ((mm_fl b0 b1 b2, n1, n2, p, q, ad), I, J) Q := by
  refine fx_158 (ct_157 (by decide) h (fun j ht j1 j2 ej => ⟨_, _, _, rfl, rfl, fun _ => ?_, fun z => absurd rfl z⟩) (fun I' ht hn f' h' => ⟨_, _, _, rfl, rfl, fun z => absurd z n10, fun _ => kr I' 2 f' h' (fun V => .inr (.inr (.inl ⟨ht, hn, rfl, rfl⟩)))⟩) (fun I' ht f' h' => ⟨_, _, _, rfl, rfl, fun z => absurd z n10, fun _ => kr I' 1 f' h' (fun V => .inr (.inr (.inr ⟨ht, rfl, rfl⟩)))⟩))
  have hK := h.cake ht
  have ok := hK.1
  have hK9 : K 9 < 2 ^ 10 := lt_p11 ok ok.2.2.2.2.2.2.2.2.1
  have e11 := hK.2.2.2.2.2.2.2.2.1
  rw [e11]
  by_cases h8 : K 8 = 1
  · rw [if_pos h8, z_m2 (by omega)]
    exact ⟨fun _ => k0 j ht h8 j1 j2 ej, False.elim⟩
  · rw [if_neg h8]
    exact ⟨fun z => absurd rfl z, fun _ => kr _ 6 (fr.rf.up rfl) (h.trb (w := 6) (by decide) (by decide)) (fun V => .inr (.inl ⟨ht, h8, ⟨j, j1, j2, ej⟩, rfl, rfl⟩))⟩
abbrev tcA : List (Nat × List Nat) := [(0, [7]), (96, []), (97, [])]
theorem zr_frT {I : mmI} : fr tcA I (mm_zr 96 98 I) := by
  intro r k h
  show (if 96 ≤ r ∧ r < 98 then (fun _ => (0 : Int32)) else I r) k = I r k
  rw [if_neg]
  rintro ⟨h1, h2⟩
  have : r = 96 ∨ r = 97 := by omega
  rcases this with e | e <;> subst e <;> exact absurd h (by simp [inS, tcA])
theorem fl_2 (b0 b1 : Bool) : (fun j => if j = 2 then true else mm_fl b0 b1 false j) = mm_fl b0 b1 true := by
  funext j
  match j with
  | 0 => rfl
  | 1 => rfl
  | 2 => rfl
  | n + 3 => rfl
theorem CC_tc {tr' : Nat} {I' : mmI} (h : CC T to K P tr f p q l I) (hf : fr tcA I I') (h5 : I' 0 7 = nI tr') (h6 : tr' ≤ 6) (h7 : tr' = 4 → tr = 4) : CC T to K P tr' f p q l I' :=
  CC_tr h hf ⟨rfl, rfl, rfl⟩ rfl ⟨rfl, rfl, rfl, rfl, rfl⟩ rfl rfl h5 h6 h7
theorem CC_tf {L : List (Nat × List Nat)} {I' : mmI} (h : CC T to K P tr f p q l I) (hf : fr L I I') (h1 : subS L tcA = true) (h2 : inS L 0 7 = false) : CC T to K P tr f p q l I' :=
  CC_tc h (hf.sub h1) (by rw [hf 0 7 h2]; exact h.2.2.1) h.1.2.2.2.2.2.2.1 id
theorem ct_1012 (h : CC T to K P tr f p q l I) (k : ∀ ad' I', fr tcA I I' → CC T to K P tr f p q l I' → Q (some (.ref 96)) ((mm_fl b0 b1 true, 0, 0, p, q, ad'), I', J)) : mm_wc (d + 1) 1012 [.ref 0] ((mm_fl b0 b1 b2, owe 2 b2, owe 322 b2, p, q, ad), I, J) Q := by
  show mm_lz 2 96 2 322 96 98 ((mm_fl b0 b1 b2, owe 2 b2, owe 322 b2, p, q, ad), I, J) Q
  cases b2 with
  | true => exact k ad I fr.rf h
  | false =>
    refine ⟨Nat.le_refl _, Nat.le_refl _, fun ad' _ => ?_⟩
    have := k ad' (mm_zr 96 98 I) zr_frT (CC_tc h zr_frT (by rw [show mm_zr 96 98 I 0 7 = I 0 7 from rfl]; exact h.2.2.1) h.1.2.2.2.2.2.2.1 id)
    show Q (some (.ref 96)) (((fun j => if j = 2 then true else mm_fl b0 b1 false j), owe 2 false - 2, owe 322 false - 322, p, q, ad'), mm_zr 96 98 I, J)
    rw [fl_2, show owe 2 false - 2 = 0 by simp [owe], show owe 322 false - 322 = 0 by simp [owe]]
    exact this
theorem cd_144 {x : Int32} (h : CC T to K P tr f p q l I) (k : ∀ c2 ad' I' v t, fr tcA I I' → CC T to K P t f p q l I' → ra_fits to K x v t → Q (some (.int v)) ((mm_fl b0 b1 c2, s1 + owe 2 c2, s2 + owe 322 c2, p, q, ad'), I', J)) : mm_wc (d + 6) 144 [.ref 0, .int x] ((mm_fl b0 b1 b2, s1 + owe 2 b2, s2 + owe 322 b2, p, q, ad), I, J) Q := by
  refine fx_144 (ct_158 h (fun j ht h8 j1 j2 ej => ⟨_, _, _, rfl, rfl, fun _ => ?_, fun z => absurd rfl z⟩) (fun I' w f' h' hr => ⟨_, _, _, rfl, rfl, fun z => absurd z n10, fun _ => k b2 ad I' _ _ (f'.sub rfl) h' (hr _)⟩))
  refine ⟨owe 2 b2, owe 322 b2, Nat.le_add_left _ _, Nat.le_add_left _ _, ct_1012 h (fun ad2 I2 f2 h2 => ⟨_, _, ad2, I2, rfl, rfl, ?_⟩)⟩
  rw [ej]
  refine ct_106 (h2.cake ht) (h2.bd ht) h2.ms h8 j1 j2 (fun I3 f3 => ⟨_, _, _, rfl, rfl, ?_⟩)
  have h3 := CC_tf h2 f3 rfl rfl
  refine ct_160 h3 (fun I' f' h' => ⟨_, _, _, rfl, rfl, ?_⟩)
  rw [Nat.add_sub_cancel, Nat.add_sub_cancel]
  exact k true ad2 I' _ _ ((f2.tr (f3.sub rfl)).tr (f'.sub rfl)) h' (.inl ⟨ht, h8, j, j1, j2, ej, rfl, rfl⟩)
theorem cd_145 {x y : Int32} (h : CC T to K P tr f p q l I) (k : ∀ c2 ad' I' v t, fr tcA I I' → CC T to K P t f p q l I' → ra_fitAt to K x y v t → Q (some (.int v)) ((mm_fl b0 b1 c2, s1 + owe 2 c2, s2 + owe 322 c2, p, q, ad'), I', J)) : mm_wc (d + 6) 145 [.ref 0, .int x, .int y] ((mm_fl b0 b1 b2, s1 + owe 2 b2, s2 + owe 322 b2, p, q, ad), I, J) Q := by
  refine fx_145 (ct_158 h (fun j ht h8 j1 j2 ej => ⟨_, _, _, rfl, rfl, fun _ => ?_, fun z => absurd rfl z⟩) (fun I' w f' h' hr => ⟨_, _, _, rfl, rfl, fun z => absurd z n10, fun _ => k b2 ad I' _ _ (f'.sub rfl) h' (hr _)⟩))
  refine ⟨owe 2 b2, owe 322 b2, Nat.le_add_left _ _, Nat.le_add_left _ _, ct_1012 h (fun ad2 I2 f2 h2 => ⟨_, _, ad2, I2, rfl, rfl, ?_⟩)⟩
  have hB := nB_le (h2.ok ht)
  rw [ej]
  refine ct_107 (h2.cake ht) (h2.bd ht) h2.ms h8 j1 j2 (fun I3 i b f3 hi ey hb => ⟨_, _, _, rfl, rfl, ?_⟩) (fun I3 f3 hn => ⟨_, _, _, rfl, rfl, ?_⟩)
  · have h3 := CC_tf h2 f3 rfl rfl
    have hbB := hb.1
    rw [z_m1 (by omega)]
    refine ⟨fun _ => ct_160 h3 (fun I' f' h' => ⟨_, _, _, rfl, rfl, ?_⟩), False.elim⟩
    rw [Nat.add_sub_cancel, Nat.add_sub_cancel]
    exact k true ad2 I' _ _ ((f2.tr (f3.sub rfl)).tr (f'.sub rfl)) h' (.inl ⟨ht, h8, j, j1, j2, ej, .inl ⟨i, b, hi, ey, hb, rfl, rfl⟩⟩)
  · have h3 := CC_tf h2 f3 rfl rfl
    refine ⟨fun z => absurd rfl z, fun _ => ct_159 h3 (by decide) (by decide) (fun I' f' h' => ⟨_, _, _, rfl, rfl, ?_⟩)⟩
    rw [Nat.add_sub_cancel, Nat.add_sub_cancel]
    exact k true ad2 I' _ _ ((f2.tr (f3.sub rfl)).tr (f'.sub rfl)) h' (.inl ⟨ht, h8, j, j1, j2, ej, .inr ⟨hn, rfl, rfl⟩⟩)
end TB
