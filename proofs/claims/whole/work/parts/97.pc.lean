/-! odds: the class; prepare, findChoices -/
abbrev chS : List (Nat × List Nat) := [(81, [9]), (92, []), (93, []), (94, []), (95, [])]
theorem zb0 {b : Nat} (hb : b < 320) : (nI b - nI (b % 16)) + (((nI (b % 16) + nI 16) - nI 1) - ((nI (b % 16) + nI 16) - nI 1) / nI 16 * nI 16) = nI (bre b 0) := by
  have := Nat.mod_le b 16
  rw [z_add, z_sub (a := b % 16 + 16) (b := 1) (by omega), z_rem (by omega) (by decide) (by decide), z_sub (by omega), z_add]
  congr 1; unfold bre; omega
theorem zb2 {b : Nat} (hb : b < 320) : (nI b - nI (b % 16)) + ((nI (b % 16) + nI 1) - (nI (b % 16) + nI 1) / nI 16 * nI 16) = nI (bre b 2) := by
  have := Nat.mod_le b 16
  rw [z_add, z_rem (by omega) (by decide) (by decide), z_sub (by omega), z_add]
  congr 1; unfold bre; omega
section PC
variable {d n1 n2 : Nat} {b0 b1 b2 p q : Bool} {ad : Nat → Nat} {I : mmI} {J : mmJ} {Q : mmQ} {K : Nat → Nat}
theorem ct_43 {I0 : mmI} (hD : bD I0 K) (hW : oWt K I0) (k : ∀ I ch fs, fr chS I0 I → oCh K (nB K) ch fs I → Q none ((mm_fl b0 true b2, n1, n2, p, q, ad), I, J)) : mm_wc (d + 2) 43 [.ref 81] ((mm_fl b0 true b2, n1, n2, p, q, ad), I0, J) Q := by
  have ok := hD.1
  have hB := nB_le ok
  obtain ⟨u, un, uo, hu⟩ := hD.2.2.2.1
  obtain ⟨u0, u1, u2, u3, u4, u5, -⟩ := id hu
  have wl : ∀ k, k < 3 → wt K k ≤ 9 := fun k hk => wt_le ok hk
  have lp : ∀ r b, r + b = nB K → ∀ I ch fs, fr chS I0 I → oCh K b ch fs I → mm_w Q (mm_wc (d + 1)) bk_43 7 [some (.ref 81), some (.int (nI b)), none, none] [] ((mm_fl b0 true b2, n1, n2, p, q, ad), I, J) := by
    intro r
    induction r with
    | zero =>
      intro b hb I ch fs hf hc
      have : b = nB K := by omega
      subst this
      refine fx_43k_7 ?_
      rw [hf 6 2 rfl, hD.2.1, z_le (by omega) (by omega)]
      exact ⟨fun _ => k I ch fs hf hc, fun e => absurd (Nat.le_refl _) e⟩
    | succ r ih =>
      intro b hb I ch fs hf hc
      obtain ⟨c0, c1, c2, c3, c4⟩ := hc
      have w0 : I 81 10 = nI (wt K 0) := by rw [hf 81 10 rfl]; exact hW.1
      have w1 : I 81 11 = nI (wt K 1) := by rw [hf 81 11 rfl]; exact hW.2.1
      have w2 : I 81 12 = nI (wt K 2) := by rw [hf 81 12 rfl]; exact hW.2.2
      have hl0 := wl 0 (by decide)
      have hl1 := wl 1 (by decide)
      have hl2 := wl 2 (by decide)
      have i8 : ∀ c, c < nB K → I 8 c = nI (uo c) := fun c hc => by rw [hf 8 c rfl]; exact (u4 c hc).1
      have hbr : ∀ k, bre b k < 320 := fun k => by have := bre_lt (K := K) (b := b) (k := k) (by omega); omega
      -- the last: is it new
      have s134 : ∀ I3, I3 = mm_up (mm_up (mm_up I 92 ch (if wt K 0 = 0 then nI 0 else I 8 (bre b 0))) 93 ch (if wt K 1 = 0 then nI 0 else I 8 (bre b 1))) 94 ch (if wt K 2 = 0 then nI 0 else I 8 (bre b 2)) → mm_wc (d + 1) 44 [.ref 81] ((mm_fl b0 true b2, 0, 0, p, q, ad), I3, J) (fun v τ => ∃ r1 I1 J1, v = some (.int r1) ∧ τ = (((mm_fl b0 true b2), 0, 0, p, q, ad), I1, J1) ∧ ((r1 = (nI 0) → mm_w Q (mm_wc (d + 1)) bk_43 162 [some (.ref 81), some (.int (nI b)), none, none] [] (((mm_fl b0 true b2), n1, n2, p, q, ad), I1, J1)) ∧ (¬ r1 = (nI 0) → (vp_in (I1 81 9) 320 ∧ mm_w Q (mm_wc (d + 1)) bk_43 162 [some (.ref 81), some (.int (nI b)), none, none] [] (((mm_fl b0 true b2), n1, n2, p, q, ad), (mm_up (mm_up I1 95 ((I1 81 9)).toNatClampNeg (nI b)) 81 9 ((I1 81 9) + (nI 1))), J1))))) := by
        intro I3 e3
        have f3 : fr chS I I3 := by rw [e3]; exact ((fr.rf.up rfl).up rfl).up rfl
        have a9 : I3 81 9 = nI ch := by rw [e3, up_c (by decide), up_c (by decide), up_c (by decide)]; exact c0
        have a8 : ∀ c, I3 8 c = I 8 c := fun c => f3 8 c rfl
        have a92 : ∀ i, I3 92 i = if i = ch then (if wt K 0 = 0 then nI 0 else I 8 (bre b 0)) else I 92 i := fun i => by
          rw [e3, up_c (by decide), up_c (by decide), up_eq]; simp
        have a93 : ∀ i, I3 93 i = if i = ch then (if wt K 1 = 0 then nI 0 else I 8 (bre b 1)) else I 93 i := fun i => by
          rw [e3, up_c (by decide), up_eq, up_c (by decide)]; simp
        have a94 : ∀ i, I3 94 i = if i = ch then (if wt K 2 = 0 then nI 0 else I 8 (bre b 2)) else I 94 i := fun i => by
          rw [e3, up_eq, up_c (by decide), up_c (by decide)]; simp
        have a95 : ∀ i, I3 95 i = I 95 i := fun i => by rw [e3, up_c (by decide), up_c (by decide), up_c (by decide)]
        clear e3
        have hF : ∀ i, i ≤ ch → ap fs ch b i < nB K := fun i hi => by
          unfold ap
          split
          · omega
          · have := (c2 i (by omega)).1; omega
        have gv : ∀ (k : Nat) (x : Int32) (i : Nat), i ≤ ch → x = (if wt K k = 0 then nI 0 else I 8 (bre (ap fs ch b i) k)) → x = nI (if wt K k = 0 then 0 else uo (bre (ap fs ch b i) k)) ∧ (if wt K k = 0 then 0 else uo (bre (ap fs ch b i) k)) < 2 ^ 31 := fun k x i hi hx => by
          have h4 := u4 _ (bre_lt (k := k) (hF i hi))
          rw [i8 _ (bre_lt (hF i hi))] at hx
          rw [hx]
          split
          · exact ⟨rfl, by decide⟩
          · exact ⟨rfl, by omega⟩
        have all : ∀ i, i ≤ ch → I3 92 i = (if wt K 0 = 0 then nI 0 else I 8 (bre (ap fs ch b i) 0)) ∧ I3 93 i = (if wt K 1 = 0 then nI 0 else I 8 (bre (ap fs ch b i) 1)) ∧ I3 94 i = (if wt K 2 = 0 then nI 0 else I 8 (bre (ap fs ch b i) 2)) := fun i hi => by
          rw [a92, a93, a94]
          by_cases e : i = ch
          · subst e
            rw [if_pos rfl, if_pos rfl, if_pos rfl, ap_eq]
            exact ⟨rfl, rfl, rfl⟩
          · rw [if_neg e, if_neg e, if_neg e, ap_lt (by omega)]
            exact (c2 i (by omega)).2.2
        refine ct_44 (ch := ch) (g0 := fun i => if wt K 0 = 0 then 0 else uo (bre (ap fs ch b i) 0)) (g1 := fun i => if wt K 1 = 0 then 0 else uo (bre (ap fs ch b i) 1)) (g2 := fun i => if wt K 2 = 0 then 0 else uo (bre (ap fs ch b i) 2)) a9 (by omega) (fun i hi => ?_) (fun _ => ⟨_, _, _, rfl, rfl, fun e => absurd e n10, fun _ => ?_⟩) (fun i hi g0 g1 g2 => ⟨_, _, _, rfl, rfl, fun _ => fx_43k_162 ?_, fun e => absurd rfl e⟩)
        · have h0 := gv 0 _ i hi (all i hi).1
          have h1 := gv 1 _ i hi (all i hi).2.1
          have h2 := gv 2 _ i hi (all i hi).2.2
          exact ⟨h0.1, h1.1, h2.1, h0.2, h1.2, h2.2⟩
        · rw [a9, z_ix (by omega), z_add]
          refine ⟨z_in (by omega) (by decide), fx_43k_162 ?_⟩
          rw [z_add]
          refine ih (b + 1) (by omega) _ (ch + 1) (ap fs ch b) (((hf.tr f3).up rfl).up rfl) ⟨up_s _ _ _ _, by omega, fun i hi => ?_, fun i j hij hj => ?_, fun b' hb' => ?_⟩
          · have gm : ∀ r k, r ≠ 95 → r ≠ 81 → mm_up (mm_up I3 95 ch (nI b)) 81 9 (nI (ch + 1)) r k = I3 r k := fun r k h1 h2 => by rw [up_c h2, up_c h1]
            rw [gm 92 i (by decide) (by decide), gm 93 i (by decide) (by decide), gm 94 i (by decide) (by decide), gm 8 _ (by decide) (by decide), gm 8 _ (by decide) (by decide), gm 8 _ (by decide) (by decide), up_c (r' := 95) (by decide), a8, a8, a8]
            refine ⟨?_, ?_, all i (by omega)⟩
            · unfold ap
              split
              · omega
              · have := (c2 i (by omega)).1; omega
            · by_cases e : i = ch
              · subst e; rw [up_s, ap_eq]
              · rw [up_k e, a95, ap_lt (by omega)]; exact (c2 i (by omega)).2.1
          · rw [ap_lt (by omega)]
            unfold ap
            split
            · exact (c2 i (by omega)).1
            · exact c3 i j hij (by omega)
          · by_cases e : b' = b
            · subst e
              exact ⟨ch, by omega, by rw [ap_eq]; exact Nat.le_refl _, fun k _ _ => by rw [ap_eq]⟩
            · obtain ⟨i, i1, i2, i3⟩ := c4 b' (by omega)
              exact ⟨i, by omega, by rw [ap_lt i1]; exact i2, fun k hk hw => by rw [ap_lt i1]; exact i3 k hk hw⟩
        · rw [z_add]
          refine ih (b + 1) (by omega) _ ch fs (hf.tr f3) ⟨a9, by omega, fun i hi => ?_, c3, fun b' hb' => ?_⟩
          · have := all i (by omega)
            rw [ap_lt hi] at this
            rw [a95, a8, a8, a8]
            have c := c2 i hi
            exact ⟨by omega, c.2.1, this⟩
          · by_cases e : b' = b
            · subst e
              rw [ap_lt hi, ap_eq] at g0 g1 g2
              have hfi := (c2 i hi).1
              refine ⟨i, hi, by omega, fun k hk hw => ?_⟩
              have e : uo (bre (fs i) k) = uo (bre b' k) := by
                have : k = 0 ∨ k = 1 ∨ k = 2 := by omega
                rcases this with rfl | rfl | rfl
                · rw [if_neg hw, if_neg hw] at g0; exact g0
                · rw [if_neg hw, if_neg hw] at g1; exact g1
                · rw [if_neg hw, if_neg hw] at g2; exact g2
              rw [← (u4 _ (bre_lt (b := fs i) (k := k) (by omega))).2.2, e, (u4 _ (bre_lt (b := b') (k := k) (by omega))).2.2]
            · exact c4 b' (by omega)
      have s98 : ∀ x0 x1, x0 = (if wt K 0 = 0 then nI 0 else I 8 (bre b 0)) → x1 = (if wt K 1 = 0 then nI 0 else I 8 (bre b 1)) → mm_w Q (mm_wc (d + 1)) bk_43 98 [some (.ref 81), some (.int (nI b)), some (.int (nI (b % 16))), some (.int (nI b - nI (b % 16)))] [.int x1, .int (nI ch), .ref 93] ((mm_fl b0 true b2, n1, n2, p, q, ad), mm_up I 92 ch x0, J) := by
        intro x0 x1 e0 e1
        subst e0; subst e1
        refine fx_43k_98 ?_
        rw [zb2 (by omega), z_ix (a := bre b 2) (Nat.lt_trans (hbr 2) (by decide)), z_ix (a := ch) (by omega), up_c (by decide), up_c (by decide), up_c (by decide), w2, c0, z_eq (by omega) (by decide)]
        refine ⟨z_in (by omega) (by decide), fun e => ⟨z_in (hbr 2) (by decide), fx_43k_134 ?_⟩, fun e => fx_43k_134 ?_⟩
        · rw [z_ix (by omega)]
          refine ⟨z_in (by omega) (by decide), s134 _ ?_⟩
          rw [if_neg e]
        · rw [z_ix (by omega)]
          refine ⟨z_in (by omega) (by decide), s134 _ ?_⟩
          rw [if_pos e]
      have s69 : ∀ x0, x0 = (if wt K 0 = 0 then nI 0 else I 8 (bre b 0)) → mm_w Q (mm_wc (d + 1)) bk_43 69 [some (.ref 81), some (.int (nI b)), some (.int (nI (b % 16))), some (.int (nI b - nI (b % 16)))] [.int x0, .int (nI ch), .ref 92] ((mm_fl b0 true b2, n1, n2, p, q, ad), I, J) := by
        intro x0 e0
        refine fx_43k_69 ?_
        rw [z_ix (by omega), z_ix (by omega), w1, c0, z_eq (by omega) (by decide)]
        refine ⟨z_in (by omega) (by decide), fun e => ⟨z_in (by omega) (by decide), s98 _ _ e0 ?_⟩, fun e => s98 _ _ e0 ?_⟩
        · rw [if_neg e, bre_1]
        · rw [if_pos e]
      refine fx_43k_7 ?_
      rw [hf 6 2 rfl, hD.2.1, z_le (by omega) (by omega)]
      refine ⟨fun e => by omega, fun _ => ct_10 (by omega) ⟨_, _, _, rfl, rfl, ?_⟩⟩
      rw [zb0 (by omega), z_ix (a := bre b 0) (Nat.lt_trans (hbr 0) (by decide)), w0, c0, z_eq (by omega) (by decide)]
      refine ⟨fun e => ⟨z_in (hbr 0) (by decide), s69 _ ?_⟩, fun e => s69 _ ?_⟩
      · rw [if_neg e]
      · rw [if_pos e]
  refine fx_43k (lp (nB K) 0 (by omega) _ 0 (fun _ => 0) (fr.rf.up rfl) ⟨up_s _ _ _ _, Nat.le_refl _, fun i hi => absurd hi (Nat.not_lt_zero i), fun i j _ hj => absurd hj (Nat.not_lt_zero j), fun b hb => absurd hb (Nat.not_lt_zero b)⟩)
/-- what the class keeps of odds -/
def ODi (to : Bool) (K : Nat → Nat) (l : Nat) (I : mmI) : Prop := (∃ l', I 81 1 = nI l' ∧ l' ≤ l) ∧ (to = true → I 81 1 = nI l → oKp K I ∧ oWt K I ∧ ∃ ch fs, oCh K (nB K) ch fs I)
abbrev odA : List (Nat × List Nat) := [(0, [7]), (81, []), (82, []), (83, []), (84, []), (85, []), (86, []), (87, []), (88, []), (89, []), (90, []), (91, []), (92, []), (93, []), (94, []), (95, [])]
abbrev odP : List (Nat × List Nat) := [(81, [1, 9, 10, 11, 12]), (83, []), (84, []), (86, []), (87, []), (89, []), (90, []), (91, []), (92, []), (93, []), (94, []), (95, [])]
theorem ct_42 {to : Bool} {l : Nat} (ht : to = true) (hD : bD I K) (hK : cK I p K) (hms : I 6 13 = nI 0) (h6 : I 6 1 = nI l) (hs : ODi to K l I) (k : ∀ I' ch fs, fr odP I I' → oB K ch fs I' → oKp K I' → Q none ((mm_fl b0 true b2, n1, n2, p, q, ad), I', J)) : mm_wc (d + 3) 42 [.ref 81] ((mm_fl b0 true b2, n1, n2, p, q, ad), I, J) Q := by
  refine fx_42 ⟨fun e => ?_, fun e => ?_⟩
  · have h1 : fr odP I (mm_up I 81 1 (I 6 1)) := fr.rf.up rfl
    have e1 : mm_up I 81 1 (I 6 1) 81 1 = I 6 1 := up_s _ _ _ _
    generalize mm_up I 81 1 (I 6 1) = Ia at h1 e1
    refine ct_279_83 (fun I1 f1 v1 => ⟨_, _, rfl, rfl, ct_279_86 (fun I2 f2 v2 => ⟨_, _, rfl, rfl, ct_279_84 (fun I3 f3 v3 => ⟨_, _, rfl, rfl, ct_279_87 (fun I4 f4 v4 => ⟨_, _, rfl, rfl, ?_⟩)⟩)⟩)⟩)
    have g4 : fr odP I I4 := (((h1.tr (f1.sub rfl)).tr (f2.sub rfl)).tr (f3.sub rfl)).tr (f4.sub rfl)
    have x83 : ∀ j, j < 8192 → I4 83 j = -1 := fun j hj => by rw [f4 83 j rfl, f3 83 j rfl, f2 83 j rfl]; exact v1 j hj
    have x86 : ∀ j, j < 8192 → I4 86 j = -1 := fun j hj => by rw [f4 86 j rfl, f3 86 j rfl]; exact v2 j hj
    have x84 : ∀ j, j < 8192 → I4 84 j = -1 := fun j hj => by rw [f4 84 j rfl]; exact v3 j hj
    have x1 : I4 81 1 = I 6 1 := by rw [f4 81 1 rfl, f3 81 1 rfl, f2 81 1 rfl, f1 81 1 rfl]; exact e1
    have hw := hK.2.2.2.2.2.2.2.2.2.2.2.2.2.2.2.2.2.2
    have c13 : ∀ j, I4 (mm_ck p 13) j = I (mm_ck p 13) j := fun j => g4.ck rfl p (by decide) j
    have g5 : fr odP I (mm_up (mm_up (mm_up I4 81 10 (I4 (mm_ck p 13) 0)) 81 11 (I4 (mm_ck p 13) 1)) 81 12 (I4 (mm_ck p 13) 2)) := ((g4.up rfl).up rfl).up rfl
    have y1 : mm_up (mm_up (mm_up I4 81 10 (I4 (mm_ck p 13) 0)) 81 11 (I4 (mm_ck p 13) 1)) 81 12 (I4 (mm_ck p 13) 2) 81 1 = I 6 1 := by rw [up_k (by decide), up_k (by decide), up_k (by decide)]; exact x1
    have yw : oWt K (mm_up (mm_up (mm_up I4 81 10 (I4 (mm_ck p 13) 0)) 81 11 (I4 (mm_ck p 13) 1)) 81 12 (I4 (mm_ck p 13) 2)) := by
      refine ⟨?_, ?_, ?_⟩
      · rw [up_k (by decide), up_k (by decide), up_s, c13]; exact hw 0 (by decide)
      · rw [up_k (by decide), up_s, c13]; exact hw 1 (by decide)
      · rw [up_s, c13]; exact hw 2 (by decide)
    have yo : ∀ r j, r ≠ 81 → mm_up (mm_up (mm_up I4 81 10 (I4 (mm_ck p 13) 0)) 81 11 (I4 (mm_ck p 13) 1)) 81 12 (I4 (mm_ck p 13) 2) r j = I4 r j := fun r j hr => by rw [up_c hr, up_c hr, up_c hr]
    generalize mm_up (mm_up (mm_up I4 81 10 (I4 (mm_ck p 13) 0)) 81 11 (I4 (mm_ck p 13) 1)) 81 12 (I4 (mm_ck p 13) 2) = I5 at *
    refine ct_43 (hD.fr g5 rfl rfl rfl rfl) yw (fun I6 ch fs f6 hc => ⟨_, _, rfl, rfl, k I6 ch fs (g5.tr (f6.sub rfl)) ⟨(hD.fr g5 rfl rfl rfl rfl).fr f6 rfl rfl rfl rfl, by rw [f6 6 13 rfl, g5 6 13 rfl]; exact hms, by rw [f6 81 1 rfl, f6 6 1 rfl, g5 6 1 rfl]; exact y1, ⟨by rw [f6 81 10 rfl]; exact yw.1, by rw [f6 81 11 rfl]; exact yw.2.1, by rw [f6 81 12 rfl]; exact yw.2.2⟩, hc⟩ (fun m hm => ?_)⟩)
    have hl := hm.l13 hD.1
    rw [f6 83 m rfl, f6 84 m rfl, f6 86 m rfl, f6 87 m rfl, yo 83 m (by decide), yo 84 m (by decide), yo 86 m (by decide), yo 87 m (by decide)]
    exact ⟨.inl (x83 m hl), .inl (x84 m hl), .inl (x86 m hl), .inl (v4 m hl)⟩
  · obtain ⟨k1, k2, ch, fs, k3⟩ := hs.2 ht (by rw [e, h6])
    exact k I ch fs fr.rf ⟨hD, hms, e, k2, k3⟩ k1
theorem oB_od {to : Bool} {l ch : Nat} {fs : Nat → Nat} (h6 : I 6 1 = nI l) (h : oB K ch fs I) (hk : oKp K I) : ODi to K l I := ⟨⟨l, by rw [h.2.2.1, h6], Nat.le_refl _⟩, fun _ _ => ⟨hk, h.2.2.2.1, ch, fs, h.2.2.2.2⟩⟩
theorem ODi.of {to : Bool} {l : Nat} {I' : mmI} (h : ODi to K l I) (hf : ∀ r k, 81 ≤ r → r < 96 → I' r k = I r k) (h8 : ∀ k, I' 8 k = I 8 k) : ODi to K l I' := by
  obtain ⟨⟨l', a1, a2⟩, b⟩ := h
  refine ⟨⟨l', by rw [hf 81 1 (by decide) (by decide)]; exact a1, a2⟩, fun ht hl => ?_⟩
  rw [hf 81 1 (by decide) (by decide)] at hl
  obtain ⟨k1, k2, ch, fs, c0, c1, c2, c3, c4⟩ := b ht hl
  refine ⟨fun m hm => ?_, ⟨by rw [hf 81 _ (by decide) (by decide)]; exact k2.1, by rw [hf 81 _ (by decide) (by decide)]; exact k2.2.1, by rw [hf 81 _ (by decide) (by decide)]; exact k2.2.2⟩, ch, fs, by rw [hf 81 _ (by decide) (by decide)]; exact c0, c1, fun i hi => ?_, c3, c4⟩
  · rw [hf 83 _ (by decide) (by decide), hf 84 _ (by decide) (by decide), hf 86 _ (by decide) (by decide), hf 87 _ (by decide) (by decide)]; exact k1 m hm
  · rw [hf 95 _ (by decide) (by decide), hf 92 _ (by decide) (by decide), hf 93 _ (by decide) (by decide), hf 94 _ (by decide) (by decide), h8, h8, h8]; exact c2 i hi
end PC
