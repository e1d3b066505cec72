/-! walk: the model's public call -/
section WQ
variable {d n1 n2 : Nat} {fl : Nat → Bool} {p q : Bool} {ad : Nat → Nat} {J : mmJ} {Q : mmQ} {T : zT} {to : Bool} {K : Nat → Nat} {P : zP} {tr : Nat} {f : zF} {I : mmI}
abbrev waS : List (Nat × List Nat) := [(46, [27, 32, 33, 34, 35]), (57, []), (58, []), (59, []), (61, [])]
theorem MI_wa {I' : mmI} (h : MI T to K P tr f I) (hf : fr waS I I') : MI T to K P tr f I' :=
  h.tr hf (by rintro k (rfl | rfl | rfl | rfl | rfl | rfl | rfl | rfl) <;> rfl) rfl rfl rfl (by rw [hf 46 11 rfl]; exact h.2.2.2.2.2.1) h.1.2.2.2.2.2.2.1 id
theorem md_250 {x y : Int32} (h : MI T to K P tr f I) (k : ∀ I' v t, frM I I' → MI T to K P t f I' → rf (to = true ∧ ix (K 6) x ∧ ix (K 4) y) (va_walk K P x y) v t → Q (some (.int v)) ((fl, n1, n2, p, q, ad), I', J)) : mm_wc (d + 6) 250 [.ref 46, .int x, .int y] ((fl, n1, n2, p, q, ad), I, J) Q := by
  refine fx_250k (ct_166 h (fun I1 f1 h1 => ⟨_, _, rfl, rfl, ?_⟩))
  have no : ¬ (to = true ∧ ix (K 6) x ∧ ix (K 4) y) → mm_w Q (mm_wc (d + 5)) bk_250 20 [some (.ref 46), none, none, none, none, none, none, none, none, none, none, none, none] [] ((fl, n1, n2, p, q, ad), I1, J) := fun hn => fx_250k_20 (ct_167 h1 (by decide) (by decide) (fun I' f' h' => ⟨_, _, _, rfl, rfl, k I' _ _ (f1.tr f') h' (.inr ⟨hn, rfl, rfl⟩)⟩))
  refine ct_203 h1 (fun g ht hg eg => ⟨_, _, _, rfl, rfl, fun z => absurd z n10, fun _ => ?_⟩) (fun hn => ⟨_, _, _, rfl, rfl, fun _ => no (fun z => hn ⟨z.1, z.2.1⟩), fun z => absurd rfl z⟩)
  refine ct_202 h1 (fun pl _ hpl epl => ⟨_, _, _, rfl, rfl, fun _ => ?_, fun z => absurd z n10⟩) (fun hn => ⟨_, _, _, rfl, rfl, fun z => absurd rfl z, fun _ => no (fun z => hn ⟨z.1, z.2.2⟩)⟩)
  have hcond : to = true ∧ ix (K 6) x ∧ ix (K 4) y := ⟨ht, ⟨g, hg, eg⟩, ⟨pl, hpl, epl⟩⟩
  have hv := (h1.vms ht).1
  obtain ⟨ok, R, ag, mb⟩ := h1.cake ht
  have e3 := ag 3 (by decide) (by decide) (by decide)
  have h4 := ok.p
  have hB := agR_nB ag
  have hBl := nB_le ok
  rw [eg, epl]
  refine ct_234 (e := true) (F := fanM R 11) mb.1 mb.2.1 (fun b _ => Nat.lt_trans (bset_lt _ _) (by decide)) (fun I2 cnt al f2 g1 g2 g3 => ⟨_, _, rfl, rfl, ?_⟩)
  have mb1 : mB I2 R := mb.of (fun k _ => f2 49 k rfl) (fun k => f2 53 k rfl) (fun k => f2 54 k rfl)
  refine fx_240 (ct_224 mb1.1 ⟨_, _, rfl, rfl, ?_⟩)
  have f3 : fr ssS I1 (mm_up I2 46 27 (nI (2 ^ R 3 - 1 ||| 1024))) := (f2.sub rfl).up rfl
  have h3 := h1.ss f3
  obtain ⟨m1, m2, -, -⟩ := h3.mem ht
  rw [m1, m2]
  have mb2 : mB (mm_up I2 46 27 (nI (2 ^ R 3 - 1 ||| 1024))) R := mb1.of (fun k _ => up_c (by decide)) (fun k => up_c (by decide)) (fun k => up_c (by decide))
  have hC : mC (mm_up I2 46 27 (nI (2 ^ R 3 - 1 ||| 1024))) R (fanM R 11) (nearM R 11) (2 ^ R 3 - 1 ||| 1024) cnt al := ⟨⟨mb2.1, mb2.2.2, fun c _ => bset_lt _ _, up_s _ _ _ _, mb2.2.1, fun b _ => bset_lt _ _⟩, by rw [up_k (by decide)]; exact g1, by have := g3.1; omega, fun k hk => by rw [up_c (by decide)]; exact g2 k hk, fun k hk => (g3.2.1 k hk).1⟩
  refine ct_239 hC (z := dzK K P.1) (Nat.lt_trans (lt_p11 ok (dzK_lt K P.1)) (by decide)) (hv.lt ok) ?_ (fun I4 r hr => ⟨_, _, _, rfl, rfl, ⟨_, _, _, rfl, rfl, ?_⟩⟩)
  · rw [ofK_ag ag ok, e3]; exact hv.2.1.symm
  obtain ⟨qq, dp, tl, hd, q1, q2, q3, q4, q5, q6, q7, q8, q9⟩ := id hr
  have hC4 := hC.fr q1
  have f4 : fr ssS I1 I4 := f3.tr (q1.sub rfl)
  have h4' := h1.ss f4
  have hP : ∀ b, b < nB K → (aP R (nI g) (-1) (-1) (-1) b ↔ b / 16 / K 4 = g) := fun b hb => aP_pe ok ag hg hb
  have hg0 : ∀ i, Nat.testBit 0 i = true → i < K 3 := fun i hi => by rw [Nat.zero_testBit] at hi; cases hi
  have hz : ∀ b, b < nB K → ∀ m, vm K False m → zstp R (2 ^ R 3 - 1 ||| 1024) (nearM R 11) (fanM R 11 b) m = zst K m b := fun b hb m hm => zcK ag ok hb hm (fun i _ => Nat.zero_testBit i) (fun i hi => by rw [e3, th_tb hi]; simp)
  have rc : ∀ n m, rch (kby K g) P.1 n m ↔ rch (msc R (fanM R 11) (nearM R 11) (2 ^ R 3 - 1 ||| 1024) cnt al) P.1 n m := rch_congr (V := vmm K False 0) ⟨hv, fun i _ => Nat.zero_testBit i⟩ (ksc_V ok hg0) (fun m m' hV => msc_ksc hB g3 hP (fun b hb m hm => hz b hb m hm.1) m m' hV)
  have hD : isD (goal0 (kby K g) P.1) r := q8.congr (fun n => (goal0_congr rc n).symm)
  have ans : ∀ v, isW K g P.1 pl v → rf (to = true ∧ ix (K 6) x ∧ ix (K 4) y) (va_walk K P x y) v 0 := fun v hw => .inl ⟨hcond, ⟨g, pl, hg, eg, hpl, epl, hw⟩, rfl⟩
  refine ⟨fun e => fx_250k_50 (k I4 _ _ (f1.tr (fr.ssM f4)) h4' (ans _ (.inl ⟨by rw [← e]; exact hD, e⟩))), fun e => ?_⟩
  obtain ⟨L, eL, hL31, gL, gm⟩ := q8.resolve_right (fun z => e z.1)
  have hhd : hd < tl → L ≤ dp hd := fun z => by
    obtain ⟨L', e1, e2, e3⟩ := q9 z
    rw [eL, z_eq hL31 e2] at e1
    omega
  have near : ∀ n m, rch (kby K g) P.1 n m → n ≤ L → ∃ j, j < tl ∧ qq j = m ∧ dp j ≤ n := fun n m hm hn => q3.near (fun _ _ => Iff.rfl) n m ((rc n m).mp hm) (fun z => by have := hhd z; omega)
  have hLl : L < 16384 := by
    obtain ⟨m, hm1, hm2⟩ := gL
    obtain ⟨j, hj, e1, e2⟩ := near L m ((rc _ _).mpr hm1) (Nat.le_refl _)
    have := q4 j hj
    rcases Nat.lt_or_ge (dp j) L with z | z
    · exact absurd ⟨m, by rw [← e1]; exact q3.2.2.2.2.2.1 j hj, hm2⟩ (gm _ z)
    · omega
  rw [eL] at hD ⊢
  have hvm : ∀ i, i < tl → vm K False (qq i) := fun i hi => (rch_V (V := vmm K False 0) ⟨hv, fun i _ => Nat.zero_testBit i⟩ (ksc_V ok hg0) _ _ ((rc _ _).mpr (q3.2.2.2.2.2.1 i hi))).1
  have c : wC K g P.1 cnt al qq dp tl L := by
    refine ⟨ok, q3.2.2.1, q5, q3.1, q3.2.1, q3.2.2.2.2.1, hvm, q4, q3.2.2.2.2.2.2.1, fun i hi hdi k hk => ?_, fun k hk => ?_, fun b hb hbg => ?_, near, fun j hj => (rc _ _).mpr (q3.2.2.2.2.2.1 j hj), fun j n hj hn => q3.least (fun _ _ => Iff.rfl) hj ((rc _ _).mp hn)⟩
    · have hih : i < hd := by
        rcases Nat.lt_or_ge i hd with z | z
        · exact z
        · have := q3.2.2.2.2.2.2.1 hd i z hi
          have := hhd (by omega)
          omega
      obtain ⟨j, hj, ej, edj⟩ := q3.2.2.2.2.2.2.2.1 i hih k hk
      refine ⟨j, hj, ?_, edj⟩
      rw [ej]
      exact hz _ (by rw [← hB]; exact (g3.2.1 k hk).1) _ (hvm i hi)
    · have := g3.2.1 k hk
      rw [hB] at this
      exact ⟨this.1, (hP _ this.1).mp this.2⟩
    · obtain ⟨k, hk, -, -, e⟩ := g3.2.2.2 b (by rw [hB]; exact hb) ((hP b hb).mpr hbg)
      exact ⟨k, hk, e rfl⟩
  rw [z_eq (by omega) (by decide)]
  refine ⟨fun e0 => ?_, fun e0 => fx_250k_50 (k I4 _ _ (f1.tr (fr.ssM f4)) h4' (ans _ (.inr ⟨L, 0, by omega, hD, by rw [e0], by decide, ?_, fun _ _ _ _ _ => Nat.zero_le _⟩)))⟩
  · refine wm_fill (fun I5 f5 hl => ?_) 81920 0 rfl I4 fr.rf (fun j hj => absurd hj (Nat.not_lt_zero _))
    refine fx_250k_55 ⟨fun _ => ?_, fun e => absurd (by rw [z_le (by decide) (by decide)]; omega) e⟩
    have hsl := std_lt (hv.lt ok)
    rw [f5 46 34 rfl, q6, z_mul, z_add, z_ix (by omega)]
    refine ⟨z_in (by omega) (by decide), ?_⟩
    have e0q : qq 0 = P.1 := q3.1
    refine wmo_i c hpl hC4 q2 ag hz (by omega) (fun I' r' f' gg bb => ?_) tl 0 (by omega) _ (-1) (f5.up rfl) ⟨fun j a hj ha => ?_, by rw [e0q]; exact up_s _ _ _ _, fun i a k w j d1 => ?_⟩ (.inl ⟨rfl, fun j a l => ?_⟩)
    · have fA : fr waS I1 I' := (f4.sub rfl).tr (f'.sub rfl)
      exact k I' _ _ (f1.tr (fA.M rfl)) (MI_wa h1 fA) (ans _ (wW c hpl (by omega) hD gg bb (by omega)))
    · by_cases ec : 5 * std (qq j) + a = 5 * std P.1 + pl
      · have e1 : std (qq j) = std (qq 0) := by rw [e0q]; omega
        have ej : j = 0 := q3.2.2.2.2.1 j 0 hj (by have := q3.2.2.1; omega) (std_inj ((hvm j hj).lt ok) ((hvm 0 (by have := q3.2.2.1; omega)).lt ok) e1)
        have ea : a = pl := by rw [ej, e0q] at ec; omega
        refine .inr ⟨0, by rw [ec]; exact up_s _ _ _ _, ?_⟩
        rw [ej, q3.2.1]
        exact ⟨e0q, ea, rfl⟩
      · rw [up_k ec]
        exact .inl (hl _ (by have := std_lt ((hvm j hj).lt ok); omega))
    · unfold wD at d1; omega
    · unfold wLt at l; omega
  · obtain ⟨m, hm1, hm2⟩ := gL
    rw [e0] at hm1 ⊢
    exact ⟨P.1, pl, ⟨rfl, rfl, rfl⟩, by rw [← show m = P.1 from hm1]; exact hm2⟩
end WQ
