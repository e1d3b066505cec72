/-! odds: the class; likelinessOf, meanOf, by how many breaths -/
abbrev lk0 : List (Nat × List Nat) := []
abbrev lm0 : List (Nat × List Nat) := []
abbrev lk1 : List (Nat × List Nat) := [(83, []), (89, [])]
abbrev lm1 : List (Nat × List Nat) := [(86, []), (89, [])]
abbrev wc1 : List (Nat × List Nat) := [(89, [])]
abbrev wm1 : List (Nat × List Nat) := [(89, [])]
abbrev lk2 : List (Nat × List Nat) := [(83, []), (84, []), (89, []), (90, [])]
abbrev lm2 : List (Nat × List Nat) := [(86, []), (87, []), (89, []), (90, [])]
abbrev wc2 : List (Nat × List Nat) := [(83, []), (89, []), (90, [])]
abbrev wm2 : List (Nat × List Nat) := [(86, []), (89, []), (90, [])]
abbrev lk3 : List (Nat × List Nat) := [(83, []), (84, []), (89, []), (90, []), (91, [])]
abbrev lm3 : List (Nat × List Nat) := [(86, []), (87, []), (89, []), (90, []), (91, [])]
abbrev wc3 : List (Nat × List Nat) := [(83, []), (84, []), (89, []), (90, []), (91, [])]
abbrev wm3 : List (Nat × List Nat) := [(86, []), (87, []), (89, []), (90, []), (91, [])]
abbrev oOf (c : Nat) (g : Nat → Nat → Nat) (S : List (Nat × List Nat)) (K : Nat → Nat) (ch : Nat) (fs : Nat → Nat) (D n : Nat) : Prop := ∀ {n1 n2 : Nat} {b0 b2 p q : Bool} {ad : Nat → Nat} {I : mmI} {J : mmJ} {Q : mmQ} {m : Nat}, oB K ch fs I → oKp K I → vm K False m → (∀ I', fr S I I' → oKp K I' → Q (some (.int (nI (g n m)))) ((mm_fl b0 true b2, n1, n2, p, q, ad), I', J)) → mm_wc D c [.ref 81, .int (nI m), .int (nI n)] ((mm_fl b0 true b2, n1, n2, p, q, ad), I, J) Q
theorem zst_cg {K : Nat → Nat} {m b b' : Nat} (h : fanK K b = fanK K b') : zst K m b = zst K m b' := by unfold zst; rw [h]
theorem smk_cb {K : Nat → Nat} {g : Nat → Nat} {b b' : Nat} (h : ∀ k, k < 3 → wt K k ≠ 0 → g (bre b k) = g (bre b' k)) : smk K g b 3 = smk K g b' 3 := by
  have e : ∀ k, k < 3 → wt K k * g (bre b k) = wt K k * g (bre b' k) := fun k hk => by
    by_cases e : wt K k = 0
    · rw [e, Nat.zero_mul, Nat.zero_mul]
    · rw [h k hk e]
  show 0 + wt K 0 * g (bre b 0) + wt K 1 * g (bre b 1) + wt K 2 * g (bre b 2) = 0 + wt K 0 * g (bre b' 0) + wt K 1 * g (bre b' 1) + wt K 2 * g (bre b' 2)
  rw [e 0 (by decide), e 1 (by decide), e 2 (by decide)]
theorem ch_mx {K : Nat → Nat} {ch : Nat} {fs : Nat → Nat} {I : mmI} (h : oCh K (nB K) ch fs I) (n m : Nat) : mxB (fun i => byA K n m (fs i)) ch = mxB (byA K n m) (nB K) := by
  obtain ⟨-, -, e2, -, e4⟩ := h
  apply Nat.le_antisymm
  · exact mxB_le (fun i hi => mxB_ge (e2 i hi).1)
  · refine mxB_le (fun b hb => ?_)
    obtain ⟨i, hi, -, e⟩ := e4 b hb
    have : byA K n m b = byA K n m (fs i) := smk_cb (fun k hk hw => by rw [zst_cg (e k hk hw).symm])
    rw [this]
    exact mxB_ge (f := fun i => byA K n m (fs i)) hi
theorem ch_mn {K : Nat → Nat} {ch : Nat} {fs : Nat → Nat} {I : mmI} (h : oCh K (nB K) ch fs I) (n m c : Nat) : mnB (fun i => smk K (fun c => ctA K n (zst K m c)) (fs i) 3) c ch = mnB (fun b => smk K (fun c => ctA K n (zst K m c)) b 3) c (nB K) := by
  obtain ⟨-, -, e2, -, e4⟩ := h
  apply Nat.le_antisymm
  · rcases mnB_at (f := fun b => smk K (fun c => ctA K n (zst K m c)) b 3) (c := c) (n := nB K) with z | ⟨b, hb, z⟩
    · rw [z]; exact mnB_le _
    · rw [← z]
      obtain ⟨i, hi, -, e⟩ := e4 b hb
      have : smk K (fun c => ctA K n (zst K m c)) b 3 = smk K (fun c => ctA K n (zst K m c)) (fs i) 3 := smk_cb (fun k hk hw => by rw [zst_cg (e k hk hw).symm])
      show _ ≤ smk K (fun c => ctA K n (zst K m c)) b 3
      rw [this]
      exact mnB_ge (f := fun i => smk K (fun c => ctA K n (zst K m c)) (fs i) 3) hi
  · rcases mnB_at (f := fun i => smk K (fun c => ctA K n (zst K m c)) (fs i) 3) (c := c) (n := ch) with z | ⟨i, hi, z⟩
    · rw [z]; exact mnB_le _
    · rw [← z]
      exact mnB_ge (f := fun b => smk K (fun c => ctA K n (zst K m c)) b 3) (e2 i hi).1
theorem vm.l13 {K : Nat → Nat} {m : Nat} (ok : okR K) (h : vm K False m) : m < 8192 := by
  have := lt_p11 ok h.lt0
  omega
section PB
variable {d n1 n2 : Nat} {b0 b2 p q : Bool} {ad : Nat → Nat} {I : mmI} {J : mmJ} {Q : mmQ} {K : Nat → Nat} {ch : Nat} {fs : Nat → Nat}
theorem uni_od {L : List (Nat × List Nat)} {I' : mmI} {u : Nat} {un uo : Nat → Nat} (hu : uni (fanK K) I (nB K) u un uo) (hf : fr L I I') (hL : noR 6 12 L = true) : uni (fanK K) I' (nB K) u un uo := hu.of (hf 6 7 (inS_no hL (by decide) (by decide))) (fun r k h1 h2 => hf r k (inS_no hL (by omega) (by omega)))
theorem ct_46_0 : oOf 46 (chA K) lk0 K ch fs (d + 3) 0 := by
  intro n1 n2 b0 b2 p q ad I J Q m h hk hm k
  have ok := h.1.1
  have hl := hm.l13 ok
  refine fx_46_n0 ?_
  rw [z_eq (by omega) (by decide)]
  have := k I fr.rf hk
  refine ⟨fun e => ?_, fun e => ct_281 h.2.2.2.1 (by decide) ⟨_, _, _, rfl, rfl, ?_⟩⟩
  · rw [chA, if_neg (fun z => e (vm_0 ok hm z))] at this; exact this
  · subst e; exact this
theorem ct_48_0 : oOf 48 (ctA K) lm0 K ch fs (d + 3) 0 := by
  intro n1 n2 b0 b2 p q ad I J Q m h hk hm k
  exact fx_48_n0 (ct_18 (hm.lt h.1.1) ⟨_, _, _, rfl, rfl, k I fr.rf hk⟩)
theorem ct_47_1 {m u : Nat} {un uo : Nat → Nat} (ih : oOf 46 (chA K) lk0 K ch fs (d + 2) 0) (h : oB K ch fs I) (hk : oKp K I) (hm : vm K False m) (hu : uni (fanK K) I (nB K) u un uo) (k : ∀ I', fr wc1 I I' → oKp K I' → (∀ b, b < nB K → I' 89 (uo b) = nI (chA K 0 (zst K m b))) → Q none ((mm_fl b0 true b2, n1, n2, p, q, ad), I', J)) : mm_wc (d + 3) 47 [.ref 81, .int (nI m), .int (nI 1)] ((mm_fl b0 true b2, n1, n2, p, q, ad), I, J) Q := by
  have ok := h.1.1
  have hB := nB_le ok
  obtain ⟨u0, u1, u2, u3, u4, u5, -⟩ := id hu
  have lp : ∀ x f, x + f = u → ∀ I', fr wc1 I I' → oKp K I' → (∀ f', f' < f → I' 89 f' = nI (chA K 0 (cstp K 0 0 (un f') m))) → mm_w Q (mm_wc (d + 2)) bk_47 2 [some (.ref 81), some (.int (nI m)), some (.int (nI 1)), some (.int (nI f))] [] ((mm_fl b0 true b2, n1, n2, p, q, ad), I', J) := by
    intro x
    induction x with
    | zero =>
      intro f hf I' f1 k1 hr
      have : f = u := by omega
      subst this
      refine fx_47_n1_2 ?_
      rw [f1 6 7 rfl, u0, z_le (by omega) (by omega)]
      refine ⟨fun _ => k I' f1 k1 (fun b hb => ?_), fun e => absurd (Nat.le_refl _) e⟩
      rw [hr _ (u4 b hb).2.1, (u4 b hb).2.2]
      rfl
    | succ x ihx =>
      intro f hf I' f1 k1 hr
      have h1 := h.fr (f1.sub rfl)
      refine fx_47_n1_2 ?_
      obtain ⟨b, hb, eb⟩ := u5 f (by omega)
      rw [f1 6 7 rfl, u0, z_le (by omega) (by omega), z_ix (by omega), f1 9 f rfl, u2 f (by omega), ← eb]
      refine ⟨fun e => by omega, fun _ => ⟨z_in (by omega) (by decide), ct_24n h1.1 h1.2.1 hm ⟨_, _, _, rfl, rfl, ?_⟩⟩⟩
      refine ih h1 k1 (zst_vm ok hm b) (fun I2 f2 k2 => ⟨_, _, _, rfl, rfl, z_in (by omega) (by decide), ?_⟩)
      rw [z_add]
      refine ihx (f + 1) (by omega) _ ((f1.tr (f2.sub rfl)).up rfl) (k2.fr (L := [(89, [])]) (fr.rf.up rfl) rfl) (fun f' hf' => ?_)
      by_cases e : f' = f
      · subst e
        rw [up_s, ← eb]; rfl
      · rw [up_k e, f2 89 f' rfl]; exact hr f' (by omega)
  exact fx_47_n1 (lp u 0 (by omega) I fr.rf hk (fun f hf => absurd hf (Nat.not_lt_zero f)))
theorem ct_46_1 (ih : oOf 46 (chA K) lk0 K ch fs (d + 2) 0) : oOf 46 (chA K) lk1 K ch fs (d + 4) 1 := by
  intro n1 n2 b0 b2 p q ad I J Q m h hk hm k
  have ok := h.1.1
  have hB := nB_le ok
  have hl := hm.l13 ok
  obtain ⟨u, un, uo, hu⟩ := h.1.2.2.2.1
  have hch : ch ≤ nB K := h.2.2.2.2.2.1
  have hwp := ws_pow ok (n := 1) (by decide)
  have hby : ∀ b, b < nB K → byA K 0 m b ≤ 19683 := fun b hb => Nat.le_trans (smk_le hb (fun c _ => chA_le 0 _)) (by rw [Nat.mul_comm, ← Nat.pow_succ]; exact hwp.2)
  have hfs : ∀ i, i < ch → fs i < nB K := fun i hi => (h.2.2.2.2.2.2.1 i hi).1
  have go : m / 8 ≠ 0 → mm_wc (d + 3) 47 [.ref 81, .int (nI m), .int (nI 1)] ((mm_fl b0 true b2, 0, 0, p, q, ad), I, J) (fun v τ => ∃ I1 J1, v = none ∧ τ = (((mm_fl b0 true b2), 0, 0, p, q, ad), I1, J1) ∧ mm_w Q (mm_wc (d + 3)) bk_46 62 [some (.ref 81), some (.int (nI m)), some (.int (nI 1)), some (.int (nI 0)), some (.int (nI 0))] [] (((mm_fl b0 true b2), n1, n2, p, q, ad), I1, J1)) := fun h0 => by
    have e1 : chA K 1 m = mxB (byA K 0 m) (nB K) := by rw [chA, if_neg h0]; rfl
    refine ct_47_1 ih h hk hm hu (fun I1 f1 k1 hr => ⟨_, _, rfl, rfl, ?_⟩)
    have h1 := h.fr (f1.sub rfl)
    have hu1 := uni_od hu f1 rfl
    have lp : ∀ x i, x + i = ch → mm_w Q (mm_wc (d + 3)) bk_46 62 [some (.ref 81), some (.int (nI m)), some (.int (nI 1)), some (.int (nI (mxB (fun i => byA K 0 m (fs i)) i))), some (.int (nI i))] [] (((mm_fl b0 true b2), n1, n2, p, q, ad), I1, J) := by
      intro x
      induction x with
      | zero =>
        intro i hi
        have : i = ch := by omega
        subst this
        refine fx_46_n1_62 ?_
        rw [h1.2.2.2.2.1, z_le (by omega) (by omega)]
        refine ⟨fun _ => ⟨z_in hl (by decide), ?_⟩, fun e => absurd (Nat.le_refl _) e⟩
        rw [z_ix (by omega), ch_mx h.2.2.2.2, ← e1]
        exact k _ ((f1.sub rfl).up rfl) (k1.up83 m)
      | succ x ihx =>
        intro i hi
        have hb1 := hby (fs i) (hfs i (by omega))
        have hb2 : mxB (fun i => byA K 0 m (fs i)) i ≤ 19683 := mxB_le (fun j hj => hby _ (hfs j (by omega)))
        refine fx_46_n1_62 ?_
        rw [h1.2.2.2.2.1, z_le (by omega) (by omega)]
        refine ⟨fun e => by omega, fun _ => ct_45_1 h1 hu1 hr (by omega) ⟨_, _, _, rfl, rfl, sx_max ⟨_, _, _, rfl, rfl, ?_⟩⟩⟩
        have nx := ihx (i + 1) (by omega)
        rw [mxB] at nx
        show mm_w Q (mm_wc (d + 3)) bk_46 62 [some (.ref 81), some (.int (nI m)), some (.int (nI 1)), some (.int (if nI (mxB (fun i => byA K 0 m (fs i)) i) < nI (byA K 0 m (fs i)) then nI (byA K 0 m (fs i)) else nI (mxB (fun i => byA K 0 m (fs i)) i))), some (.int (nI i + nI 1))] [] (((mm_fl b0 true b2), n1, n2, p, q, ad), I1, J)
        rw [z_add]
        by_cases e : mxB (fun i => byA K 0 m (fs i)) i < byA K 0 m (fs i)
        · rw [if_pos (by rw [z_lt (by omega) (by omega)]; exact e)]
          rw [Nat.max_eq_right (by omega)] at nx; exact nx
        · rw [if_neg (by rw [z_lt (by omega) (by omega)]; exact e)]
          rw [Nat.max_eq_left (by omega)] at nx; exact nx
    exact lp ch 0 (by omega)
  refine fx_46_n1 ?_
  rw [z_eq (by omega) (by decide)]
  refine ⟨fun e => ⟨z_in hl (by decide), ?_⟩, fun e => ct_281 h.2.2.2.1 (by decide) ⟨_, _, _, rfl, rfl, ?_⟩⟩
  · have h0 : m / 8 ≠ 0 := fun z => e (vm_0 ok hm z)
    rw [z_ix (by omega)]
    have hz : (I 83 m = -1) ∨ ¬ (I 83 m = -1) := Classical.em _
    refine ⟨fun _ => go h0, fun z => ⟨z_in hl (by decide), ?_⟩⟩
    rw [((hk m hm).1).resolve_left z]
    exact k I fr.rf hk
  · subst e
    have := k I fr.rf hk
    exact this
theorem ct_47_2 {m u : Nat} {un uo : Nat → Nat} (ih : oOf 46 (chA K) lk1 K ch fs (d + 2) 1) (h : oB K ch fs I) (hk : oKp K I) (hm : vm K False m) (hu : uni (fanK K) I (nB K) u un uo) (k : ∀ I', fr wc2 I I' → oKp K I' → (∀ b, b < nB K → I' 90 (uo b) = nI (chA K 1 (zst K m b))) → Q none ((mm_fl b0 true b2, n1, n2, p, q, ad), I', J)) : mm_wc (d + 3) 47 [.ref 81, .int (nI m), .int (nI 2)] ((mm_fl b0 true b2, n1, n2, p, q, ad), I, J) Q := by
  have ok := h.1.1
  have hB := nB_le ok
  obtain ⟨u0, u1, u2, u3, u4, u5, -⟩ := id hu
  have lp : ∀ x f, x + f = u → ∀ I', fr wc2 I I' → oKp K I' → (∀ f', f' < f → I' 90 f' = nI (chA K 1 (cstp K 0 0 (un f') m))) → mm_w Q (mm_wc (d + 2)) bk_47 2 [some (.ref 81), some (.int (nI m)), some (.int (nI 2)), some (.int (nI f))] [] ((mm_fl b0 true b2, n1, n2, p, q, ad), I', J) := by
    intro x
    induction x with
    | zero =>
      intro f hf I' f1 k1 hr
      have : f = u := by omega
      subst this
      refine fx_47_n2_2 ?_
      rw [f1 6 7 rfl, u0, z_le (by omega) (by omega)]
      refine ⟨fun _ => k I' f1 k1 (fun b hb => ?_), fun e => absurd (Nat.le_refl _) e⟩
      rw [hr _ (u4 b hb).2.1, (u4 b hb).2.2]
      rfl
    | succ x ihx =>
      intro f hf I' f1 k1 hr
      have h1 := h.fr (f1.sub rfl)
      refine fx_47_n2_2 ?_
      obtain ⟨b, hb, eb⟩ := u5 f (by omega)
      rw [f1 6 7 rfl, u0, z_le (by omega) (by omega), z_ix (by omega), f1 9 f rfl, u2 f (by omega), ← eb]
      refine ⟨fun e => by omega, fun _ => ⟨z_in (by omega) (by decide), ct_24n h1.1 h1.2.1 hm ⟨_, _, _, rfl, rfl, ?_⟩⟩⟩
      refine ih h1 k1 (zst_vm ok hm b) (fun I2 f2 k2 => ⟨_, _, _, rfl, rfl, z_in (by omega) (by decide), ?_⟩)
      rw [z_add]
      refine ihx (f + 1) (by omega) _ ((f1.tr (f2.sub rfl)).up rfl) (k2.fr (L := [(90, [])]) (fr.rf.up rfl) rfl) (fun f' hf' => ?_)
      by_cases e : f' = f
      · subst e
        rw [up_s, ← eb]; rfl
      · rw [up_k e, f2 90 f' rfl]; exact hr f' (by omega)
  exact fx_47_n2 (lp u 0 (by omega) I fr.rf hk (fun f hf => absurd hf (Nat.not_lt_zero f)))
theorem ct_46_2 (ih : oOf 46 (chA K) lk1 K ch fs (d + 2) 1) : oOf 46 (chA K) lk2 K ch fs (d + 4) 2 := by
  intro n1 n2 b0 b2 p q ad I J Q m h hk hm k
  have ok := h.1.1
  have hB := nB_le ok
  have hl := hm.l13 ok
  obtain ⟨u, un, uo, hu⟩ := h.1.2.2.2.1
  have hch : ch ≤ nB K := h.2.2.2.2.2.1
  have hwp := ws_pow ok (n := 2) (by decide)
  have hby : ∀ b, b < nB K → byA K 1 m b ≤ 19683 := fun b hb => Nat.le_trans (smk_le hb (fun c _ => chA_le 1 _)) (by rw [Nat.mul_comm, ← Nat.pow_succ]; exact hwp.2)
  have hfs : ∀ i, i < ch → fs i < nB K := fun i hi => (h.2.2.2.2.2.2.1 i hi).1
  have go : m / 8 ≠ 0 → mm_wc (d + 3) 47 [.ref 81, .int (nI m), .int (nI 2)] ((mm_fl b0 true b2, 0, 0, p, q, ad), I, J) (fun v τ => ∃ I1 J1, v = none ∧ τ = (((mm_fl b0 true b2), 0, 0, p, q, ad), I1, J1) ∧ mm_w Q (mm_wc (d + 3)) bk_46 62 [some (.ref 81), some (.int (nI m)), some (.int (nI 2)), some (.int (nI 0)), some (.int (nI 0))] [] (((mm_fl b0 true b2), n1, n2, p, q, ad), I1, J1)) := fun h0 => by
    have e1 : chA K 2 m = mxB (byA K 1 m) (nB K) := by rw [chA, if_neg h0]; rfl
    refine ct_47_2 ih h hk hm hu (fun I1 f1 k1 hr => ⟨_, _, rfl, rfl, ?_⟩)
    have h1 := h.fr (f1.sub rfl)
    have hu1 := uni_od hu f1 rfl
    have lp : ∀ x i, x + i = ch → mm_w Q (mm_wc (d + 3)) bk_46 62 [some (.ref 81), some (.int (nI m)), some (.int (nI 2)), some (.int (nI (mxB (fun i => byA K 1 m (fs i)) i))), some (.int (nI i))] [] (((mm_fl b0 true b2), n1, n2, p, q, ad), I1, J) := by
      intro x
      induction x with
      | zero =>
        intro i hi
        have : i = ch := by omega
        subst this
        refine fx_46_n2_62 ?_
        rw [h1.2.2.2.2.1, z_le (by omega) (by omega)]
        refine ⟨fun _ => ⟨z_in hl (by decide), ?_⟩, fun e => absurd (Nat.le_refl _) e⟩
        rw [z_ix (by omega), ch_mx h.2.2.2.2, ← e1]
        exact k _ ((f1.sub rfl).up rfl) (k1.up84 m)
      | succ x ihx =>
        intro i hi
        have hb1 := hby (fs i) (hfs i (by omega))
        have hb2 : mxB (fun i => byA K 1 m (fs i)) i ≤ 19683 := mxB_le (fun j hj => hby _ (hfs j (by omega)))
        refine fx_46_n2_62 ?_
        rw [h1.2.2.2.2.1, z_le (by omega) (by omega)]
        refine ⟨fun e => by omega, fun _ => ct_45_2 h1 hu1 hr (by omega) ⟨_, _, _, rfl, rfl, sx_max ⟨_, _, _, rfl, rfl, ?_⟩⟩⟩
        have nx := ihx (i + 1) (by omega)
        rw [mxB] at nx
        show mm_w Q (mm_wc (d + 3)) bk_46 62 [some (.ref 81), some (.int (nI m)), some (.int (nI 2)), some (.int (if nI (mxB (fun i => byA K 1 m (fs i)) i) < nI (byA K 1 m (fs i)) then nI (byA K 1 m (fs i)) else nI (mxB (fun i => byA K 1 m (fs i)) i))), some (.int (nI i + nI 1))] [] (((mm_fl b0 true b2), n1, n2, p, q, ad), I1, J)
        rw [z_add]
        by_cases e : mxB (fun i => byA K 1 m (fs i)) i < byA K 1 m (fs i)
        · rw [if_pos (by rw [z_lt (by omega) (by omega)]; exact e)]
          rw [Nat.max_eq_right (by omega)] at nx; exact nx
        · rw [if_neg (by rw [z_lt (by omega) (by omega)]; exact e)]
          rw [Nat.max_eq_left (by omega)] at nx; exact nx
    exact lp ch 0 (by omega)
  refine fx_46_n2 ?_
  rw [z_eq (by omega) (by decide)]
  refine ⟨fun e => ⟨z_in hl (by decide), ?_⟩, fun e => ct_281 h.2.2.2.1 (by decide) ⟨_, _, _, rfl, rfl, ?_⟩⟩
  · have h0 : m / 8 ≠ 0 := fun z => e (vm_0 ok hm z)
    rw [z_ix (by omega)]
    have hz : (I 84 m = -1) ∨ ¬ (I 84 m = -1) := Classical.em _
    refine ⟨fun _ => go h0, fun z => ⟨z_in hl (by decide), ?_⟩⟩
    rw [((hk m hm).2.1).resolve_left z]
    exact k I fr.rf hk
  · subst e
    have := k I fr.rf hk
    exact this
theorem ct_47_3 {m u : Nat} {un uo : Nat → Nat} (ih : oOf 46 (chA K) lk2 K ch fs (d + 2) 2) (h : oB K ch fs I) (hk : oKp K I) (hm : vm K False m) (hu : uni (fanK K) I (nB K) u un uo) (k : ∀ I', fr wc3 I I' → oKp K I' → (∀ b, b < nB K → I' 91 (uo b) = nI (chA K 2 (zst K m b))) → Q none ((mm_fl b0 true b2, n1, n2, p, q, ad), I', J)) : mm_wc (d + 3) 47 [.ref 81, .int (nI m), .int (nI 3)] ((mm_fl b0 true b2, n1, n2, p, q, ad), I, J) Q := by
  have ok := h.1.1
  have hB := nB_le ok
  obtain ⟨u0, u1, u2, u3, u4, u5, -⟩ := id hu
  have lp : ∀ x f, x + f = u → ∀ I', fr wc3 I I' → oKp K I' → (∀ f', f' < f → I' 91 f' = nI (chA K 2 (cstp K 0 0 (un f') m))) → mm_w Q (mm_wc (d + 2)) bk_47 2 [some (.ref 81), some (.int (nI m)), some (.int (nI 3)), some (.int (nI f))] [] ((mm_fl b0 true b2, n1, n2, p, q, ad), I', J) := by
    intro x
    induction x with
    | zero =>
      intro f hf I' f1 k1 hr
      have : f = u := by omega
      subst this
      refine fx_47_n3_2 ?_
      rw [f1 6 7 rfl, u0, z_le (by omega) (by omega)]
      refine ⟨fun _ => k I' f1 k1 (fun b hb => ?_), fun e => absurd (Nat.le_refl _) e⟩
      rw [hr _ (u4 b hb).2.1, (u4 b hb).2.2]
      rfl
    | succ x ihx =>
      intro f hf I' f1 k1 hr
      have h1 := h.fr (f1.sub rfl)
      refine fx_47_n3_2 ?_
      obtain ⟨b, hb, eb⟩ := u5 f (by omega)
      rw [f1 6 7 rfl, u0, z_le (by omega) (by omega), z_ix (by omega), f1 9 f rfl, u2 f (by omega), ← eb]
      refine ⟨fun e => by omega, fun _ => ⟨z_in (by omega) (by decide), ct_24n h1.1 h1.2.1 hm ⟨_, _, _, rfl, rfl, ?_⟩⟩⟩
      refine ih h1 k1 (zst_vm ok hm b) (fun I2 f2 k2 => ⟨_, _, _, rfl, rfl, z_in (by omega) (by decide), ?_⟩)
      rw [z_add]
      refine ihx (f + 1) (by omega) _ ((f1.tr (f2.sub rfl)).up rfl) (k2.fr (L := [(91, [])]) (fr.rf.up rfl) rfl) (fun f' hf' => ?_)
      by_cases e : f' = f
      · subst e
        rw [up_s, ← eb]; rfl
      · rw [up_k e, f2 91 f' rfl]; exact hr f' (by omega)
  exact fx_47_n3 (lp u 0 (by omega) I fr.rf hk (fun f hf => absurd hf (Nat.not_lt_zero f)))
theorem ct_46_3 (ih : oOf 46 (chA K) lk2 K ch fs (d + 2) 2) : oOf 46 (chA K) lk3 K ch fs (d + 4) 3 := by
  intro n1 n2 b0 b2 p q ad I J Q m h hk hm k
  have ok := h.1.1
  have hB := nB_le ok
  have hl := hm.l13 ok
  obtain ⟨u, un, uo, hu⟩ := h.1.2.2.2.1
  have hch : ch ≤ nB K := h.2.2.2.2.2.1
  have hwp := ws_pow ok (n := 3) (by decide)
  have hby : ∀ b, b < nB K → byA K 2 m b ≤ 19683 := fun b hb => Nat.le_trans (smk_le hb (fun c _ => chA_le 2 _)) (by rw [Nat.mul_comm, ← Nat.pow_succ]; exact hwp.2)
  have hfs : ∀ i, i < ch → fs i < nB K := fun i hi => (h.2.2.2.2.2.2.1 i hi).1
  have go : m / 8 ≠ 0 → mm_wc (d + 3) 47 [.ref 81, .int (nI m), .int (nI 3)] ((mm_fl b0 true b2, 0, 0, p, q, ad), I, J) (fun v τ => ∃ I1 J1, v = none ∧ τ = (((mm_fl b0 true b2), 0, 0, p, q, ad), I1, J1) ∧ mm_w Q (mm_wc (d + 3)) bk_46 62 [some (.ref 81), some (.int (nI m)), some (.int (nI 3)), some (.int (nI 0)), some (.int (nI 0))] [] (((mm_fl b0 true b2), n1, n2, p, q, ad), I1, J1)) := fun h0 => by
    have e1 : chA K 3 m = mxB (byA K 2 m) (nB K) := by rw [chA, if_neg h0]; rfl
    refine ct_47_3 ih h hk hm hu (fun I1 f1 k1 hr => ⟨_, _, rfl, rfl, ?_⟩)
    have h1 := h.fr (f1.sub rfl)
    have hu1 := uni_od hu f1 rfl
    have lp : ∀ x i, x + i = ch → mm_w Q (mm_wc (d + 3)) bk_46 62 [some (.ref 81), some (.int (nI m)), some (.int (nI 3)), some (.int (nI (mxB (fun i => byA K 2 m (fs i)) i))), some (.int (nI i))] [] (((mm_fl b0 true b2), n1, n2, p, q, ad), I1, J) := by
      intro x
      induction x with
      | zero =>
        intro i hi
        have : i = ch := by omega
        subst this
        refine fx_46_n3_62 ?_
        rw [h1.2.2.2.2.1, z_le (by omega) (by omega)]
        refine ⟨fun _ => ?_, fun e => absurd (Nat.le_refl _) e⟩
        rw [ch_mx h.2.2.2.2, ← e1]
        exact k _ (f1.sub rfl) k1
      | succ x ihx =>
        intro i hi
        have hb1 := hby (fs i) (hfs i (by omega))
        have hb2 : mxB (fun i => byA K 2 m (fs i)) i ≤ 19683 := mxB_le (fun j hj => hby _ (hfs j (by omega)))
        refine fx_46_n3_62 ?_
        rw [h1.2.2.2.2.1, z_le (by omega) (by omega)]
        refine ⟨fun e => by omega, fun _ => ct_45_3 h1 hu1 hr (by omega) ⟨_, _, _, rfl, rfl, sx_max ⟨_, _, _, rfl, rfl, ?_⟩⟩⟩
        have nx := ihx (i + 1) (by omega)
        rw [mxB] at nx
        show mm_w Q (mm_wc (d + 3)) bk_46 62 [some (.ref 81), some (.int (nI m)), some (.int (nI 3)), some (.int (if nI (mxB (fun i => byA K 2 m (fs i)) i) < nI (byA K 2 m (fs i)) then nI (byA K 2 m (fs i)) else nI (mxB (fun i => byA K 2 m (fs i)) i))), some (.int (nI i + nI 1))] [] (((mm_fl b0 true b2), n1, n2, p, q, ad), I1, J)
        rw [z_add]
        by_cases e : mxB (fun i => byA K 2 m (fs i)) i < byA K 2 m (fs i)
        · rw [if_pos (by rw [z_lt (by omega) (by omega)]; exact e)]
          rw [Nat.max_eq_right (by omega)] at nx; exact nx
        · rw [if_neg (by rw [z_lt (by omega) (by omega)]; exact e)]
          rw [Nat.max_eq_left (by omega)] at nx; exact nx
    exact lp ch 0 (by omega)
  refine fx_46_n3 ?_
  rw [z_eq (by omega) (by decide)]
  refine ⟨fun e => ?_, fun e => ct_281 h.2.2.2.1 (by decide) ⟨_, _, _, rfl, rfl, ?_⟩⟩
  · exact go (fun z => e (vm_0 ok hm z))
  · subst e
    have := k I fr.rf hk
    exact this
theorem ct_280_1 {m u : Nat} {un uo : Nat → Nat} (ih : oOf 48 (ctA K) lm0 K ch fs (d + 2) 0) (h : oB K ch fs I) (hk : oKp K I) (hm : vm K False m) (hu : uni (fanK K) I (nB K) u un uo) (k : ∀ I', fr wm1 I I' → oKp K I' → (∀ b, b < nB K → I' 89 (uo b) = nI (ctA K 0 (zst K m b))) → Q none ((mm_fl b0 true b2, n1, n2, p, q, ad), I', J)) : mm_wc (d + 3) 280 [.ref 81, .int (nI m), .int (nI 1)] ((mm_fl b0 true b2, n1, n2, p, q, ad), I, J) Q := by
  have ok := h.1.1
  have hB := nB_le ok
  obtain ⟨u0, u1, u2, u3, u4, u5, -⟩ := id hu
  have lp : ∀ x f, x + f = u → ∀ I', fr wm1 I I' → oKp K I' → (∀ f', f' < f → I' 89 f' = nI (ctA K 0 (cstp K 0 0 (un f') m))) → mm_w Q (mm_wc (d + 2)) bk_280 2 [some (.ref 81), some (.int (nI m)), some (.int (nI 1)), some (.int (nI f))] [] ((mm_fl b0 true b2, n1, n2, p, q, ad), I', J) := by
    intro x
    induction x with
    | zero =>
      intro f hf I' f1 k1 hr
      have : f = u := by omega
      subst this
      refine fx_280_n1_2 ?_
      rw [f1 6 7 rfl, u0, z_le (by omega) (by omega)]
      refine ⟨fun _ => k I' f1 k1 (fun b hb => ?_), fun e => absurd (Nat.le_refl _) e⟩
      rw [hr _ (u4 b hb).2.1, (u4 b hb).2.2]
      rfl
    | succ x ihx =>
      intro f hf I' f1 k1 hr
      have h1 := h.fr (f1.sub rfl)
      refine fx_280_n1_2 ?_
      obtain ⟨b, hb, eb⟩ := u5 f (by omega)
      rw [f1 6 7 rfl, u0, z_le (by omega) (by omega), z_ix (by omega), f1 9 f rfl, u2 f (by omega), ← eb]
      refine ⟨fun e => by omega, fun _ => ⟨z_in (by omega) (by decide), ct_24n h1.1 h1.2.1 hm ⟨_, _, _, rfl, rfl, ?_⟩⟩⟩
      refine ih h1 k1 (zst_vm ok hm b) (fun I2 f2 k2 => ⟨_, _, _, rfl, rfl, z_in (by omega) (by decide), ?_⟩)
      rw [z_add]
      refine ihx (f + 1) (by omega) _ ((f1.tr (f2.sub rfl)).up rfl) (k2.fr (L := [(89, [])]) (fr.rf.up rfl) rfl) (fun f' hf' => ?_)
      by_cases e : f' = f
      · subst e
        rw [up_s, ← eb]; rfl
      · rw [up_k e, f2 89 f' rfl]; exact hr f' (by omega)
  exact fx_280_n1 (lp u 0 (by omega) I fr.rf hk (fun f hf => absurd hf (Nat.not_lt_zero f)))
theorem ct_48_1 (ih : oOf 48 (ctA K) lm0 K ch fs (d + 2) 0) : oOf 48 (ctA K) lm1 K ch fs (d + 4) 1 := by
  intro n1 n2 b0 b2 p q ad I J Q m h hk hm k
  have ok := h.1.1
  have hB := nB_le ok
  have hl := hm.l13 ok
  have hl11 := hm.lt ok
  have hzc := zcnt_le (m / 8)
  obtain ⟨u, un, uo, hu⟩ := h.1.2.2.2.1
  have hch : ch ≤ nB K := h.2.2.2.2.2.1
  have hwp := ws_pow ok (n := 1) (by decide)
  have hzw : zcnt (m / 8) * ws K ^ 1 ≤ 14 * 19683 := Nat.mul_le_mul (zcnt_le _) hwp.2
  have hby : ∀ b, b < nB K → smk K (fun c => ctA K 0 (zst K m c)) b 3 ≤ 14 * 19683 := fun b hb => Nat.le_trans (smk_le hb (fun c _ => ctA_le 0 _)) (by
    rw [← Nat.mul_assoc, Nat.mul_comm (ws K) 14, Nat.mul_assoc, Nat.mul_comm (ws K), ← Nat.pow_succ]
    exact Nat.mul_le_mul_left 14 hwp.2)
  have hfs : ∀ i, i < ch → fs i < nB K := fun i hi => (h.2.2.2.2.2.2.1 i hi).1
  have go : m / 8 ≠ 0 → mm_wc (d + 3) 280 [.ref 81, .int (nI m), .int (nI 1)] ((mm_fl b0 true b2, 0, 0, p, q, ad), I, J) (fun v τ => ∃ I2 J2, v = none ∧ τ = (((mm_fl b0 true b2), 0, 0, p, q, ad), I2, J2) ∧ mm_wc (d + 3) 281 [.ref 81, .int (nI 1)] (((mm_fl b0 true b2), 0, 0, p, q, ad), I2, J2) (fun v τ => ∃ r3 I3 J3, v = some (.int r3) ∧ τ = (((mm_fl b0 true b2), 0, 0, p, q, ad), I3, J3) ∧ mm_w Q (mm_wc (d + 3)) bk_48 72 [some (.ref 81), some (.int (nI m)), some (.int (nI 1)), none, some (.int (nI (zcnt (m / 8)) * r3)), some (.int (nI 0))] [] (((mm_fl b0 true b2), n1, n2, p, q, ad), I3, J3))) := fun h0 => by
    have e1 : ctA K 1 m = mnB (fun b => smk K (fun c => ctA K 0 (zst K m c)) b 3) (zcnt (m / 8) * ws K ^ 1) (nB K) := by rw [ctA, if_neg h0]
    refine ct_280_1 ih h hk hm hu (fun I1 f1 k1 hr => ⟨_, _, rfl, rfl, ?_⟩)
    have h1 := h.fr (f1.sub rfl)
    have hu1 := uni_od hu f1 rfl
    have lp2 : ∀ x i, x + i = ch → mm_w Q (mm_wc (d + 3)) bk_48 72 [some (.ref 81), some (.int (nI m)), some (.int (nI 1)), none, some (.int (nI (mnB (fun i => smk K (fun c => ctA K 0 (zst K m c)) (fs i) 3) (zcnt (m / 8) * ws K ^ 1) i))), some (.int (nI i))] [] (((mm_fl b0 true b2), n1, n2, p, q, ad), I1, J) := by
      intro x
      induction x with
      | zero =>
        intro i hi
        have : i = ch := by omega
        subst this
        refine fx_48_n1_72 ?_
        rw [h1.2.2.2.2.1, z_le (by omega) (by omega)]
        refine ⟨fun _ => ⟨z_in hl (by decide), ?_⟩, fun e => absurd (Nat.le_refl _) e⟩
        rw [z_ix (by omega), ch_mn h.2.2.2.2, ← e1]
        exact k _ ((f1.sub rfl).up rfl) (k1.up86 m)
      | succ x ihx =>
        intro i hi
        have hb1 := hby (fs i) (hfs i (by omega))
        have hb2 := mnB_le (f := fun i => smk K (fun c => ctA K 0 (zst K m c)) (fs i) 3) (c := zcnt (m / 8) * ws K ^ 1) i
        refine fx_48_n1_72 ?_
        rw [h1.2.2.2.2.1, z_le (by omega) (by omega)]
        refine ⟨fun e => by omega, fun _ => ct_45_1 h1 hu1 hr (by omega) ⟨_, _, _, rfl, rfl, sx_min ⟨_, _, _, rfl, rfl, ?_⟩⟩⟩
        have nx := ihx (i + 1) (by omega)
        rw [mnB] at nx
        rw [z_add]
        by_cases e : smk K (fun c => ctA K 0 (zst K m c)) (fs i) 3 < mnB (fun i => smk K (fun c => ctA K 0 (zst K m c)) (fs i) 3) (zcnt (m / 8) * ws K ^ 1) i
        · rw [if_pos (by rw [z_lt (by omega) (by omega)]; exact e)]
          rw [Nat.min_eq_right (by omega)] at nx; exact nx
        · rw [if_neg (by rw [z_lt (by omega) (by omega)]; exact e)]
          rw [Nat.min_eq_left (by omega)] at nx; exact nx
    refine ct_281 h1.2.2.2.1 (by decide) ⟨_, _, _, rfl, rfl, ?_⟩
    rw [z_mul]
    exact lp2 ch 0 (by omega)
  refine fx_48_n1 (ct_18 hl11 ⟨_, _, _, rfl, rfl, ?_⟩)
  rw [z_eq (by omega) (by decide)]
  refine ⟨fun e => ⟨z_in hl (by decide), ?_⟩, fun e => ?_⟩
  · have h0 : m / 8 ≠ 0 := fun z => e ((zcnt_0 hl11).mpr z)
    rw [z_ix (by omega)]
    refine ⟨fun _ => go h0, fun z => ⟨z_in hl (by decide), ?_⟩⟩
    rw [((hk m hm).2.2.1).resolve_left z]
    exact k I fr.rf hk
  · have := k I fr.rf hk
    rw [ctA, if_pos ((zcnt_0 hl11).mp e)] at this
    rw [e]; exact this
theorem ct_280_2 {m u : Nat} {un uo : Nat → Nat} (ih : oOf 48 (ctA K) lm1 K ch fs (d + 2) 1) (h : oB K ch fs I) (hk : oKp K I) (hm : vm K False m) (hu : uni (fanK K) I (nB K) u un uo) (k : ∀ I', fr wm2 I I' → oKp K I' → (∀ b, b < nB K → I' 90 (uo b) = nI (ctA K 1 (zst K m b))) → Q none ((mm_fl b0 true b2, n1, n2, p, q, ad), I', J)) : mm_wc (d + 3) 280 [.ref 81, .int (nI m), .int (nI 2)] ((mm_fl b0 true b2, n1, n2, p, q, ad), I, J) Q := by
  have ok := h.1.1
  have hB := nB_le ok
  obtain ⟨u0, u1, u2, u3, u4, u5, -⟩ := id hu
  have lp : ∀ x f, x + f = u → ∀ I', fr wm2 I I' → oKp K I' → (∀ f', f' < f → I' 90 f' = nI (ctA K 1 (cstp K 0 0 (un f') m))) → mm_w Q (mm_wc (d + 2)) bk_280 2 [some (.ref 81), some (.int (nI m)), some (.int (nI 2)), some (.int (nI f))] [] ((mm_fl b0 true b2, n1, n2, p, q, ad), I', J) := by
    intro x
    induction x with
    | zero =>
      intro f hf I' f1 k1 hr
      have : f = u := by omega
      subst this
      refine fx_280_n2_2 ?_
      rw [f1 6 7 rfl, u0, z_le (by omega) (by omega)]
      refine ⟨fun _ => k I' f1 k1 (fun b hb => ?_), fun e => absurd (Nat.le_refl _) e⟩
      rw [hr _ (u4 b hb).2.1, (u4 b hb).2.2]
      rfl
    | succ x ihx =>
      intro f hf I' f1 k1 hr
      have h1 := h.fr (f1.sub rfl)
      refine fx_280_n2_2 ?_
      obtain ⟨b, hb, eb⟩ := u5 f (by omega)
      rw [f1 6 7 rfl, u0, z_le (by omega) (by omega), z_ix (by omega), f1 9 f rfl, u2 f (by omega), ← eb]
      refine ⟨fun e => by omega, fun _ => ⟨z_in (by omega) (by decide), ct_24n h1.1 h1.2.1 hm ⟨_, _, _, rfl, rfl, ?_⟩⟩⟩
      refine ih h1 k1 (zst_vm ok hm b) (fun I2 f2 k2 => ⟨_, _, _, rfl, rfl, z_in (by omega) (by decide), ?_⟩)
      rw [z_add]
      refine ihx (f + 1) (by omega) _ ((f1.tr (f2.sub rfl)).up rfl) (k2.fr (L := [(90, [])]) (fr.rf.up rfl) rfl) (fun f' hf' => ?_)
      by_cases e : f' = f
      · subst e
        rw [up_s, ← eb]; rfl
      · rw [up_k e, f2 90 f' rfl]; exact hr f' (by omega)
  exact fx_280_n2 (lp u 0 (by omega) I fr.rf hk (fun f hf => absurd hf (Nat.not_lt_zero f)))
theorem ct_48_2 (ih : oOf 48 (ctA K) lm1 K ch fs (d + 2) 1) : oOf 48 (ctA K) lm2 K ch fs (d + 4) 2 := by
  intro n1 n2 b0 b2 p q ad I J Q m h hk hm k
  have ok := h.1.1
  have hB := nB_le ok
  have hl := hm.l13 ok
  have hl11 := hm.lt ok
  have hzc := zcnt_le (m / 8)
  obtain ⟨u, un, uo, hu⟩ := h.1.2.2.2.1
  have hch : ch ≤ nB K := h.2.2.2.2.2.1
  have hwp := ws_pow ok (n := 2) (by decide)
  have hzw : zcnt (m / 8) * ws K ^ 2 ≤ 14 * 19683 := Nat.mul_le_mul (zcnt_le _) hwp.2
  have hby : ∀ b, b < nB K → smk K (fun c => ctA K 1 (zst K m c)) b 3 ≤ 14 * 19683 := fun b hb => Nat.le_trans (smk_le hb (fun c _ => ctA_le 1 _)) (by
    rw [← Nat.mul_assoc, Nat.mul_comm (ws K) 14, Nat.mul_assoc, Nat.mul_comm (ws K), ← Nat.pow_succ]
    exact Nat.mul_le_mul_left 14 hwp.2)
  have hfs : ∀ i, i < ch → fs i < nB K := fun i hi => (h.2.2.2.2.2.2.1 i hi).1
  have go : m / 8 ≠ 0 → mm_wc (d + 3) 280 [.ref 81, .int (nI m), .int (nI 2)] ((mm_fl b0 true b2, 0, 0, p, q, ad), I, J) (fun v τ => ∃ I2 J2, v = none ∧ τ = (((mm_fl b0 true b2), 0, 0, p, q, ad), I2, J2) ∧ mm_wc (d + 3) 281 [.ref 81, .int (nI 2)] (((mm_fl b0 true b2), 0, 0, p, q, ad), I2, J2) (fun v τ => ∃ r3 I3 J3, v = some (.int r3) ∧ τ = (((mm_fl b0 true b2), 0, 0, p, q, ad), I3, J3) ∧ mm_w Q (mm_wc (d + 3)) bk_48 72 [some (.ref 81), some (.int (nI m)), some (.int (nI 2)), none, some (.int (nI (zcnt (m / 8)) * r3)), some (.int (nI 0))] [] (((mm_fl b0 true b2), n1, n2, p, q, ad), I3, J3))) := fun h0 => by
    have e1 : ctA K 2 m = mnB (fun b => smk K (fun c => ctA K 1 (zst K m c)) b 3) (zcnt (m / 8) * ws K ^ 2) (nB K) := by rw [ctA, if_neg h0]
    refine ct_280_2 ih h hk hm hu (fun I1 f1 k1 hr => ⟨_, _, rfl, rfl, ?_⟩)
    have h1 := h.fr (f1.sub rfl)
    have hu1 := uni_od hu f1 rfl
    have lp2 : ∀ x i, x + i = ch → mm_w Q (mm_wc (d + 3)) bk_48 72 [some (.ref 81), some (.int (nI m)), some (.int (nI 2)), none, some (.int (nI (mnB (fun i => smk K (fun c => ctA K 1 (zst K m c)) (fs i) 3) (zcnt (m / 8) * ws K ^ 2) i))), some (.int (nI i))] [] (((mm_fl b0 true b2), n1, n2, p, q, ad), I1, J) := by
      intro x
      induction x with
      | zero =>
        intro i hi
        have : i = ch := by omega
        subst this
        refine fx_48_n2_72 ?_
        rw [h1.2.2.2.2.1, z_le (by omega) (by omega)]
        refine ⟨fun _ => ⟨z_in hl (by decide), ?_⟩, fun e => absurd (Nat.le_refl _) e⟩
        rw [z_ix (by omega), ch_mn h.2.2.2.2, ← e1]
        exact k _ ((f1.sub rfl).up rfl) (k1.up87 m)
      | succ x ihx =>
        intro i hi
        have hb1 := hby (fs i) (hfs i (by omega))
        have hb2 := mnB_le (f := fun i => smk K (fun c => ctA K 1 (zst K m c)) (fs i) 3) (c := zcnt (m / 8) * ws K ^ 2) i
        refine fx_48_n2_72 ?_
        rw [h1.2.2.2.2.1, z_le (by omega) (by omega)]
        refine ⟨fun e => by omega, fun _ => ct_45_2 h1 hu1 hr (by omega) ⟨_, _, _, rfl, rfl, sx_min ⟨_, _, _, rfl, rfl, ?_⟩⟩⟩
        have nx := ihx (i + 1) (by omega)
        rw [mnB] at nx
        rw [z_add]
        by_cases e : smk K (fun c => ctA K 1 (zst K m c)) (fs i) 3 < mnB (fun i => smk K (fun c => ctA K 1 (zst K m c)) (fs i) 3) (zcnt (m / 8) * ws K ^ 2) i
        · rw [if_pos (by rw [z_lt (by omega) (by omega)]; exact e)]
          rw [Nat.min_eq_right (by omega)] at nx; exact nx
        · rw [if_neg (by rw [z_lt (by omega) (by omega)]; exact e)]
          rw [Nat.min_eq_left (by omega)] at nx; exact nx
    refine ct_281 h1.2.2.2.1 (by decide) ⟨_, _, _, rfl, rfl, ?_⟩
    rw [z_mul]
    exact lp2 ch 0 (by omega)
  refine fx_48_n2 (ct_18 hl11 ⟨_, _, _, rfl, rfl, ?_⟩)
  rw [z_eq (by omega) (by decide)]
  refine ⟨fun e => ⟨z_in hl (by decide), ?_⟩, fun e => ?_⟩
  · have h0 : m / 8 ≠ 0 := fun z => e ((zcnt_0 hl11).mpr z)
    rw [z_ix (by omega)]
    refine ⟨fun _ => go h0, fun z => ⟨z_in hl (by decide), ?_⟩⟩
    rw [((hk m hm).2.2.2).resolve_left z]
    exact k I fr.rf hk
  · have := k I fr.rf hk
    rw [ctA, if_pos ((zcnt_0 hl11).mp e)] at this
    rw [e]; exact this
theorem ct_280_3 {m u : Nat} {un uo : Nat → Nat} (ih : oOf 48 (ctA K) lm2 K ch fs (d + 2) 2) (h : oB K ch fs I) (hk : oKp K I) (hm : vm K False m) (hu : uni (fanK K) I (nB K) u un uo) (k : ∀ I', fr wm3 I I' → oKp K I' → (∀ b, b < nB K → I' 91 (uo b) = nI (ctA K 2 (zst K m b))) → Q none ((mm_fl b0 true b2, n1, n2, p, q, ad), I', J)) : mm_wc (d + 3) 280 [.ref 81, .int (nI m), .int (nI 3)] ((mm_fl b0 true b2, n1, n2, p, q, ad), I, J) Q := by
  have ok := h.1.1
  have hB := nB_le ok
  obtain ⟨u0, u1, u2, u3, u4, u5, -⟩ := id hu
  have lp : ∀ x f, x + f = u → ∀ I', fr wm3 I I' → oKp K I' → (∀ f', f' < f → I' 91 f' = nI (ctA K 2 (cstp K 0 0 (un f') m))) → mm_w Q (mm_wc (d + 2)) bk_280 2 [some (.ref 81), some (.int (nI m)), some (.int (nI 3)), some (.int (nI f))] [] ((mm_fl b0 true b2, n1, n2, p, q, ad), I', J) := by
    intro x
    induction x with
    | zero =>
      intro f hf I' f1 k1 hr
      have : f = u := by omega
      subst this
      refine fx_280_n3_2 ?_
      rw [f1 6 7 rfl, u0, z_le (by omega) (by omega)]
      refine ⟨fun _ => k I' f1 k1 (fun b hb => ?_), fun e => absurd (Nat.le_refl _) e⟩
      rw [hr _ (u4 b hb).2.1, (u4 b hb).2.2]
      rfl
    | succ x ihx =>
      intro f hf I' f1 k1 hr
      have h1 := h.fr (f1.sub rfl)
      refine fx_280_n3_2 ?_
      obtain ⟨b, hb, eb⟩ := u5 f (by omega)
      rw [f1 6 7 rfl, u0, z_le (by omega) (by omega), z_ix (by omega), f1 9 f rfl, u2 f (by omega), ← eb]
      refine ⟨fun e => by omega, fun _ => ⟨z_in (by omega) (by decide), ct_24n h1.1 h1.2.1 hm ⟨_, _, _, rfl, rfl, ?_⟩⟩⟩
      refine ih h1 k1 (zst_vm ok hm b) (fun I2 f2 k2 => ⟨_, _, _, rfl, rfl, z_in (by omega) (by decide), ?_⟩)
      rw [z_add]
      refine ihx (f + 1) (by omega) _ ((f1.tr (f2.sub rfl)).up rfl) (k2.fr (L := [(91, [])]) (fr.rf.up rfl) rfl) (fun f' hf' => ?_)
      by_cases e : f' = f
      · subst e
        rw [up_s, ← eb]; rfl
      · rw [up_k e, f2 91 f' rfl]; exact hr f' (by omega)
  exact fx_280_n3 (lp u 0 (by omega) I fr.rf hk (fun f hf => absurd hf (Nat.not_lt_zero f)))
theorem ct_48_3 (ih : oOf 48 (ctA K) lm2 K ch fs (d + 2) 2) : oOf 48 (ctA K) lm3 K ch fs (d + 4) 3 := by
  intro n1 n2 b0 b2 p q ad I J Q m h hk hm k
  have ok := h.1.1
  have hB := nB_le ok
  have hl := hm.l13 ok
  have hl11 := hm.lt ok
  have hzc := zcnt_le (m / 8)
  obtain ⟨u, un, uo, hu⟩ := h.1.2.2.2.1
  have hch : ch ≤ nB K := h.2.2.2.2.2.1
  have hwp := ws_pow ok (n := 3) (by decide)
  have hzw : zcnt (m / 8) * ws K ^ 3 ≤ 14 * 19683 := Nat.mul_le_mul (zcnt_le _) hwp.2
  have hby : ∀ b, b < nB K → smk K (fun c => ctA K 2 (zst K m c)) b 3 ≤ 14 * 19683 := fun b hb => Nat.le_trans (smk_le hb (fun c _ => ctA_le 2 _)) (by
    rw [← Nat.mul_assoc, Nat.mul_comm (ws K) 14, Nat.mul_assoc, Nat.mul_comm (ws K), ← Nat.pow_succ]
    exact Nat.mul_le_mul_left 14 hwp.2)
  have hfs : ∀ i, i < ch → fs i < nB K := fun i hi => (h.2.2.2.2.2.2.1 i hi).1
  have go : m / 8 ≠ 0 → mm_wc (d + 3) 280 [.ref 81, .int (nI m), .int (nI 3)] ((mm_fl b0 true b2, 0, 0, p, q, ad), I, J) (fun v τ => ∃ I2 J2, v = none ∧ τ = (((mm_fl b0 true b2), 0, 0, p, q, ad), I2, J2) ∧ mm_wc (d + 3) 281 [.ref 81, .int (nI 3)] (((mm_fl b0 true b2), 0, 0, p, q, ad), I2, J2) (fun v τ => ∃ r3 I3 J3, v = some (.int r3) ∧ τ = (((mm_fl b0 true b2), 0, 0, p, q, ad), I3, J3) ∧ mm_w Q (mm_wc (d + 3)) bk_48 72 [some (.ref 81), some (.int (nI m)), some (.int (nI 3)), none, some (.int (nI (zcnt (m / 8)) * r3)), some (.int (nI 0))] [] (((mm_fl b0 true b2), n1, n2, p, q, ad), I3, J3))) := fun h0 => by
    have e1 : ctA K 3 m = mnB (fun b => smk K (fun c => ctA K 2 (zst K m c)) b 3) (zcnt (m / 8) * ws K ^ 3) (nB K) := by rw [ctA, if_neg h0]
    refine ct_280_3 ih h hk hm hu (fun I1 f1 k1 hr => ⟨_, _, rfl, rfl, ?_⟩)
    have h1 := h.fr (f1.sub rfl)
    have hu1 := uni_od hu f1 rfl
    have lp2 : ∀ x i, x + i = ch → mm_w Q (mm_wc (d + 3)) bk_48 72 [some (.ref 81), some (.int (nI m)), some (.int (nI 3)), none, some (.int (nI (mnB (fun i => smk K (fun c => ctA K 2 (zst K m c)) (fs i) 3) (zcnt (m / 8) * ws K ^ 3) i))), some (.int (nI i))] [] (((mm_fl b0 true b2), n1, n2, p, q, ad), I1, J) := by
      intro x
      induction x with
      | zero =>
        intro i hi
        have : i = ch := by omega
        subst this
        refine fx_48_n3_72 ?_
        rw [h1.2.2.2.2.1, z_le (by omega) (by omega)]
        refine ⟨fun _ => ?_, fun e => absurd (Nat.le_refl _) e⟩
        rw [ch_mn h.2.2.2.2, ← e1]
        exact k _ (f1.sub rfl) k1
      | succ x ihx =>
        intro i hi
        have hb1 := hby (fs i) (hfs i (by omega))
        have hb2 := mnB_le (f := fun i => smk K (fun c => ctA K 2 (zst K m c)) (fs i) 3) (c := zcnt (m / 8) * ws K ^ 3) i
        refine fx_48_n3_72 ?_
        rw [h1.2.2.2.2.1, z_le (by omega) (by omega)]
        refine ⟨fun e => by omega, fun _ => ct_45_3 h1 hu1 hr (by omega) ⟨_, _, _, rfl, rfl, sx_min ⟨_, _, _, rfl, rfl, ?_⟩⟩⟩
        have nx := ihx (i + 1) (by omega)
        rw [mnB] at nx
        rw [z_add]
        by_cases e : smk K (fun c => ctA K 2 (zst K m c)) (fs i) 3 < mnB (fun i => smk K (fun c => ctA K 2 (zst K m c)) (fs i) 3) (zcnt (m / 8) * ws K ^ 3) i
        · rw [if_pos (by rw [z_lt (by omega) (by omega)]; exact e)]
          rw [Nat.min_eq_right (by omega)] at nx; exact nx
        · rw [if_neg (by rw [z_lt (by omega) (by omega)]; exact e)]
          rw [Nat.min_eq_left (by omega)] at nx; exact nx
    refine ct_281 h1.2.2.2.1 (by decide) ⟨_, _, _, rfl, rfl, ?_⟩
    rw [z_mul]
    exact lp2 ch 0 (by omega)
  refine fx_48_n3 (ct_18 hl11 ⟨_, _, _, rfl, rfl, ?_⟩)
  rw [z_eq (by omega) (by decide)]
  refine ⟨fun e => ?_, fun e => ?_⟩
  · exact go (fun z => e ((zcnt_0 hl11).mpr z))
  · have := k I fr.rf hk
    rw [ctA, if_pos ((zcnt_0 hl11).mp e)] at this
    rw [e]; exact this
end PB
