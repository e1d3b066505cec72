/-! what lies outside the world, at the law's entry -/
/- needs: 0 1 20 21 22 23 24 25 26 27 28 29 30 -/
def mm_tm (i : Nat) : Term := .string RX6 ([78, 131, 142, 87, 100, 105, 110, 115, 120, 199, 157, 172, 174, 176, 178, 183, 187].getD i 0)
def mm_val1 (i : Nat) : Term := .field (mm_tm i) "java/lang/String" "value" "[B"
def mm_gv : List Cond := flatC (Jvm.Cond.and given_1 narrow_1)
theorem mm_g_ex : ∀ i, i < 17 → Cond.exactly (mm_tm i) "java/lang/String" ∈ mm_gv := by decide +kernel
theorem mm_g_co : ∀ i, i < 17 → Cond.eq (.field (mm_tm i) "java/lang/String" "coder" "B") (.int 0) ∈ mm_gv := by decide +kernel
theorem mm_g_ar : ∀ i, i < 17 → Cond.arrayOf (mm_val1 i) .byte ∈ mm_gv := by decide +kernel
theorem mm_g_le : ∀ i, i < 17 → Cond.eq (.length (mm_val1 i)) (.int (Int32.ofNat (mm_sl.getD i 0))) ∈ mm_gv := by decide +kernel
theorem mm_g_el : ∀ i, i < 17 → ∀ j, j < mm_sl.getD i 0 → Cond.eq (.elem (mm_val1 i) (.int (Int32.ofNat j))) (.int ((mm_sb.getD i []).getD j 0)) ∈ mm_gv := by decide +kernel
theorem mm_g_wx : (Cond.arrayOf (.static RX9 "WAY_X" "[I") .int ∈ mm_gv ∧ Cond.eq (.length (.static RX9 "WAY_X" "[I")) (.int (Int32.ofNat 16)) ∈ mm_gv) ∧ ∀ j, j < 16 → Cond.eq (.elem (.static RX9 "WAY_X" "[I") (.int (Int32.ofNat j))) (.int (mm_wx.getD j 0)) ∈ mm_gv := by decide +kernel
theorem mm_g_wy : (Cond.arrayOf (.static RX9 "WAY_Y" "[I") .int ∈ mm_gv ∧ Cond.eq (.length (.static RX9 "WAY_Y" "[I")) (.int (Int32.ofNat 16)) ∈ mm_gv) ∧ ∀ j, j < 16 → Cond.eq (.elem (.static RX9 "WAY_Y" "[I") (.int (Int32.ofNat j))) (.int (mm_wy.getD j 0)) ∈ mm_gv := by decide +kernel
theorem mm_g_cs : Cond.eq (.static "java/lang/String" "COMPACT_STRINGS" "Z") (.int 1) ∈ mm_gv := by decide +kernel
theorem mm_g_sf : Cond.isRef (.static "jdk/internal/util/Preconditions" "SIOOBE_FORMATTER" "Ljava/util/function/BiFunction;") ∈ mm_gv := by decide +kernel
theorem mm_g_us : Cond.isRef (.static Bundle.tN "UNASSIGNED_STACK" Bundle.steD) ∈ mm_gv := by decide +kernel
theorem mm_g_ss : Cond.isRef (.static Bundle.tN "SUPPRESSED_SENTINEL" Bundle.listD) ∈ mm_gv := by decide +kernel
theorem mm_pS_tm : ∀ e ∈ mm_pS, (98 ≤ e.2.2.1 ∧ e.2.2.1 < 115) ∧ (Term.string (mm_nm e.1) e.2.1 = mm_tm (e.2.2.1 - 98) ∨ Cond.eq (mm_tm (e.2.2.1 - 98)) (.string (mm_nm e.1) e.2.1) ∈ mm_gv) := by decide +kernel
theorem mm_pS_at : ∀ e ∈ mm_pS, lw_tbl[e.2.2.2]? = some (.stringRef (mm_nm e.1) e.2.1 (mm_txt.getD (e.2.2.1 - 98) "")) := by decide +kernel
theorem mm_strs_ne : ∀ i, i < 17 → ∀ j, j < 17 → i ≠ j → mm_sl.getD i 0 ≠ mm_sl.getD j 0 ∨ ∃ t, t < 7 ∧ t < mm_sl.getD i 0 ∧ t < mm_sl.getD j 0 ∧ (mm_sb.getD i []).getD t 0 ≠ (mm_sb.getD j []).getD t 0 := by decide +kernel
theorem mm_l_i9 : lw_tbl[134]? = some (.initialized "ThreeBreaths") := by decide +kernel
theorem mm_l_iS : lw_tbl[142]? = some (.initialized "java/lang/String") := by decide +kernel
theorem mm_l_iP : lw_tbl[144]? = some (.initialized "jdk/internal/util/Preconditions") := by decide +kernel
theorem mm_l_iT : lw_tbl[153]? = some (.initialized "java/lang/Throwable") := by decide +kernel
theorem mm_l_cs : lw_tbl[527]? = some (.laysStatic "java/lang/String" "COMPACT_STRINGS" "Z") := by decide +kernel
theorem mm_l_sf : lw_tbl[543]? = some (.laysStatic "jdk/internal/util/Preconditions" "SIOOBE_FORMATTER" "Ljava/util/function/BiFunction;") := by decide +kernel
theorem mm_l_wx : lw_tbl[688]? = some (.laysStatic "ThreeBreaths" "WAY_X" "[I") := by decide +kernel
theorem mm_l_wy : lw_tbl[690]? = some (.laysStatic "ThreeBreaths" "WAY_Y" "[I") := by decide +kernel
theorem mm_l_ao : lw_tbl[1164]? = some (.arrayOver (.array .int)) := by decide +kernel
theorem mm_l_ca : lw_tbl[1407]? = some (.castable "java/util/NoSuchElementException" "java/util/NoSuchElementException") := by decide +kernel
theorem mm_l_d1 : lw_tbl[1408]? = some (.declares ⟨"java/lang/RuntimeException", "<init>", "()V"⟩) := by decide +kernel
theorem mm_l_d2 : lw_tbl[1410]? = some (.declares ⟨"java/lang/Exception", "<init>", "()V"⟩) := by decide +kernel
theorem mm_l_d3 : lw_tbl[1412]? = some (.declares ⟨"java/lang/Throwable", "<init>", "()V"⟩) := by decide +kernel
theorem mm_l_us : lw_tbl[1432]? = some (.laysStatic "java/lang/Throwable" "UNASSIGNED_STACK" "[Ljava/lang/StackTraceElement;") := by decide +kernel
theorem mm_l_ss : lw_tbl[1434]? = some (.laysStatic "java/lang/Throwable" "SUPPRESSED_SENTINEL" "Ljava/util/List;") := by decide +kernel
theorem mm_pG_at : ∀ e ∈ mm_pG, lw_tbl[if e.2.1 = 103 then 687 else 689]? = some (.fieldLinkNest (mm_nm e.1) e.2.1 RX9 e.2.2.2 "[I" RX9) := by decide +kernel
/-- a field of a cell holds one thing -/
theorem mm_OF_one {o n d : String} {v w : Value} {a : Nat} {A : Nat → Prop} {U : State} {H : Heap} (h1 : va_OF o n d v a A U H) (h2 : va_OF o n d w a A U H) : v = w := by
  obtain ⟨cf, k, fi, f, cell, a1, a2, a3, a4, a5, -⟩ := h1
  obtain ⟨cf', k', fi', f', cell', b1, b2, b3, b4, b5, -⟩ := h2
  have e := Option.some.inj (a1.symm.trans b1)
  cases e
  have e2 := Option.some.inj (a3.symm.trans b3)
  cases e2
  first | exact Option.some.inj (a5.symm.trans b5) | exact Option.some.inj (a4.symm.trans b4)
theorem mm_T_one {n n' : Nat} {f f' : Nat → Value} {a : Nat} {A : Nat → Prop} {ty : FieldType} {U : State} {H : Heap} (l1 : n < 2 ^ 31) (l2 : n' < 2 ^ 31) (h1 : va_T ty a n f A U H) (h2 : va_T ty a n' f' A U H) : n = n' ∧ ∀ j, j < n → f j = f' j := by
  obtain ⟨cell, a1, a2, a3, a4, a6, a5, -⟩ := h1
  obtain ⟨cell', b1, b2, b3, b4, b6, b5, -⟩ := h2
  have e := Option.some.inj (a1.symm.trans b1)
  cases e
  have hn : n = n' := by
    have q := congrArg Int32.toInt (a6.symm.trans b6)
    rw [Int32.toInt_ofNat_of_lt l1, Int32.toInt_ofNat_of_lt l2] at q
    omega
  exact ⟨hn, fun j hj => Option.some.inj ((a5 j hj).symm.trans (b5 j (by omega)))⟩
theorem mm_str0 {args : Array Value} {s : State} (hF : ∀ c ∈ mm_gv, c.before args s = true) {A : Nat → Prop} (hA : ∀ a : Nat, a < s.heap.size → ¬ A a) (i : Nat) (hi : i < 17) : ∃ q : Nat × Nat, (va_O "java/lang/String" q.1 A s s.heap ∧ va_OF "java/lang/String" "coder" "B" (.int 0) q.1 A s s.heap ∧ va_OF "java/lang/String" "value" "[B" (.ref q.2) q.1 A s s.heap ∧ va_T .byte q.2 (mm_sl.getD i 0) (fun j => .int ((mm_sb.getD i []).getD j 0)) A s s.heap) ∧ (mm_tm i).eval args s none [] s = some (.ref q.1) := by
  have hsl : ∀ i, i < 17 → mm_sl.getD i 0 < 2 ^ 31 := by decide +kernel
  have one : ∀ k : Nat, k < 1 → k = 0 := fun k h => by omega
  obtain ⟨adK, adV, h1, h2⟩ := vk_Sof (args := args) (s := s) (N := 1) (tm := fun _ => mm_tm i) (len := [mm_sl.getD i 0]) (byt := [mm_sb.getD i []]) (A := A) (fun k hk => by rw [one k hk]; exact hsl i hi) (fun k hk => hF _ (mm_g_ex i hi)) (fun k hk => hF _ (mm_g_co i hi)) (fun k hk => hF _ (mm_g_ar i hi)) (fun k hk => by rw [one k hk]; exact hF _ (mm_g_le i hi)) (fun k hk => by rw [one k hk]; exact fun j hj => hF _ (mm_g_el i hi j hj)) (fun a b ha hb hab => absurd ((one a ha).trans (one b hb).symm) hab) hA
  exact ⟨(adK 0, adV 0), h1.1 0 (by omega), h2 0 (by omega)⟩
theorem mm_env0 {s : State} {b L : Nat} {xs : Nat → Int32} (hts : ∀ w ∈ lw_tbl, w.before #[Value.ref b] s = true) (hgv : (Jvm.Cond.and given_1 narrow_1).before #[Value.ref b] s = true) (hX : va_X b L xs s s.heap) (hb : b < s.heap.size) :
    ∃ (e66 e67 : Nat) (adK adV : Nat → Nat), ∀ ad : Nat → Nat, ad 66 = e66 → ad 67 = e67 → ad 68 = b → (∀ i, i < 17 → ad (98 + i) = adK i) → mm_env ad adV (fun q : Nat => s.heap.size ≤ q) L xs s := by
  have hF : ∀ c ∈ mm_gv, c.before #[Value.ref b] s = true := flat_of_before _ hgv
  have hA : ∀ a : Nat, a < s.heap.size → ¬ (fun q : Nat => s.heap.size ≤ q) a := fun a h9 => Nat.not_le.mpr h9
  have at_ : ∀ {w : Cond} {i : Nat}, lw_tbl[i]? = some w → w.before #[Value.ref b] s = true := fun h => hts _ (List.mem_of_getElem? h)
  obtain ⟨e66, hx1, hx2⟩ := va_Tof (A := fun q : Nat => s.heap.size ≤ q) (f := fun j => .int (mm_wx.getD j 0)) (by decide) (hF _ mm_g_wx.1.1) (va_eqv (hF _ mm_g_wx.1.2) rfl) (fun j hj => va_eqv (hF _ (mm_g_wx.2 j hj)) rfl) hA
  obtain ⟨e67, hy1, hy2⟩ := va_Tof (A := fun q : Nat => s.heap.size ≤ q) (f := fun j => .int (mm_wy.getD j 0)) (by decide) (hF _ mm_g_wy.1.1) (va_eqv (hF _ mm_g_wy.1.2) rfl) (fun j hj => va_eqv (hF _ (mm_g_wy.2 j hj)) rfl) hA
  have hst : ∀ i : Nat, ∃ q : Nat × Nat, i < 17 → (va_O "java/lang/String" q.1 (fun q : Nat => s.heap.size ≤ q) s s.heap ∧ va_OF "java/lang/String" "coder" "B" (.int 0) q.1 (fun q : Nat => s.heap.size ≤ q) s s.heap ∧ va_OF "java/lang/String" "value" "[B" (.ref q.2) q.1 (fun q : Nat => s.heap.size ≤ q) s s.heap ∧ va_T .byte q.2 (mm_sl.getD i 0) (fun j => .int ((mm_sb.getD i []).getD j 0)) (fun q : Nat => s.heap.size ≤ q) s s.heap) ∧ (mm_tm i).eval #[Value.ref b] s none [] s = some (.ref q.1) := by
    intro i
    by_cases hi : i < 17
    · obtain ⟨q, hq⟩ := mm_str0 hF hA i hi
      exact ⟨q, fun _ => hq⟩
    · exact ⟨(0, 0), fun h => absurd h hi⟩
  obtain ⟨f, hch⟩ := Classical.axiomOfChoice hst
  have hsl : ∀ i, i < 17 → mm_sl.getD i 0 < 2 ^ 31 := by decide +kernel
  refine ⟨e66, e67, fun i => (f i).1, fun i => (f i).2, ?_⟩
  intro ad h66 h67 h68 hk
  refine ⟨⟨?_, ?_, ?_, ?_⟩, ⟨?_, ?_, ?_⟩, ⟨⟨?_, ?_⟩, ?_, ?_, ?_, ?_, ?_⟩, ?_, ?_, ?_⟩
  · rw [h66]; exact va_Zof (at_ mm_l_wx) (at_ mm_l_i9) hx1 hA
  · rw [h67]; exact va_Zof (at_ mm_l_wy) (at_ mm_l_i9) hy1 hA
  · rw [h66]; exact hx2
  · rw [h67]; exact hy2
  · rw [h68]; exact hX
  · rw [h68]; exact hb
  · rw [h68]; exact hA b hb
  · intro i hi
    show va_O "java/lang/String" (ad (98 + i)) _ s s.heap ∧ va_OF "java/lang/String" "coder" "B" (.int 0) (ad (98 + i)) _ s s.heap ∧ va_OF "java/lang/String" "value" "[B" _ (ad (98 + i)) _ s s.heap ∧ _
    rw [hk i hi]
    exact (hch i hi).1
  · intro i j hi hj e
    have e : ad (98 + i) = ad (98 + j) := e
    rw [hk i hi, hk j hj] at e
    have e : (f i).1 = (f j).1 := e
    have h1 := (hch i hi).1
    have h2 := (hch j hj).1
    rw [← e] at h2
    have ev := mm_OF_one h1.2.2.1 h2.2.2.1
    have ev : (f i).2 = (f j).2 := by injection ev
    have t2 := h2.2.2.2
    rw [← ev] at t2
    obtain ⟨en, el⟩ := mm_T_one (hsl i hi) (hsl j hj) h1.2.2.2 t2
    by_cases hij : i = j
    · exact hij
    · exfalso
      rcases mm_strs_ne i hi j hj hij with hne | ⟨t, -, ht1, ht2, hne⟩
      · exact hne en
      · have := el t ht1
        injection this with q
        first | exact hne q | exact hne q.symm
  · exact va_Zof (at_ mm_l_cs) (at_ mm_l_iS) (va_eqv (hF _ mm_g_cs) rfl) hA
  · exact va_Zqof (at_ mm_l_sf) (at_ mm_l_iP) (hF _ mm_g_sf) hA
  · exact vx_Zqof (at_ mm_l_us) (at_ mm_l_iT) (hF _ mm_g_us) hA
  · exact vx_Zqof (at_ mm_l_ss) (at_ mm_l_iT) (hF _ mm_g_ss) hA
  · exact ⟨mm_Dc.of (at_ mm_l_d1), mm_Dc.of (at_ mm_l_d2), mm_Dc.of (at_ mm_l_d3), mm_Ca.of (at_ mm_l_ca), at_ mm_l_ao⟩
  · intro e he
    obtain ⟨⟨a1, a2⟩, ht⟩ := mm_pS_tm e he
    have hev : (mm_tm (e.2.2.1 - 98)).eval #[Value.ref b] s none [] s = some (.ref (ad e.2.2.1)) := by
      have := (hch (e.2.2.1 - 98) (by omega)).2
      have e9 := hk (e.2.2.1 - 98) (by omega)
      rw [show 98 + (e.2.2.1 - 98) = e.2.2.1 by omega] at e9
      rw [e9]; exact this
    refine vk_R.of (at_ (mm_pS_at e he)) ?_
    rcases ht with ht | ht
    · rw [ht]; exact hev
    · exact va_eqR (hF _ ht) hev
  · exact fun e he => va_Nw.of rfl (at_ (mm_pN_at e he))
  · exact fun e he => va_Nw.of rfl (at_ (mm_pG_at e he))
