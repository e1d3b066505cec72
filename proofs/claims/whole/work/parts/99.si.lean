/-! reading: the class reads -/
theorem cS_no {r k : Nat} (h1 : r ≠ 1) (h4 : r ≠ 4) (h5 : r ≠ 5) : inS cS r k = false := by
  unfold inS cS
  simp [Ne.symm h1, Ne.symm h4, Ne.symm h5]
def frR (q : Bool) (I I' : mmI) : Prop := ∀ r k, r ≠ 1 → r ≠ 4 → r ≠ 5 → ((∀ j, j < 14 → r ≠ mm_ck q j) ∨ (k = 0 ∧ (r = mm_ck q 1 ∨ r = mm_ck q 5 ∨ r = mm_ck q 8))) → I' r k = I r k
theorem frD.R {q : Bool} {I I' : mmI} (h : frD q I I') : frR q I I' := fun r k a b c e => h r k (cS_no a b c) e
theorem frR.tr {q : Bool} {I I' I'' : mmI} (h : frR q I I') (h2 : frR q I' I'') : frR q I I'' := fun r k a b c e => (h2 r k a b c e).trans (h r k a b c e)
theorem dK_0 {q : Bool} {I : mmI} (hm : cMo I) : dK (mm_up (mm_up (mm_up (mm_up (mm_up (mm_up (mm_up (mm_up (mm_up (mm_up (mm_up I (mm_ck q 1) 3 (nI 0)) (mm_ck q 5) 3 (nI 0)) (mm_ck q 8) 3 (nI 0)) (mm_ck q 0) 6 (nI 0)) (mm_ck q 0) 7 (-1)) (mm_ck q 0) 8 (nI 0)) (mm_ck q 13) 0 (nI 0)) (mm_ck q 13) 1 (nI 1)) (mm_ck q 13) 2 (nI 0)) (mm_ck q 0) 10 (nI 0)) (mm_ck q 0) 11 (-2)) q (fun _ => 0) := by
  obtain ⟨m1, m2, m3⟩ := hm q
  refine ⟨⟨?_, ?_, ?_⟩, ?_, ?_, ?_, ?_, ?_, ?_, ?_, ?_, fun c hc => absurd hc (Nat.not_lt_zero c), fun c hc => absurd hc (Nat.not_lt_zero c), fun c hc => absurd hc (Nat.not_lt_zero c), fun c hc => absurd hc (Nat.not_lt_zero c), fun c hc => absurd hc (Nat.not_lt_zero c), fun c hc => absurd hc (Nat.not_lt_zero c), fun c hc => absurd hc (Nat.not_lt_zero c), fun c hc => absurd hc (Nat.not_lt_zero c), fun c hc => absurd hc (Nat.not_lt_zero c), fun k hk => ?_⟩
  · cases q <;> simp [up_eq, mm_ck] <;> simpa [mm_ck] using m1
  · cases q <;> simp [up_eq, mm_ck] <;> simpa [mm_ck] using m2
  · cases q <;> simp [up_eq, mm_ck] <;> simpa [mm_ck] using m3
  · cases q <;> simp [up_eq, mm_ck]
  · cases q <;> simp [up_eq, mm_ck]
  · cases q <;> simp [up_eq, mm_ck]
  · cases q <;> simp [up_eq, mm_ck]
  · cases q <;> simp [up_eq, mm_ck]
  · cases q <;> simp [up_eq, mm_ck]
  · cases q <;> simp [up_eq, mm_ck]
  · cases q <;> simp [up_eq, mm_ck]
  · have : k = 0 ∨ k = 1 ∨ k = 2 := by omega
    rcases this with rfl | rfl | rfl
    · cases q <;> simp [up_eq, mm_ck]
    · cases q <;> simp [up_eq, mm_ck]
    · cases q <;> simp [up_eq, mm_ck]
section SI
variable {d n1 n2 : Nat} {fl : Nat → Bool} {p q : Bool} {ad : Nat → Nat} {I : mmI} {J : mmJ} {Q : mmQ} {b : Nat → Nat} {N : Nat}
theorem ct_58 {F : Nat} (hN : N ≤ F) (hF : F ≤ 900) (h1 : I 1 1 = nI F) (ht : ∀ k, k < N → I 2 k = by8 (b k)) (hb : ∀ k, k < N → b k < 256) (hm : cMo I) (k0 : ∀ I' J' c pl, frR q I I' → I' 1 1 = nI 0 → readF b N = .error (c, pl) → 1 ≤ c → c ≤ 6 → pl ≤ 900 → I' 1 4 = nI pl → Q (some (.int (nI c))) ((fl, n1, n2, p, q, ad), I', J')) (k1 : ∀ I' J' a D nc, frR q I I' → I' 1 1 = nI 0 → readF b N = .ok (a, D, nc) → okD D nc → D 0 ≠ 0 → D 3 ≠ 0 → D 4 ≠ 0 → D 6 ≠ 0 → dK I' q D → Q (some (.int (nI 0))) ((fl, n1, n2, p, q, ad), I', J')) : mm_wc (d + 7) 58 [.ref 1, .int (nI N)] ((fl, n1, n2, p, q, ad), I, J) Q := by
  refine fx_58k (fx_31 ⟨_, _, rfl, rfl, ?_⟩)
  have K1 := dK_0 (q := q) hm
  have fr1 : ∀ r k, (∀ j, j < 14 → r ≠ mm_ck q j) → (mm_up (mm_up (mm_up (mm_up (mm_up (mm_up (mm_up (mm_up (mm_up (mm_up (mm_up I (mm_ck q 1) 3 (nI 0)) (mm_ck q 5) 3 (nI 0)) (mm_ck q 8) 3 (nI 0)) (mm_ck q 0) 6 (nI 0)) (mm_ck q 0) 7 (-1)) (mm_ck q 0) 8 (nI 0)) (mm_ck q 13) 0 (nI 0)) (mm_ck q 13) 1 (nI 1)) (mm_ck q 13) 2 (nI 0)) (mm_ck q 0) 10 (nI 0)) (mm_ck q 0) 11 (-2)) r k = I r k := fun r k hr => by
    rw [up_c (hr 0 (by decide)), up_c (hr 0 (by decide)), up_c (hr 13 (by decide)), up_c (hr 13 (by decide)), up_c (hr 13 (by decide)), up_c (hr 0 (by decide)), up_c (hr 0 (by decide)), up_c (hr 0 (by decide)), up_c (hr 8 (by decide)), up_c (hr 5 (by decide)), up_c (hr 1 (by decide))]
  generalize (mm_up (mm_up (mm_up (mm_up (mm_up (mm_up (mm_up (mm_up (mm_up (mm_up (mm_up I (mm_ck q 1) 3 (nI 0)) (mm_ck q 5) 3 (nI 0)) (mm_ck q 8) 3 (nI 0)) (mm_ck q 0) 6 (nI 0)) (mm_ck q 0) 7 (-1)) (mm_ck q 0) 8 (nI 0)) (mm_ck q 13) 0 (nI 0)) (mm_ck q 13) 1 (nI 1)) (mm_ck q 13) 2 (nI 0)) (mm_ck q 0) 10 (nI 0)) (mm_ck q 0) 11 (-2)) = I1 at *
  have e11 : I1 1 1 = nI F := by rw [fr1 1 1 (fun j _ => ck_r (by decide))]; exact h1
  rw [e11]
  refine ct_1002 ⟨_, _, _, rfl, rfl, ?_⟩
  rw [show (if nI F < nI N then nI F else nI N) = nI N by rw [if_neg (by rw [z_lt (by omega) (by omega)]; omega)]]
  have f2 : fr [(1, [2, 1, 5, 12, 14])] I1 (mm_up (mm_up (mm_up (mm_up (mm_up I1 1 2 (nI N)) 1 1 (nI 0)) 1 5 (nI 0)) 1 12 (nI 0)) 1 14 (nI 0)) := ((((fr.rf.up rfl).up rfl).up rfl).up rfl).up rfl
  have g2 : mm_up (mm_up (mm_up (mm_up (mm_up I1 1 2 (nI N)) 1 1 (nI 0)) 1 5 (nI 0)) 1 12 (nI 0)) 1 14 (nI 0) 1 2 = nI N := by rw [up_k (by decide), up_k (by decide), up_k (by decide), up_k (by decide), up_s]
  have g1 : mm_up (mm_up (mm_up (mm_up (mm_up I1 1 2 (nI N)) 1 1 (nI 0)) 1 5 (nI 0)) 1 12 (nI 0)) 1 14 (nI 0) 1 1 = nI 0 := by rw [up_k (by decide), up_k (by decide), up_k (by decide), up_s]
  have g5 : mm_up (mm_up (mm_up (mm_up (mm_up I1 1 2 (nI N)) 1 1 (nI 0)) 1 5 (nI 0)) 1 12 (nI 0)) 1 14 (nI 0) 1 5 = nI 0 := by rw [up_k (by decide), up_k (by decide), up_s]
  have g12 : mm_up (mm_up (mm_up (mm_up (mm_up I1 1 2 (nI N)) 1 1 (nI 0)) 1 5 (nI 0)) 1 12 (nI 0)) 1 14 (nI 0) 1 12 = nI 0 := by rw [up_k (by decide), up_s]
  have g14 : mm_up (mm_up (mm_up (mm_up (mm_up I1 1 2 (nI N)) 1 1 (nI 0)) 1 5 (nI 0)) 1 12 (nI 0)) 1 14 (nI 0) 1 14 = nI 0 := up_s _ _ _ _
  generalize mm_up (mm_up (mm_up (mm_up (mm_up I1 1 2 (nI N)) 1 1 (nI 0)) 1 5 (nI 0)) 1 12 (nI 0)) 1 14 (nI 0) = I2 at *
  have F2 : frR q I I2 := fun r k a b c e => by
    rw [f2 r k (by unfold inS; simp [Ne.symm a])]
    rcases e with e | ⟨rfl, e⟩
    · exact fr1 r k e
    · obtain ⟨m1, m2, m3⟩ := hm q
      obtain ⟨⟨q1, q2, q3⟩, -⟩ := K1
      rcases e with rfl | rfl | rfl
      · rw [m1, q1]
      · rw [m2, q2]
      · rw [m3, q3]
  have t2 : cTp b N I2 := ⟨g2, by omega, fun k hk => by rw [f2 2 k rfl, fr1 2 k (fun j _ => ck_r (by decide))]; exact ht k hk, hb, g14⟩
  have K2 : dK I2 q (fun _ => 0) := K1.fr f2 rfl
  refine ct_77 t2 g5 (Nat.zero_le _) (fun I3 J3 f3 j3 h3 => ⟨_, _, rfl, rfl, ?_⟩)
  have F3 : frD q I2 I3 := aS_D f3
  have D3 : cDr q (fun _ => 0) (fun _ => 0) I3 J3 := ⟨K2.fr f3 rfl, fun _ => 0, by rw [f3 1 12 rfl]; exact g12, by decide, fun i hi => absurd hi (Nat.not_lt_zero i), fun s _ hs => absurd rfl hs⟩
  have no1 : ∀ I', frD q I2 I' → I' 1 1 = nI 0 := fun I' f' => by rw [f' 1 1 rfl (.inl (fun j _ => ck_r (by decide)))]; exact g1
  generalize hR : readF b N = R at k0 k1
  have g96 : ∀ I' J', frD q I2 I' → cFl R I' → mm_w Q (mm_wc (d + 6)) bk_58 96 [some (.ref 1), none, some (.int (nI 0)), none] [] ((fl, n1, n2, p, q, ad), I', J') := fun I' J' f' hf => by
    obtain ⟨c, pl, eR, c1, c6, p9, e14, e4⟩ := hf
    refine fx_58k_96 ⟨fun _ => fx_58k_116 ?_, fun z => absurd rfl z⟩
    rw [e14]
    exact k0 I' J' c pl (F2.tr f'.R) (no1 I' f') eR c1 c6 p9 e4
  have g50 : ∀ I' J' x, frD q I2 I' → cFl R I' → mm_w Q (mm_wc (d + 6)) bk_58 50 [some (.ref 1), none, some (.int (nI 0)), some (.int x)] [] ((fl, n1, n2, p, q, ad), I', J') := fun I' J' x f' hf =>
    fx_58k_50 ⟨fun _ => g96 I' J' f' hf, fun _ => ⟨fun _ => g96 I' J' f' hf, fun z => absurd rfl z⟩⟩
  have lp : ∀ fu j a D nc I' J', fu + j = N + 1 → j + 1 ≤ a → frD q I2 I' → cTk b N a I' J' → cDr q D nc I' J' → okD D nc → restF b N fu a D nc = R → mm_w Q (mm_wc (d + 6)) bk_58 50 [some (.ref 1), none, some (.int (nI 1)), some (.int (nI j))] [] ((fl, n1, n2, p, q, ad), I', J') := by
    intro fu
    induction fu with
    | zero =>
      intro j a D nc I' J' hj hja f' h' hD ho
      have := h'.2.1
      omega
    | succ fu ih =>
      intro j a D nc I' J' hj hja f' h' hD ho e
      have haN := h'.2.1
      have hkl := ckd_lt (tkK b N a)
      rw [restF] at e
      refine fx_58k_50 ?_
      rw [h'.1.1, z_le (by omega) (by omega), h'.2.2.2.2.1, z_eq (a := ckd (tkK b N a)) (by omega) (by decide), (ckd_i (k := tkK b N a)).1]
      refine ⟨fun z => by omega, fun _ => ⟨fun z => absurd z n10, fun _ => ⟨fun e0 => ?_, fun n0 => ?_⟩⟩⟩
      · rw [if_neg (by omega), if_pos e0] at e
        obtain ⟨-, a3, a4, -, a6, a7, -⟩ := hD.1
        obtain ⟨b0, b1, -, -, b3, b4, -, b6, -⟩ := id ho
        refine fx_58k_96 ⟨fun z => absurd z n10, fun _ => fx_32 ?_⟩
        have bad : (D 0 = 0 ∨ D 3 = 0 ∨ D 4 = 0 ∨ D 6 = 0) → ∃ r1 I1 J1, some (Value.int (nI 1)) = some (Value.int r1) ∧ ((fl, 0, 0, p, q, ad), I', J') = ((fl, 0, 0, p, q, ad), I1, J1) ∧ ((r1 = (nI 0) → mm_w Q (mm_wc (d + 6)) bk_58 116 [some (.ref 1), none, none, none] [] ((fl, n1, n2, p, q, ad), I1, J1)) ∧ (¬ r1 = (nI 0) → mm_w Q (mm_wc (d + 6)) bk_58 116 [some (.ref 1), none, none, none] [] ((fl, n1, n2, p, q, ad), (mm_up I1 1 14 (nI 6)), J1))) := fun hl => by
          rw [if_pos hl] at e
          refine ⟨_, _, _, rfl, rfl, fun z => absurd z n10, fun _ => fx_58k_116 ?_⟩
          rw [up_s]
          have f6 : frD q I2 (mm_up I' 1 14 (nI 6)) := f'.tr (fr.D (fr.rf.up rfl))
          have h9 := h'.1.2.1
          exact k0 _ J' 6 a (F2.tr f6.R) (no1 _ f6) e.symm (by decide) (by decide) (by omega) (by rw [up_k (by decide)]; exact h'.2.2.1)
        rw [a3, a4, a6, a7, z_eq (a := D 3) (by omega) (by decide), z_eq (a := D 4) (by omega) (by decide), z_eq (a := D 6) (by omega) (by decide)]
        by_cases d0 : D 0 = 0
        · rw [if_pos d0]
          exact ⟨fun _ => bad (.inl d0), fun z => absurd rfl z⟩
        · rw [if_neg d0, z_m1 (by omega)]
          refine ⟨False.elim, fun _ => ⟨fun z => bad (.inr (.inl z)), fun d3 => ⟨fun z => bad (.inr (.inr (.inl z))), fun d4 => ⟨fun d6 => ⟨_, _, _, rfl, rfl, fun _ => fx_58k_116 ?_, fun z => absurd rfl z⟩, fun z => bad (.inr (.inr (.inr z)))⟩⟩⟩⟩
          rw [if_neg (by rintro (z | z | z | z) <;> omega)] at e
          rw [h'.1.2.2.2.2]
          exact k1 I' J' a D nc (F2.tr f'.R) (no1 I' f') e.symm ho d0 d3 d4 d6 hD.1
      · have e' : sgF b N 59 a (fun a1 => match lineF b N a1 D nc with | .error e => .error e | .ok (a2, D2, nc2) => restF b N fu a2 D2 nc2) = R := by
          unfold sgF
          by_cases e59 : tkK b N a = 59
          · rw [if_pos e59] at e ⊢; exact e
          · rw [if_neg e59, if_neg n0] at e; rw [if_neg e59]; exact e
        refine ct_76_59 h' e' (fun I4 J4 f4 j4 h4 e4 => ⟨_, _, _, rfl, rfl, fun z => absurd z n10, fun _ => ?_⟩) (fun I4 f4 h4 => ⟨_, _, _, rfl, rfl, fun _ => fx_58k_88 (fx_58k_89 (g50 I4 _ _ (f'.tr (tkS_D f4)) h4)), fun z => absurd rfl z⟩)
        have F4 := f'.tr (tkS_D (q := q) f4)
        have D4 : cDr q D nc I4 J4 := ⟨hD.1.fr f4 rfl, hD.2.choose, hD.2.choose_spec.fr f4 j4 rfl rfl⟩
        have hnx := nx_b (b := b) haN
        have htk := tkE_b (b := b) haN
        refine ct_61 h4 D4 ho rfl (fun I5 J5 f5 h5 => ⟨_, _, _, rfl, rfl, fun z => absurd z n10, fun _ => fx_58k_89 ?_⟩) (fun I5 J5 f5 h5 => ⟨_, _, _, rfl, rfl, fun _ => fx_58k_88 (fx_58k_89 (g50 I5 J5 _ (F4.tr f5) ?_)), fun z => absurd rfl z⟩)
        · obtain ⟨a5, D5, nc5, el, hT5, hD5⟩ := h5
          rw [el] at e4
          obtain ⟨q1, q2, q3⟩ := lineF_ok hnx.2 ho el
          rw [z_add]
          exact ih (j + 1) a5 D5 nc5 I5 J5 (by omega) (by omega) (F4.tr f5) hT5 hD5 q3 e4
        · obtain ⟨c, pl, el, rest⟩ := h5
          rw [el] at e4
          exact ⟨c, pl, e4.symm, rest⟩
  have hsk := skp_b (b := b) (N := N) (e := 0) (Nat.zero_le _)
  unfold readF at hR
  refine ct_61 h3 D3 okD_0 rfl (fun I5 J5 f5 h5 => ⟨_, _, _, rfl, rfl, ?_⟩) (fun I5 J5 f5 h5 => ⟨_, _, _, rfl, rfl, g50 I5 J5 _ (F3.tr f5) ?_⟩)
  · obtain ⟨a5, D5, nc5, el, hT5, hD5⟩ := h5
    rw [el] at hR
    obtain ⟨q1, q2, q3⟩ := lineF_ok hsk.2 okD_0 el
    exact lp (N + 1) 0 a5 D5 nc5 I5 J5 rfl (by omega) (F3.tr f5) hT5 hD5 q3 hR
  · obtain ⟨c, pl, el, rest⟩ := h5
    rw [el] at hR
    exact ⟨c, pl, hR.symm, rest⟩
end SI
