/-! reading: the model's left line, a line, the whole -/
theorem popc_or {s m : Nat} (hs : s.testBit m = false) : ∀ n, popc (s ||| 2 ^ m) n = popc s n + (if m < n then 1 else 0)
  | 0 => by rw [popc, popc, if_neg (Nat.not_lt_zero m)]
  | n + 1 => by
    rw [popc_succ, popc_succ, popc_or hs n, Nat.testBit_or, tb_2pow]
    by_cases e : m = n
    · subst e
      rw [hs, if_neg (by omega), if_pos (by omega)]
      simp
    · rw [decide_eq_false e, Bool.or_false]
      by_cases h : m < n
      · rw [if_pos h, if_pos (by omega)]; omega
      · rw [if_neg h, if_neg (by omega)]; omega
section RI
variable {d n1 n2 : Nat} {fl : Nat → Bool} {p q : Bool} {ad : Nat → Nat} {I : mmI} {J : mmJ} {Q : mmQ} {b nc D : Nat → Nat} {N a : Nat} {R : zE}
theorem le_51f {x : Int32} (h : mFl R I) (c : Q none ((fl, n1, n2, p, q, ad), I, J)) : mm_w Q (mm_wc d) bk_198 51 [some (.ref 46), none, none] [.int x] ((fl, n1, n2, p, q, ad), I, J) :=
  fx_198k_51 ⟨fun _ => fx_198k_78 ⟨fun _ => fx_198k_108 ⟨fun z => absurd z h.n13, fun _ => c⟩, fun z => absurd z h.n13⟩, fun z => absurd z h.n13⟩
theorem le_78f {x : Int32} (h : mFl R I) (c : Q none ((fl, n1, n2, p, q, ad), I, J)) : mm_w Q (mm_wc d) bk_198 78 [some (.ref 46), none, some (.int x)] [] ((fl, n1, n2, p, q, ad), I, J) :=
  fx_198k_78 ⟨fun _ => fx_198k_108 ⟨fun z => absurd z h.n13, fun _ => c⟩, fun z => absurd z h.n13⟩
theorem le_lp {I0 : mmI} (c : ∀ I', fr nmS I0 I' → mEn b N R I' → Q none ((fl, n1, n2, p, q, ad), I', J)) : ∀ f a D I, mT b N a I → mDr b D nc I → okD D nc → D 8 = 1 → popc (D 9) 10 + f = 11 → lefL b N nc f a D = R → fr nmS I0 I → mm_w Q (mm_wc (d + 3)) bk_198 28 [some (.ref 46), some (.int (nI 1)), none] [] ((fl, n1, n2, p, q, ad), I, J) := by
  intro f
  induction f with
  | zero =>
    intro a D I h hD ho h8 hp
    have := popc_le (D 9) 10
    omega
  | succ f ih =>
    intro a D I h hD ho h8 hp e F
    have hN : okN nc := ho.2.2.2.2.2.2.2.2.2.2.2.2.2.2.2.2.2.2.2.2.2.2
    have h9 : D 9 < 2 ^ 10 := Nat.lt_of_lt_of_le ho.2.2.2.2.2.2.2.2.2.2.1 (Nat.pow_le_pow_right (by decide) ho.2.2.2.2.1)
    have ha := h.2.1
    rw [lefL] at e
    refine fx_198k_28 ⟨fun z => absurd z n10, fun _ => ct_181 h (fun hi => ⟨_, _, rfl, rfl, fun _ => ?_, fun z => absurd h.2.2.1 z⟩) (fun I' hi f' h' => ⟨_, _, rfl, rfl, fun z => absurd z h'.n13, fun _ => ?_⟩)⟩
    · have hcp := cod_pos hi.1
      -- a name that is no candle's
      have no2 : ∀ x : Int32, ¬ (¬ x < nI 0 ∧ ¬ nI 9 < x) → (∀ j, j < 10 → nc j ≠ cod b N a) → mm_w Q (mm_wc (d + 3)) bk_198 51 [some (.ref 46), none, none] [.int x] ((fl, n1, n2, p, q, ad), I, J) := fun x hx hno => by
        rw [lef1_no hi hno] at e
        refine fx_198k_51 ⟨fun z => absurd h.2.2.1 z, fun _ => ct_169 ⟨_, _, _, rfl, rfl, ?_⟩⟩
        rw [decide_eq_false hx]
        exact ⟨fun z => absurd rfl z, fun _ => ct_177 h (by decide) (by decide) (fun I' f' h' => ⟨_, _, rfl, rfl, le_78f (R := R) (by rw [← e]; exact h') (c _ (F.tr (f'.sub rfl)) (.inr (by rw [← e]; exact h')))⟩)⟩
      refine ct_182 h hi.1 hD.2 (fun m hm em => ⟨_, _, _, rfl, rfl, ?_⟩) (fun hno => ⟨_, _, _, rfl, rfl, no2 _ (fun z => z.1 nm1_lt) (fun j hj => hno j (by omega))⟩)
      by_cases hm10 : m < 10
      · rw [lef1_eq hN hi hm10 em] at e
        have hm3 : m < D 3 := (ho.2.2.2.2.2.2.2.2.2.2.2.2.2.2.2.2.2.2.1 m hm10).mp (by omega)
        refine fx_198k_51 ⟨fun z => absurd h.2.2.1 z, fun _ => ct_169 ⟨_, _, _, rfl, rfl, ?_⟩⟩
        rw [decide_eq_true (show ¬ nI m < nI 0 ∧ ¬ nI 9 < nI m by rw [z_lt (by omega) (by decide), z_lt (by decide) (by omega)]; omega)]
        refine ⟨fun _ => fx_198k_78 ⟨fun z => absurd h.2.2.1 z, fun _ => ?_⟩, fun z => absurd z n10⟩
        rw [hD.1 9 (by decide)]
        refine ct_170 (by omega) (by omega) ⟨_, _, _, rfl, rfl, ?_⟩
        rw [bI_0]
        refine ⟨fun hb => ?_, fun hb => ct_177 h (by decide) (by decide) (fun I' f' h' => ⟨_, _, rfl, rfl, ?_⟩)⟩
        · rw [if_neg (by rw [hb]; decide)] at e
          refine fx_198k_108 ⟨fun _ => ?_, fun z => absurd h.2.2.1 z⟩
          rw [hD.1 9 (by decide), z_bit (by omega), z_or]
          have D1 := hD.up (k := 9) (v := D 9 ||| 2 ^ m) (by decide)
          have o1 : okD (up1 D 9 (D 9 ||| 2 ^ m)) nc := by
            have := okD_89 (v := 1) ho rfl (or_lt2 ho.2.2.2.2.2.2.2.2.2.2.1 hm3)
            rw [← h8, up1_id] at this
            exact this
          refine ct_176n h.up50 (fun I2 f2 h2 => ⟨_, _, rfl, rfl, ?_⟩)
          have F2 : fr nmS I0 I2 := (F.up rfl).tr (f2.sub rfl)
          have D2 := D1.fr f2 rfl
          refine ct_186 h2 (fun I3 hk f3 h3 => ⟨_, _, _, rfl, rfl, ?_⟩) (fun hk => ⟨_, _, _, rfl, rfl, fx_198k_28 ⟨fun _ => c I2 F2 (.inl ⟨_, _, _, ?_, h2, D2⟩), fun z => absurd rfl z⟩⟩)
          · rw [if_pos hk] at e
            refine ih _ _ I3 h3 (D2.fr f3 rfl) o1 (by rw [up1_n (by decide)]; exact h8) ?_ e (F2.tr (f3.sub rfl))
            rw [up1_s, popc_or (by simpa using hb), if_pos hm10]; omega
          · rw [if_neg hk] at e; exact e.symm
        · have hb : (D 9).testBit m = true := by simpa using hb
          rw [if_pos hb] at e
          have h'' : mFl R I' := by rw [← e]; exact h'
          exact fx_198k_108 ⟨fun z => absurd z h''.n13, fun _ => c _ (F.tr (f'.sub rfl)) (.inr h'')⟩
      · refine no2 _ ?_ (fun j hj ej => ?_)
        · rw [z_lt (by omega) (by decide), z_lt (by decide) (by omega)]; omega
        · have := hN j m (by omega) hm (by rw [ej, em]) (by omega)
          omega
    · rw [lef1_nn hi] at e
      have h'' : mFl R I' := by rw [← e]; exact h'
      exact le_51f h'' (c _ (F.tr (f'.sub rfl)) (.inr h''))
theorem ct_198 (h : mT b N a I) (hD : mDr b D nc I) (ho : okD D nc) (h8 : D 8 = 0) (e : leftF b N a D nc = R) (c : ∀ I', fr nmS I I' → mEn b N R I' → Q none ((fl, n1, n2, p, q, ad), I', J)) : mm_wc (d + 4) 198 [.ref 46] ((fl, n1, n2, p, q, ad), I, J) Q := by
  have D1 := hD.up (k := 8) (v := 1) (by decide)
  have h9 : D 9 = 0 := ho.2.2.2.2.2.2.2.2.2.2.2.1 h8
  have F1 : fr nmS I (mm_up I 50 8 (nI 1)) := fr.rf.up rfl
  refine fx_198k ⟨fun _ => ct_179_none h.up50 (fun I1 w f1 h1 => ⟨_, _, _, rfl, rfl, fun z => absurd z n10, fun _ => c I1 (F1.tr (f1.sub rfl)) (.inl ⟨_, _, _, ?_, h1, D1.fr f1 rfl⟩)⟩) (fun w => ⟨_, _, _, rfl, rfl, fun _ => ?_, fun z => absurd rfl z⟩), fun z => absurd h.2.2.1 z⟩
  · rw [leftF, if_pos w] at e; exact e.symm
  · rw [leftF, if_neg w] at e
    exact le_lp c 11 a _ _ h.up50 D1 (okD_8 ho h8) (up1_s _ _ _) (by rw [up1_n (by decide), h9]; decide) e F1
theorem ct_189_cake {s : Int32} {e : Nat} (h : mT b N a I) (e1 : 1 ≤ e) (e6 : e ≤ 6) (k1 : ∀ I', wd b N 0 a → ¬ s = nI 0 → fr wS I I' → mT b N (nx b N a) I' → Q (some (.int (nI 1))) ((fl, n1, n2, p, q, ad), I', J)) (k2 : ∀ I', wd b N 0 a → s = nI 0 → fr wS I I' → mFl (.error (e, a)) I' → Q (some (.int (nI 1))) ((fl, n1, n2, p, q, ad), I', J)) (k0 : ¬ wd b N 0 a → Q (some (.int (nI 0))) ((fl, n1, n2, p, q, ad), I, J)) : mm_wc (d + 3) 189 [.ref 46, .ref 98, .int s, .int (nI e)] ((fl, n1, n2, p, q, ad), I, J) Q :=
  fx_189_cake (ct_178_cake h (fun w => ⟨_, _, _, rfl, rfl, fun _ => ⟨fun hs => ⟨fun z => absurd h.2.2.1 z, fun _ => ct_176n h (fun I' f' h' => ⟨_, _, rfl, rfl, k1 I' w hs f' h'⟩)⟩, fun hs => ct_177 h e1 e6 (fun I' f' h' => ⟨_, _, rfl, rfl, fun _ => k2 I' w hs f' h', fun z => absurd z h'.n13⟩)⟩, fun z => absurd z n10⟩) (fun w => ⟨_, _, _, rfl, rfl, fun z => absurd rfl z, fun _ => k0 w⟩))
theorem ct_189_candle {s : Int32} {e : Nat} (h : mT b N a I) (e1 : 1 ≤ e) (e6 : e ≤ 6) (k1 : ∀ I', wd b N 3 a → ¬ s = nI 0 → fr wS I I' → mT b N (nx b N a) I' → Q (some (.int (nI 1))) ((fl, n1, n2, p, q, ad), I', J)) (k2 : ∀ I', wd b N 3 a → s = nI 0 → fr wS I I' → mFl (.error (e, a)) I' → Q (some (.int (nI 1))) ((fl, n1, n2, p, q, ad), I', J)) (k0 : ¬ wd b N 3 a → Q (some (.int (nI 0))) ((fl, n1, n2, p, q, ad), I, J)) : mm_wc (d + 3) 189 [.ref 46, .ref 101, .int s, .int (nI e)] ((fl, n1, n2, p, q, ad), I, J) Q :=
  fx_189_candle (ct_178_candle h (fun w => ⟨_, _, _, rfl, rfl, fun _ => ⟨fun hs => ⟨fun z => absurd h.2.2.1 z, fun _ => ct_176n h (fun I' f' h' => ⟨_, _, rfl, rfl, k1 I' w hs f' h'⟩)⟩, fun hs => ct_177 h e1 e6 (fun I' f' h' => ⟨_, _, rfl, rfl, fun _ => k2 I' w hs f' h', fun z => absurd z h'.n13⟩)⟩, fun z => absurd z n10⟩) (fun w => ⟨_, _, _, rfl, rfl, fun z => absurd rfl z, fun _ => k0 w⟩))
theorem ct_189_place {s : Int32} {e : Nat} (h : mT b N a I) (e1 : 1 ≤ e) (e6 : e ≤ 6) (k1 : ∀ I', wd b N 4 a → ¬ s = nI 0 → fr wS I I' → mT b N (nx b N a) I' → Q (some (.int (nI 1))) ((fl, n1, n2, p, q, ad), I', J)) (k2 : ∀ I', wd b N 4 a → s = nI 0 → fr wS I I' → mFl (.error (e, a)) I' → Q (some (.int (nI 1))) ((fl, n1, n2, p, q, ad), I', J)) (k0 : ¬ wd b N 4 a → Q (some (.int (nI 0))) ((fl, n1, n2, p, q, ad), I, J)) : mm_wc (d + 3) 189 [.ref 46, .ref 102, .int s, .int (nI e)] ((fl, n1, n2, p, q, ad), I, J) Q :=
  fx_189_place (ct_178_place h (fun w => ⟨_, _, _, rfl, rfl, fun _ => ⟨fun hs => ⟨fun z => absurd h.2.2.1 z, fun _ => ct_176n h (fun I' f' h' => ⟨_, _, rfl, rfl, k1 I' w hs f' h'⟩)⟩, fun hs => ct_177 h e1 e6 (fun I' f' h' => ⟨_, _, rfl, rfl, fun _ => k2 I' w hs f' h', fun z => absurd z h'.n13⟩)⟩, fun z => absurd z n10⟩) (fun w => ⟨_, _, _, rfl, rfl, fun z => absurd rfl z, fun _ => k0 w⟩))
theorem ct_189_spot {s : Int32} {e : Nat} (h : mT b N a I) (e1 : 1 ≤ e) (e6 : e ≤ 6) (k1 : ∀ I', wd b N 5 a → ¬ s = nI 0 → fr wS I I' → mT b N (nx b N a) I' → Q (some (.int (nI 1))) ((fl, n1, n2, p, q, ad), I', J)) (k2 : ∀ I', wd b N 5 a → s = nI 0 → fr wS I I' → mFl (.error (e, a)) I' → Q (some (.int (nI 1))) ((fl, n1, n2, p, q, ad), I', J)) (k0 : ¬ wd b N 5 a → Q (some (.int (nI 0))) ((fl, n1, n2, p, q, ad), I, J)) : mm_wc (d + 3) 189 [.ref 46, .ref 103, .int s, .int (nI e)] ((fl, n1, n2, p, q, ad), I, J) Q :=
  fx_189_spot (ct_178_spot h (fun w => ⟨_, _, _, rfl, rfl, fun _ => ⟨fun hs => ⟨fun z => absurd h.2.2.1 z, fun _ => ct_176n h (fun I' f' h' => ⟨_, _, rfl, rfl, k1 I' w hs f' h'⟩)⟩, fun hs => ct_177 h e1 e6 (fun I' f' h' => ⟨_, _, rfl, rfl, fun _ => k2 I' w hs f' h', fun z => absurd z h'.n13⟩)⟩, fun z => absurd z n10⟩) (fun w => ⟨_, _, _, rfl, rfl, fun z => absurd rfl z, fun _ => k0 w⟩))
theorem ct_189_person {s : Int32} {e : Nat} (h : mT b N a I) (e1 : 1 ≤ e) (e6 : e ≤ 6) (k1 : ∀ I', wd b N 6 a → ¬ s = nI 0 → fr wS I I' → mT b N (nx b N a) I' → Q (some (.int (nI 1))) ((fl, n1, n2, p, q, ad), I', J)) (k2 : ∀ I', wd b N 6 a → s = nI 0 → fr wS I I' → mFl (.error (e, a)) I' → Q (some (.int (nI 1))) ((fl, n1, n2, p, q, ad), I', J)) (k0 : ¬ wd b N 6 a → Q (some (.int (nI 0))) ((fl, n1, n2, p, q, ad), I, J)) : mm_wc (d + 3) 189 [.ref 46, .ref 104, .int s, .int (nI e)] ((fl, n1, n2, p, q, ad), I, J) Q :=
  fx_189_person (ct_178_person h (fun w => ⟨_, _, _, rfl, rfl, fun _ => ⟨fun hs => ⟨fun z => absurd h.2.2.1 z, fun _ => ct_176n h (fun I' f' h' => ⟨_, _, rfl, rfl, k1 I' w hs f' h'⟩)⟩, fun hs => ct_177 h e1 e6 (fun I' f' h' => ⟨_, _, rfl, rfl, fun _ => k2 I' w hs f' h', fun z => absurd z h'.n13⟩)⟩, fun z => absurd z n10⟩) (fun w => ⟨_, _, _, rfl, rfl, fun z => absurd rfl z, fun _ => k0 w⟩))
theorem ct_189_shaky {s : Int32} {e : Nat} (h : mT b N a I) (e1 : 1 ≤ e) (e6 : e ≤ 6) (k1 : ∀ I', wd b N 7 a → ¬ s = nI 0 → fr wS I I' → mT b N (nx b N a) I' → Q (some (.int (nI 1))) ((fl, n1, n2, p, q, ad), I', J)) (k2 : ∀ I', wd b N 7 a → s = nI 0 → fr wS I I' → mFl (.error (e, a)) I' → Q (some (.int (nI 1))) ((fl, n1, n2, p, q, ad), I', J)) (k0 : ¬ wd b N 7 a → Q (some (.int (nI 0))) ((fl, n1, n2, p, q, ad), I, J)) : mm_wc (d + 3) 189 [.ref 46, .ref 105, .int s, .int (nI e)] ((fl, n1, n2, p, q, ad), I, J) Q :=
  fx_189_shaky (ct_178_shaky h (fun w => ⟨_, _, _, rfl, rfl, fun _ => ⟨fun hs => ⟨fun z => absurd h.2.2.1 z, fun _ => ct_176n h (fun I' f' h' => ⟨_, _, rfl, rfl, k1 I' w hs f' h'⟩)⟩, fun hs => ct_177 h e1 e6 (fun I' f' h' => ⟨_, _, rfl, rfl, fun _ => k2 I' w hs f' h', fun z => absurd z h'.n13⟩)⟩, fun z => absurd z n10⟩) (fun w => ⟨_, _, _, rfl, rfl, fun z => absurd rfl z, fun _ => k0 w⟩))
theorem ct_189_left {s : Int32} {e : Nat} (h : mT b N a I) (e1 : 1 ≤ e) (e6 : e ≤ 6) (k1 : ∀ I', wd b N 8 a → ¬ s = nI 0 → fr wS I I' → mT b N (nx b N a) I' → Q (some (.int (nI 1))) ((fl, n1, n2, p, q, ad), I', J)) (k2 : ∀ I', wd b N 8 a → s = nI 0 → fr wS I I' → mFl (.error (e, a)) I' → Q (some (.int (nI 1))) ((fl, n1, n2, p, q, ad), I', J)) (k0 : ¬ wd b N 8 a → Q (some (.int (nI 0))) ((fl, n1, n2, p, q, ad), I, J)) : mm_wc (d + 3) 189 [.ref 46, .ref 106, .int s, .int (nI e)] ((fl, n1, n2, p, q, ad), I, J) Q :=
  fx_189_left (ct_178_left h (fun w => ⟨_, _, _, rfl, rfl, fun _ => ⟨fun hs => ⟨fun z => absurd h.2.2.1 z, fun _ => ct_176n h (fun I' f' h' => ⟨_, _, rfl, rfl, k1 I' w hs f' h'⟩)⟩, fun hs => ct_177 h e1 e6 (fun I' f' h' => ⟨_, _, rfl, rfl, fun _ => k2 I' w hs f' h', fun z => absurd z h'.n13⟩)⟩, fun z => absurd z n10⟩) (fun w => ⟨_, _, _, rfl, rfl, fun z => absurd rfl z, fun _ => k0 w⟩))
theorem ct_190 (h : mT b N a I) (hD : mDr b D nc I) (ho : okD D nc) (e : lineF b N a D nc = R) (c : ∀ I', fr nmS I I' → mEn b N R I' → Q none ((fl, n1, n2, p, q, ad), I', J)) : mm_wc (d + 8) 190 [.ref 46] ((fl, n1, n2, p, q, ad), I, J) Q := by
  obtain ⟨b0, -, -, -, b3, b4, b5, b6, b7, b8, -⟩ := id ho
  unfold lineF at e
  have s_cake : ∀ s : Int32, (¬ s = nI 0 ↔ D 0 = 0) → mm_w Q (mm_wc (d + 7)) bk_190 17 [some (.ref 46)] [.int s, .ref 98, .ref 46] ((fl, n1, n2, p, q, ad), I, J) := by
    intro s hs
    refine fx_190_17 (ct_189_cake h (by decide) (by decide) (fun I' w z f' h' => ⟨_, _, _, rfl, rfl, fun y => absurd y n10, fun _ => ?_⟩) (fun I' w z f' h' => ⟨_, _, _, rfl, rfl, fun y => absurd y n10, fun _ => ?_⟩) (fun w => ⟨_, _, _, rfl, rfl, fun _ => ?_, fun y => absurd rfl y⟩))
    · have y := hs.mp z
      rw [if_pos w, if_pos y] at e
      exact ct_191 h' (hD.fr f' rfl) e (fun I2 f2 h2 => ⟨_, _, rfl, rfl, c I2 ((f'.sub rfl).tr f2) h2⟩)
    · have y : ¬ D 0 = 0 := fun y => hs.mpr y z
      rw [if_pos w, if_neg y] at e
      rw [e] at h'
      exact fx_191 ⟨fun y => absurd y h'.n13, fun _ => ⟨_, _, rfl, rfl, c I' (f'.sub rfl) (.inr h')⟩⟩
    · rw [if_neg w] at e
      have s_candle : ∀ s : Int32, (¬ s = nI 0 ↔ D 3 < 10) → mm_w Q (mm_wc (d + 7)) bk_190 50 [some (.ref 46)] [.int s, .ref 101, .ref 46] ((fl, n1, n2, p, q, ad), I, J) := by
        intro s hs
        refine fx_190_50 (ct_189_candle h (by decide) (by decide) (fun I' w z f' h' => ⟨_, _, _, rfl, rfl, fun y => absurd y n10, fun _ => ?_⟩) (fun I' w z f' h' => ⟨_, _, _, rfl, rfl, fun y => absurd y n10, fun _ => ?_⟩) (fun w => ⟨_, _, _, rfl, rfl, fun _ => ?_, fun y => absurd rfl y⟩))
        · have y := hs.mp z
          rw [if_pos w, if_pos y] at e
          exact ct_193 h' (hD.fr f' rfl) ho y e (fun I2 f2 h2 => ⟨_, _, rfl, rfl, c I2 ((f'.sub rfl).tr f2) h2⟩)
        · have y : ¬ D 3 < 10 := fun y => hs.mpr y z
          rw [if_pos w, if_neg y] at e
          rw [e] at h'
          exact fx_193k ⟨fun y => absurd y h'.n13, fun _ => ⟨_, _, rfl, rfl, c I' (f'.sub rfl) (.inr h')⟩⟩
        · rw [if_neg w] at e
          have s_place : ∀ s : Int32, (¬ s = nI 0 ↔ D 4 < 5) → mm_w Q (mm_wc (d + 7)) bk_190 82 [some (.ref 46)] [.int s, .ref 102, .ref 46] ((fl, n1, n2, p, q, ad), I, J) := by
            intro s hs
            refine fx_190_82 (ct_189_place h (by decide) (by decide) (fun I' w z f' h' => ⟨_, _, _, rfl, rfl, fun y => absurd y n10, fun _ => ?_⟩) (fun I' w z f' h' => ⟨_, _, _, rfl, rfl, fun y => absurd y n10, fun _ => ?_⟩) (fun w => ⟨_, _, _, rfl, rfl, fun _ => ?_, fun y => absurd rfl y⟩))
            · have y := hs.mp z
              rw [if_pos w, if_pos y] at e
              exact ct_194 h' (hD.fr f' rfl) y e (fun I2 f2 h2 => ⟨_, _, rfl, rfl, c I2 ((f'.sub rfl).tr f2) h2⟩)
            · have y : ¬ D 4 < 5 := fun y => hs.mpr y z
              rw [if_pos w, if_neg y] at e
              rw [e] at h'
              exact fx_194 ⟨fun y => absurd y h'.n13, fun _ => ⟨_, _, rfl, rfl, c I' (f'.sub rfl) (.inr h')⟩⟩
            · rw [if_neg w] at e
              have s_spot : ∀ s : Int32, (¬ s = nI 0 ↔ D 5 < 4) → mm_w Q (mm_wc (d + 7)) bk_190 114 [some (.ref 46)] [.int s, .ref 103, .ref 46] ((fl, n1, n2, p, q, ad), I, J) := by
                intro s hs
                refine fx_190_114 (ct_189_spot h (by decide) (by decide) (fun I' w z f' h' => ⟨_, _, _, rfl, rfl, fun y => absurd y n10, fun _ => ?_⟩) (fun I' w z f' h' => ⟨_, _, _, rfl, rfl, fun y => absurd y n10, fun _ => ?_⟩) (fun w => ⟨_, _, _, rfl, rfl, fun _ => ?_, fun y => absurd rfl y⟩))
                · have y := hs.mp z
                  rw [if_pos w, if_pos y] at e
                  exact ct_195 h' (hD.fr f' rfl) y e (fun I2 f2 h2 => ⟨_, _, rfl, rfl, c I2 ((f'.sub rfl).tr f2) h2⟩)
                · have y : ¬ D 5 < 4 := fun y => hs.mpr y z
                  rw [if_pos w, if_neg y] at e
                  rw [e] at h'
                  exact fx_195 ⟨fun y => absurd y h'.n13, fun _ => ⟨_, _, rfl, rfl, c I' (f'.sub rfl) (.inr h')⟩⟩
                · rw [if_neg w] at e
                  have s_person : ∀ s : Int32, (¬ s = nI 0 ↔ D 6 < 4) → mm_w Q (mm_wc (d + 7)) bk_190 147 [some (.ref 46)] [.int s, .ref 104, .ref 46] ((fl, n1, n2, p, q, ad), I, J) := by
                    intro s hs
                    refine fx_190_147 (ct_189_person h (by decide) (by decide) (fun I' w z f' h' => ⟨_, _, _, rfl, rfl, fun y => absurd y n10, fun _ => ?_⟩) (fun I' w z f' h' => ⟨_, _, _, rfl, rfl, fun y => absurd y n10, fun _ => ?_⟩) (fun w => ⟨_, _, _, rfl, rfl, fun _ => ?_, fun y => absurd rfl y⟩))
                    · have y := hs.mp z
                      rw [if_pos w, if_pos y] at e
                      exact ct_196 h' (hD.fr f' rfl) y e (fun I2 f2 h2 => ⟨_, _, rfl, rfl, c I2 ((f'.sub rfl).tr f2) h2⟩)
                    · have y : ¬ D 6 < 4 := fun y => hs.mpr y z
                      rw [if_pos w, if_neg y] at e
                      rw [e] at h'
                      exact fx_196 ⟨fun y => absurd y h'.n13, fun _ => ⟨_, _, rfl, rfl, c I' (f'.sub rfl) (.inr h')⟩⟩
                    · rw [if_neg w] at e
                      have s_shaky : ∀ s : Int32, (¬ s = nI 0 ↔ D 7 = 0) → mm_w Q (mm_wc (d + 7)) bk_190 179 [some (.ref 46)] [.int s, .ref 105, .ref 46] ((fl, n1, n2, p, q, ad), I, J) := by
                        intro s hs
                        refine fx_190_179 (ct_189_shaky h (by decide) (by decide) (fun I' w z f' h' => ⟨_, _, _, rfl, rfl, fun y => absurd y n10, fun _ => ?_⟩) (fun I' w z f' h' => ⟨_, _, _, rfl, rfl, fun y => absurd y n10, fun _ => ?_⟩) (fun w => ⟨_, _, _, rfl, rfl, fun _ => ?_, fun y => absurd rfl y⟩))
                        · have y := hs.mp z
                          rw [if_pos w, if_pos y] at e
                          exact ct_197 h' (hD.fr f' rfl) e (fun I2 f2 h2 => ⟨_, _, rfl, rfl, c I2 ((f'.sub rfl).tr f2) h2⟩)
                        · have y : ¬ D 7 = 0 := fun y => hs.mpr y z
                          rw [if_pos w, if_neg y] at e
                          rw [e] at h'
                          exact fx_197 ⟨fun y => absurd y h'.n13, fun _ => ⟨_, _, rfl, rfl, c I' (f'.sub rfl) (.inr h')⟩⟩
                        · rw [if_neg w] at e
                          have s_left : ∀ s : Int32, (¬ s = nI 0 ↔ D 8 = 0) → mm_w Q (mm_wc (d + 7)) bk_190 211 [some (.ref 46)] [.int s, .ref 106, .ref 46] ((fl, n1, n2, p, q, ad), I, J) := by
                            intro s hs
                            refine fx_190_211 (ct_189_left h (by decide) (by decide) (fun I' w z f' h' => ⟨_, _, _, rfl, rfl, fun y => absurd y n10, fun _ => ?_⟩) (fun I' w z f' h' => ⟨_, _, _, rfl, rfl, fun y => absurd y n10, fun _ => ?_⟩) (fun w => ⟨_, _, _, rfl, rfl, fun _ => ?_, fun y => absurd rfl y⟩))
                            · have y := hs.mp z
                              rw [if_pos w, if_pos y] at e
                              exact ct_198 h' (hD.fr f' rfl) ho y e (fun I2 f2 h2 => ⟨_, _, rfl, rfl, c I2 ((f'.sub rfl).tr f2) h2⟩)
                            · have y : ¬ D 8 = 0 := fun y => hs.mpr y z
                              rw [if_pos w, if_neg y] at e
                              rw [e] at h'
                              exact fx_198k ⟨fun y => absurd y h'.n13, fun _ => ⟨_, _, rfl, rfl, c I' (f'.sub rfl) (.inr h')⟩⟩
                            · rw [if_neg w] at e
                              refine fx_190_225 (ct_177 h (by decide) (by decide) (fun I' f' h' => ⟨_, _, rfl, rfl, c I' (f'.sub rfl) (.inr ?_)⟩))
                              rw [← e]; exact h'
                          refine fx_190_193 ?_
                          rw [hD.1 8 (by decide), z_eq (by omega) (by decide)]
                          exact ⟨fun z => s_left _ ⟨fun y => absurd rfl y, fun y => absurd y z⟩, fun z => s_left _ ⟨fun _ => z, fun _ => n10⟩⟩
                      refine fx_190_161 ?_
                      rw [hD.1 7 (by decide), z_eq (by omega) (by decide)]
                      exact ⟨fun z => s_shaky _ ⟨fun y => absurd rfl y, fun y => absurd y z⟩, fun z => s_shaky _ ⟨fun _ => z, fun _ => n10⟩⟩
                  refine fx_190_128 ?_
                  rw [hD.1 6 (by decide), z_le (by decide) (by omega)]
                  exact ⟨fun z => s_person _ ⟨fun y => absurd rfl y, fun y => by omega⟩, fun z => s_person _ ⟨fun _ => by omega, fun _ => n10⟩⟩
              refine fx_190_96 ?_
              rw [hD.1 5 (by decide), z_le (by decide) (by omega)]
              exact ⟨fun z => s_spot _ ⟨fun y => absurd rfl y, fun y => by omega⟩, fun z => s_spot _ ⟨fun _ => by omega, fun _ => n10⟩⟩
          refine fx_190_64 ?_
          rw [hD.1 4 (by decide), z_le (by decide) (by omega)]
          exact ⟨fun z => s_place _ ⟨fun y => absurd rfl y, fun y => by omega⟩, fun z => s_place _ ⟨fun _ => by omega, fun _ => n10⟩⟩
      refine fx_190_31 ?_
      rw [hD.1 3 (by decide), z_le (by decide) (by omega)]
      exact ⟨fun z => s_candle _ ⟨fun y => absurd rfl y, fun y => by omega⟩, fun z => s_candle _ ⟨fun _ => by omega, fun _ => n10⟩⟩
  refine fx_190 ?_
  rw [hD.1 0 (by decide), z_eq (by omega) (by decide)]
  exact ⟨fun z => s_cake _ ⟨fun y => absurd rfl y, fun y => absurd y z⟩, fun z => s_cake _ ⟨fun _ => z, fun _ => n10⟩⟩
end RI
