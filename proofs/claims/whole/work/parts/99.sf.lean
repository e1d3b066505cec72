/-! reading: the class's lines (4) -/
section SF
variable {d n1 n2 : Nat} {fl : Nat → Bool} {p q : Bool} {ad : Nat → Nat} {I : mmI} {J : mmJ} {Q : mmQ} {b nc D : Nat → Nat} {N a : Nat} {R : zE}
theorem ct_63pl (h : cTk b N a I J) (hD : cDr q D nc I J) (ho : okD D nc) (e : (if D 4 < 5 then placF b N (nx b N a) D nc else .error (5, a)) = R) (k1 : ∀ I' J', frD q I I' → cEn b N q R I' J' → Q (some (.int (nI 1))) ((fl, n1, n2, p, q, ad), I', J')) (k0 : ∀ I' J', frD q I I' → cFl R I' → Q (some (.int (nI 0))) ((fl, n1, n2, p, q, ad), I', J')) : mm_wc (d + 5) 63 [.ref 1, .ref (mm_ck q 5), .int (nI 1)] ((fl, n1, n2, p, q, ad), I, J) Q := by
  have b3 : D 3 ≤ 10 := ho.2.2.2.2.1
  have b4 : D 4 ≤ 5 := ho.2.2.2.2.2.1
  have b5 : D 5 ≤ 4 := ho.2.2.2.2.2.2.1
  have b6 : D 6 ≤ 4 := ho.2.2.2.2.2.2.2.1
  unfold placF at e
  refine ct_63p (k := fun a1 nc1 x y a2 => .ok (a2, up1 (up1 (up1 D (46 + D 4) x) (51 + D 4) y) 4 (D 4 + 1), nc1)) h hD ho e (fun I7 J7 a1 v w a' sl' dc F7 h7 n7 gv gw gc g e7 => k1 I7 J7 F7 ⟨_, _, _, e7.symm, h7, ?_, sl', ?_⟩) k0
  · obtain ⟨m, a3, a4, a5, a6, a7, a8, a10, a11, r2, r3, r4, r6, r7, r9, r10, r11, r12, sh⟩ := hD.1
    have u : ∀ k, k ≠ 46 + D 4 → k ≠ 51 + D 4 → k ≠ 4 → up1 (up1 (up1 D (46 + D 4) v) (51 + D 4) w) 4 (D 4 + 1) k = D k := fun k h1 h2 h3 => by rw [up1_n h3, up1_n h2, up1_n h1]
    have uc : up1 (up1 (up1 D (46 + D 4) v) (51 + D 4) w) 4 (D 4 + 1) 4 = D 4 + 1 := up1_s _ _ _
    have uw : up1 (up1 (up1 D (46 + D 4) v) (51 + D 4) w) 4 (D 4 + 1) (51 + D 4) = w := by rw [up1_n (by omega), up1_s]
    have uv : up1 (up1 (up1 D (46 + D 4) v) (51 + D 4) w) 4 (D 4 + 1) (46 + D 4) = v := by rw [up1_n (by omega), up1_n (by omega), up1_s]
    generalize up1 (up1 (up1 D (46 + D 4) v) (51 + D 4) w) 4 (D 4 + 1) = E at *
    have u0 := u 0 (by omega) (by omega) (by omega)
    have u1 := u 1 (by omega) (by omega) (by omega)
    have u2 := u 2 (by omega) (by omega) (by omega)
    have u3 := u 3 (by omega) (by omega) (by omega)
    have u5 := u 5 (by omega) (by omega) (by omega)
    have u6 := u 6 (by omega) (by omega) (by omega)
    have u7 := u 7 (by omega) (by omega) (by omega)
    have u8 := u 8 (by omega) (by omega) (by omega)
    have u9 := u 9 (by omega) (by omega) (by omega)
    exact ⟨by rw [g 1 0 (by decide) (by omega) (by omega) (by omega), g 5 0 (by decide) (by omega) (by omega) (by omega), g 8 0 (by decide) (by omega) (by omega) (by omega)]; exact m, by rw [g 1 3 (by decide) (by omega) (by omega) (by omega), u3]; exact a3, by rw [gc, uc], by rw [g 8 3 (by decide) (by omega) (by omega) (by omega), u5]; exact a5, by rw [g 0 6 (by decide) (by omega) (by omega) (by omega), u6]; exact a6, by rw [g 0 7 (by decide) (by omega) (by omega) (by omega), u0, u1]; exact a7, by rw [g 0 8 (by decide) (by omega) (by omega) (by omega), u2]; exact a8, by rw [g 0 10 (by decide) (by omega) (by omega) (by omega), u7]; exact a10, by rw [g 0 11 (by decide) (by omega) (by omega) (by omega), u8, u9]; exact a11, fun c hc => by rw [u3] at hc; rw [g 2 c (by decide) (by omega) (by omega) (by omega), u _ (by omega) (by omega) (by omega)]; exact r2 c hc, fun c hc => by rw [u3] at hc; rw [g 3 c (by decide) (by omega) (by omega) (by omega), u _ (by omega) (by omega) (by omega)]; exact r3 c hc, fun c hc => by rw [u3] at hc; rw [g 4 c (by decide) (by omega) (by omega) (by omega), u _ (by omega) (by omega) (by omega)]; exact r4 c hc, fun c hc => by
        rw [uc] at hc
        by_cases ec : c = D 4
        · rw [ec, gv, uv]
        · rw [g 6 c (by decide) (by omega) (by omega) (by omega), u _ (by omega) (by omega) (by omega)]; exact r6 c (by omega), fun c hc => by
        rw [uc] at hc
        by_cases ec : c = D 4
        · rw [ec, gw, uw]
        · rw [g 7 c (by decide) (by omega) (by omega) (by omega), u _ (by omega) (by omega) (by omega)]; exact r7 c (by omega), fun c hc => by rw [u5] at hc; rw [g 9 c (by decide) (by omega) (by omega) (by omega), u _ (by omega) (by omega) (by omega)]; exact r9 c hc, fun c hc => by rw [u5] at hc; rw [g 10 c (by decide) (by omega) (by omega) (by omega), u _ (by omega) (by omega) (by omega)]; exact r10 c hc, fun c hc => by rw [u6] at hc; rw [g 11 c (by decide) (by omega) (by omega) (by omega), u _ (by omega) (by omega) (by omega)]; exact r11 c hc, fun c hc => by rw [u6] at hc; rw [g 12 c (by decide) (by omega) (by omega) (by omega), u _ (by omega) (by omega) (by omega)]; exact r12 c hc, fun k hk => by rw [g 13 k (by decide) (by omega) (by omega) (by omega), u7, u _ (by omega) (by omega) (by omega)]; exact sh k hk⟩
  · have em : up1 (up1 (up1 D (46 + D 4) v) (51 + D 4) w) 4 (D 4 + 1) 3 + up1 (up1 (up1 D (46 + D 4) v) (51 + D 4) w) 4 (D 4 + 1) 4 + up1 (up1 (up1 D (46 + D 4) v) (51 + D 4) w) 4 (D 4 + 1) 5 + up1 (up1 (up1 D (46 + D 4) v) (51 + D 4) w) 4 (D 4 + 1) 6 = D 3 + D 4 + D 5 + D 6 + 1 := by
      have u : ∀ k, k ≠ 46 + D 4 → k ≠ 51 + D 4 → k ≠ 4 → up1 (up1 (up1 D (46 + D 4) v) (51 + D 4) w) 4 (D 4 + 1) k = D k := fun k h1 h2 h3 => by rw [up1_n h3, up1_n h2, up1_n h1]
      have uc : up1 (up1 (up1 D (46 + D 4) v) (51 + D 4) w) 4 (D 4 + 1) 4 = D 4 + 1 := up1_s _ _ _
      rw [u 3 (by omega) (by omega) (by omega), uc, u 5 (by omega) (by omega) (by omega), u 6 (by omega) (by omega) (by omega)]; omega
    rw [em]; exact n7
theorem ct_63sp (h : cTk b N a I J) (hD : cDr q D nc I J) (ho : okD D nc) (e : (if D 5 < 4 then spotF b N (nx b N a) D nc else .error (5, a)) = R) (k1 : ∀ I' J', frD q I I' → cEn b N q R I' J' → Q (some (.int (nI 1))) ((fl, n1, n2, p, q, ad), I', J')) (k0 : ∀ I' J', frD q I I' → cFl R I' → Q (some (.int (nI 0))) ((fl, n1, n2, p, q, ad), I', J')) : mm_wc (d + 5) 63 [.ref 1, .ref (mm_ck q 8), .int (nI 3)] ((fl, n1, n2, p, q, ad), I, J) Q := by
  have b3 : D 3 ≤ 10 := ho.2.2.2.2.1
  have b4 : D 4 ≤ 5 := ho.2.2.2.2.2.1
  have b5 : D 5 ≤ 4 := ho.2.2.2.2.2.2.1
  have b6 : D 6 ≤ 4 := ho.2.2.2.2.2.2.2.1
  unfold spotF at e
  refine ct_63s (k := fun a1 nc1 x y a2 => .ok (a2, up1 (up1 (up1 D (56 + D 5) x) (60 + D 5) y) 5 (D 5 + 1), nc1)) h hD ho e (fun I7 J7 a1 v w a' sl' dc F7 h7 n7 gv gw gc g e7 => k1 I7 J7 F7 ⟨_, _, _, e7.symm, h7, ?_, sl', ?_⟩) k0
  · obtain ⟨m, a3, a4, a5, a6, a7, a8, a10, a11, r2, r3, r4, r6, r7, r9, r10, r11, r12, sh⟩ := hD.1
    have u : ∀ k, k ≠ 56 + D 5 → k ≠ 60 + D 5 → k ≠ 5 → up1 (up1 (up1 D (56 + D 5) v) (60 + D 5) w) 5 (D 5 + 1) k = D k := fun k h1 h2 h3 => by rw [up1_n h3, up1_n h2, up1_n h1]
    have uc : up1 (up1 (up1 D (56 + D 5) v) (60 + D 5) w) 5 (D 5 + 1) 5 = D 5 + 1 := up1_s _ _ _
    have uw : up1 (up1 (up1 D (56 + D 5) v) (60 + D 5) w) 5 (D 5 + 1) (60 + D 5) = w := by rw [up1_n (by omega), up1_s]
    have uv : up1 (up1 (up1 D (56 + D 5) v) (60 + D 5) w) 5 (D 5 + 1) (56 + D 5) = v := by rw [up1_n (by omega), up1_n (by omega), up1_s]
    generalize up1 (up1 (up1 D (56 + D 5) v) (60 + D 5) w) 5 (D 5 + 1) = E at *
    have u0 := u 0 (by omega) (by omega) (by omega)
    have u1 := u 1 (by omega) (by omega) (by omega)
    have u2 := u 2 (by omega) (by omega) (by omega)
    have u3 := u 3 (by omega) (by omega) (by omega)
    have u4 := u 4 (by omega) (by omega) (by omega)
    have u6 := u 6 (by omega) (by omega) (by omega)
    have u7 := u 7 (by omega) (by omega) (by omega)
    have u8 := u 8 (by omega) (by omega) (by omega)
    have u9 := u 9 (by omega) (by omega) (by omega)
    exact ⟨by rw [g 1 0 (by decide) (by omega) (by omega) (by omega), g 5 0 (by decide) (by omega) (by omega) (by omega), g 8 0 (by decide) (by omega) (by omega) (by omega)]; exact m, by rw [g 1 3 (by decide) (by omega) (by omega) (by omega), u3]; exact a3, by rw [g 5 3 (by decide) (by omega) (by omega) (by omega), u4]; exact a4, by rw [gc, uc], by rw [g 0 6 (by decide) (by omega) (by omega) (by omega), u6]; exact a6, by rw [g 0 7 (by decide) (by omega) (by omega) (by omega), u0, u1]; exact a7, by rw [g 0 8 (by decide) (by omega) (by omega) (by omega), u2]; exact a8, by rw [g 0 10 (by decide) (by omega) (by omega) (by omega), u7]; exact a10, by rw [g 0 11 (by decide) (by omega) (by omega) (by omega), u8, u9]; exact a11, fun c hc => by rw [u3] at hc; rw [g 2 c (by decide) (by omega) (by omega) (by omega), u _ (by omega) (by omega) (by omega)]; exact r2 c hc, fun c hc => by rw [u3] at hc; rw [g 3 c (by decide) (by omega) (by omega) (by omega), u _ (by omega) (by omega) (by omega)]; exact r3 c hc, fun c hc => by rw [u3] at hc; rw [g 4 c (by decide) (by omega) (by omega) (by omega), u _ (by omega) (by omega) (by omega)]; exact r4 c hc, fun c hc => by rw [u4] at hc; rw [g 6 c (by decide) (by omega) (by omega) (by omega), u _ (by omega) (by omega) (by omega)]; exact r6 c hc, fun c hc => by rw [u4] at hc; rw [g 7 c (by decide) (by omega) (by omega) (by omega), u _ (by omega) (by omega) (by omega)]; exact r7 c hc, fun c hc => by
        rw [uc] at hc
        by_cases ec : c = D 5
        · rw [ec, gv, uv]
        · rw [g 9 c (by decide) (by omega) (by omega) (by omega), u _ (by omega) (by omega) (by omega)]; exact r9 c (by omega), fun c hc => by
        rw [uc] at hc
        by_cases ec : c = D 5
        · rw [ec, gw, uw]
        · rw [g 10 c (by decide) (by omega) (by omega) (by omega), u _ (by omega) (by omega) (by omega)]; exact r10 c (by omega), fun c hc => by rw [u6] at hc; rw [g 11 c (by decide) (by omega) (by omega) (by omega), u _ (by omega) (by omega) (by omega)]; exact r11 c hc, fun c hc => by rw [u6] at hc; rw [g 12 c (by decide) (by omega) (by omega) (by omega), u _ (by omega) (by omega) (by omega)]; exact r12 c hc, fun k hk => by rw [g 13 k (by decide) (by omega) (by omega) (by omega), u7, u _ (by omega) (by omega) (by omega)]; exact sh k hk⟩
  · have em : up1 (up1 (up1 D (56 + D 5) v) (60 + D 5) w) 5 (D 5 + 1) 3 + up1 (up1 (up1 D (56 + D 5) v) (60 + D 5) w) 5 (D 5 + 1) 4 + up1 (up1 (up1 D (56 + D 5) v) (60 + D 5) w) 5 (D 5 + 1) 5 + up1 (up1 (up1 D (56 + D 5) v) (60 + D 5) w) 5 (D 5 + 1) 6 = D 3 + D 4 + D 5 + D 6 + 1 := by
      have u : ∀ k, k ≠ 56 + D 5 → k ≠ 60 + D 5 → k ≠ 5 → up1 (up1 (up1 D (56 + D 5) v) (60 + D 5) w) 5 (D 5 + 1) k = D k := fun k h1 h2 h3 => by rw [up1_n h3, up1_n h2, up1_n h1]
      have uc : up1 (up1 (up1 D (56 + D 5) v) (60 + D 5) w) 5 (D 5 + 1) 5 = D 5 + 1 := up1_s _ _ _
      rw [u 3 (by omega) (by omega) (by omega), u 4 (by omega) (by omega) (by omega), uc, u 6 (by omega) (by omega) (by omega)]; omega
    rw [em]; exact n7
/-- how many tricks -/
theorem ct_33 {m : Nat} (hm : m ≤ 9) (h3 : I (mm_ck q 1) 3 = nI (m + 1)) (hk : ∀ c, c < m → I (mm_ck q 4) c = nI (D (35 + c)) ∧ D (35 + c) ≤ 20) (h0 : I (mm_ck q 4) m = nI 0) (hD : D 3 = m) (k : Q (some (.int (nI (nTr D)))) ((fl, n1, n2, p, q, ad), I, J)) : mm_wc (d + 1) 33 [.ref (mm_ck q 0)] ((fl, n1, n2, p, q, ad), I, J) Q := by
  have lp : ∀ r c, r + c = m → mm_w Q (mm_wc d) bk_33 4 [some (.ref (mm_ck q 0)), some (.int (nI (popc (ofK D 3) c))), some (.int (nI c))] [] ((fl, n1, n2, p, q, ad), I, J) := by
    intro r
    induction r with
    | zero =>
      intro c hc
      have : c = m := by omega
      subst this
      refine fx_33_4 ?_
      rw [h3, z_le (by omega) (by omega), z_ix (by omega), h0, z_add]
      refine ⟨fun z => by omega, fun _ => ⟨z_in (by omega) (by decide), fun _ => fx_33_4 ?_, fun z => absurd z (by decide)⟩⟩
      rw [h3, z_le (by omega) (by omega)]
      refine ⟨fun _ => ?_, fun z => absurd (Nat.le_refl _) z⟩
      unfold nTr at k
      rw [hD] at k
      exact k
    | succ r ih =>
      intro c hc
      obtain ⟨e1, e2⟩ := hk c (by omega)
      have nx' := ih (c + 1) (by omega)
      rw [popc_succ, ofK_tb (k := 3) (c := c) (by omega)] at nx'
      refine fx_33_4 ?_
      rw [h3, z_le (by omega) (by omega), z_ix (by omega), e1, z_eq (a := D (35 + c)) (by omega) (by decide)]
      refine ⟨fun z => by omega, fun _ => ⟨z_in (by omega) (by decide), fun ne => ?_, fun eq => ?_⟩⟩
      · rw [z_add]
        rw [show (D (35 + c) == 3) = false by simpa using ne] at nx'
        exact nx'
      · rw [z_add, z_add]
        rw [show (D (35 + c) == 3) = true by simpa using eq] at nx'
        exact nx'
  exact fx_33 (lp m 0 (by omega))
theorem ct_65 (h : cTk b N a I J) (k : ∀ x : Int32, (kd4 b N a = 4 ∧ x = -1) ∨ (kd4 b N a < 4 ∧ x = nI (kd4 b N a)) → Q (some (.int x)) ((fl, n1, n2, p, q, ad), I, J)) : mm_wc (d + 3) 65 [.ref 1] ((fl, n1, n2, p, q, ad), I, J) Q := by
  refine fx_65 (ct_73_plain h (fun w1 => ⟨_, _, _, rfl, rfl, fun z => absurd z n10, fun _ => k _ (.inr ?_)⟩) (fun w1 => ⟨_, _, _, rfl, rfl, fun _ => ?_, fun z => absurd rfl z⟩))
  · rw [show kd4 b N a = 0 from kd4_v (fun _ => rfl) (fun z => absurd w1 z) (fun z => absurd w1 z) (fun z => absurd w1 z) (fun z => absurd w1 z)]; exact ⟨by decide, rfl⟩
  refine ct_73_tall h (fun w2 => ⟨_, _, _, rfl, rfl, fun z => absurd z n10, fun _ => k _ (.inr ?_)⟩) (fun w2 => ⟨_, _, _, rfl, rfl, fun _ => ?_, fun z => absurd rfl z⟩)
  · rw [show kd4 b N a = 1 from kd4_v (fun z => absurd z w1) (fun _ _ => rfl) (fun _ z => absurd w2 z) (fun _ z => absurd w2 z) (fun _ z => absurd w2 z)]; exact ⟨by decide, rfl⟩
  refine ct_73_again h (fun w3 => ⟨_, _, _, rfl, rfl, fun z => absurd z n10, fun _ => k _ (.inr ?_)⟩) (fun w3 => ⟨_, _, _, rfl, rfl, fun _ => ?_, fun z => absurd rfl z⟩)
  · rw [show kd4 b N a = 2 from kd4_v (fun z => absurd z w1) (fun _ z => absurd z w2) (fun _ _ _ => rfl) (fun _ _ z => absurd w3 z) (fun _ _ z => absurd w3 z)]; exact ⟨by decide, rfl⟩
  refine ct_73_trick h (fun w4 => ⟨_, _, _, rfl, rfl, fun z => absurd z n10, fun _ => k _ (.inr ?_)⟩) (fun w4 => ⟨_, _, _, rfl, rfl, fun _ => k _ (.inl ⟨?_, rfl⟩), fun z => absurd rfl z⟩)
  · rw [show kd4 b N a = 3 from kd4_v (fun z => absurd z w1) (fun _ z => absurd z w2) (fun _ _ z => absurd z w3) (fun _ _ _ _ => rfl) (fun _ _ _ z => absurd w4 z)]; exact ⟨by decide, rfl⟩
  · exact kd4_v (fun z => absurd z w1) (fun _ z => absurd z w2) (fun _ _ z => absurd z w3) (fun _ _ _ z => absurd z w4) (fun _ _ _ _ => rfl)
/-- the kind of the candle that was told last -/
theorem ct_64 {m : Nat} {k : zE} (hm : m ≤ 9) (hD3 : D 3 = m) (hT3 : nTr D ≤ 3) (h : cTk b N a I J) (h3 : I (mm_ck q 1) 3 = nI (m + 1)) (hk : ∀ c, c < m → I (mm_ck q 4) c = nI (D (35 + c)) ∧ D (35 + c) ≤ 20) (e : (if kd4 b N a = 4 then .error (1, a) else if kd4 b N a = 3 ∧ 3 ≤ nTr D then .error (5, a) else k) = R) (k1 : ∀ I' J', frD q I I' → J' 3 = J 3 → cTk b N (nx b N a) I' J' → (∀ r i, r = 1 ∨ r = 4 ∨ r = 5 → i = 12 ∨ r ≠ 1 → I' r i = I r i) → I' (mm_ck q 4) m = nI (kd4 b N a) → (∀ j i, j < 14 → ¬ (j = 4 ∧ i = m) → I' (mm_ck q j) i = I (mm_ck q j) i) → k = R → Q (some (.int (nI 1))) ((fl, n1, n2, p, q, ad), I', J')) (k0 : ∀ I' J', frD q I I' → cFl R I' → Q (some (.int (nI 0))) ((fl, n1, n2, p, q, ad), I', J')) : mm_wc (d + 4) 64 [.ref 1] ((fl, n1, n2, p, q, ad), I, J) Q := by
  refine fx_64 (ct_65 h (fun x hx => ⟨_, _, _, rfl, rfl, ?_⟩))
  have kdl := kd4_le (b := b) (N := N) (a := a)
  rcases hx with ⟨e4, rfl⟩ | ⟨l4, rfl⟩
  · rw [if_pos e4] at e
    exact ⟨fun z => absurd rfl z, fun _ => ct_60 h (by decide) (by decide) (fun I' f' h' => ⟨_, _, _, rfl, rfl, .inl rfl, k0 I' J (tkS_D f') (by rw [← e]; exact h')⟩)⟩
  · rw [if_neg (by omega)] at e
    rw [h3, z_sub (by omega), show m + 1 - 1 = m by omega, z_ix (by omega), z_le (by decide) (by omega), z_m1 (by omega), z_eq (a := kd4 b N a) (by omega) (by decide)]
    have F1 : frD q I (mm_up I (mm_ck q 4) m (nI 0)) := frD.rf.up (by omega)
    have fin : ∀ I1, I1 = mm_up (mm_up I (mm_ck q 4) m (nI 0)) (mm_ck q 4) m (nI (kd4 b N a)) → k = R → mm_wc (d + 3) 77 [.ref 1] ((fl, 0, 0, p, q, ad), I1, J) (fun v τ => ∃ I2 J2, v = none ∧ τ = ((fl, 0, 0, p, q, ad), I2, J2) ∧ Q (some (.int (nI 1))) ((fl, n1, n2, p, q, ad), I2, J2)) := by
      intro I1 e1 ek
      refine ct_77n (by rw [e1]; exact h.ck.ck) (fun I2 J2 f2 j2 h2 => ⟨_, _, rfl, rfl, k1 I2 J2 ((show frD q I I1 by rw [e1]; exact F1.up (by omega)).tr (aS_D f2)) j2 h2 ?_ ?_ ?_ ek⟩)
      · intro r i hr hi
        have : I2 r i = I1 r i := by
          rcases hr with rfl | rfl | rfl
          · rcases hi with rfl | z
            · exact f2 1 12 rfl
            · exact absurd rfl z
          · exact f2 4 i rfl
          · exact f2 5 i rfl
        rw [this, e1, up_c (ck_r (by omega)), up_c (ck_r (by omega))]
      · rw [f2.ck rfl q (by decide), e1, up_s]
      · intro j i hj hn
        rw [f2.ck rfl q hj, e1]
        by_cases ej : j = 4
        · subst ej; rw [up_k (by omega), up_k (by omega)]
        · rw [up_c (ck_ne ej), up_c (ck_ne ej)]
    refine ⟨fun _ => ⟨fun _ => ⟨z_in (by omega) (by decide), fun n3 => ⟨z_in (by omega) (by decide), fin _ rfl ?_⟩, fun e3 => ?_⟩, fun z => absurd (Nat.zero_le _) z⟩, False.elim⟩
    · rw [if_neg (fun z => n3 z.1)] at e; exact e
    · refine ct_33 (m := m) hm (by rw [up_c (ck_ne (by decide))]; exact h3) (fun c hc => by rw [up_k (by omega)]; exact hk c hc) (up_s _ _ _ _) hD3 ⟨_, _, _, rfl, rfl, ?_⟩
      rw [z_lt (by omega) (by decide)]
      refine ⟨fun lt => ⟨z_in (by omega) (by decide), fin _ rfl ?_⟩, fun ge => ct_60 h.ck (by decide) (by decide) (fun I' f' h' => ⟨_, _, _, rfl, rfl, .inl rfl, k0 I' J (F1.tr (tkS_D f')) ?_⟩)⟩
      · rw [if_neg (fun z => by omega)] at e; exact e
      · rw [if_pos ⟨e3, by omega⟩] at e; rw [← e]; exact h'
end SF
