/-! reading: the model's lines -/
/-- a line is over -/
def mEn (b : Nat → Nat) (N : Nat) (R : zE) (I : mmI) : Prop := (∃ a D nc, R = .ok (a, D, nc) ∧ mT b N a I ∧ mDr b D nc I) ∨ mFl R I
theorem mDr.up {b D nc : Nat → Nat} {I : mmI} {k v : Nat} (h : mDr b D nc I) (hk : k < 72) : mDr b (up1 D k v) nc (mm_up I 50 k (nI v)) := by
  refine ⟨fun j hj => ?_, h.2.of (fun j hj => up_k (by omega))⟩
  by_cases e : j = k
  · subst e; rw [up_s, up1_s]
  · rw [up_k e, up1_n e]; exact h.1 j hj
theorem mDr.fr {b D nc : Nat → Nat} {I I' : mmI} {L : List (Nat × List Nat)} (h : mDr b D nc I) (hf : fr L I I') (h1 : noR 50 51 L = true) : mDr b D nc I' := ⟨fun k hk => by rw [hf 50 k (inS_no h1 (by decide) (by decide))]; exact h.1 k hk, h.2.fr hf h1⟩
theorem mT.up50 {b : Nat → Nat} {N a k : Nat} {I : mmI} {x : Int32} (h : mT b N a I) : mT b N a (mm_up I 50 k x) := h.fr (L := [(50, [])]) (fr.rf.up rfl) ⟨rfl, rfl, rfl, rfl, rfl, rfl, rfl, rfl⟩ rfl
theorem mFl.up50 {R : zE} {k : Nat} {I : mmI} {x : Int32} (h : mFl R I) : mFl R (mm_up I 50 k x) := h.fr (L := [(50, [])]) (fr.rf.up rfl) ⟨rfl, rfl, rfl⟩
theorem mAt.up50 {b : Nat → Nat} {N a k : Nat} {R X : zE} {I : mmI} {x : Int32} (h : mAt b N R I a X) : mAt b N R (mm_up I 50 k x) a X := by
  rcases h with ⟨h, e⟩ | h
  · exact .inl ⟨h.up50, e⟩
  · exact .inr h.up50
section RH
variable {d n1 n2 : Nat} {fl : Nat → Bool} {p q : Bool} {ad : Nat → Nat} {I : mmI} {J : mmJ} {Q : mmQ} {b nc D : Nat → Nat} {N a : Nat} {R : zE}
theorem ct_191 (h : mT b N a I) (hD : mDr b D nc I) (e : cakeF b N a D nc = R) (c : ∀ I', fr nmS I I' → mEn b N R I' → Q none ((fl, n1, n2, p, q, ad), I', J)) : mm_wc (d + 6) 191 [.ref 46] ((fl, n1, n2, p, q, ad), I, J) Q := by
  unfold cakeF at e
  refine fx_191 ⟨fun _ => ct_185_near (by decide) (by decide) (.inl ⟨h, e⟩) (fun I1 v hv f1 h1 => ⟨_, _, _, rfl, rfl, ?_⟩), fun z => absurd h.2.2.1 z⟩
  have D1 := (hD.fr f1 rfl).up (k := 1) (v := v) (by decide)
  have F1 : fr nmS I (mm_up I1 50 1 (nI v)) := (f1.sub rfl).up rfl
  refine ct_185_wax (by decide) (by decide) h1.up50 (fun I2 w hw f2 h2 => ⟨_, _, _, rfl, rfl, ?_⟩)
  have D2 := ((D1.fr f2 rfl).up (k := 2) (v := w) (by decide)).up (k := 0) (v := 1) (by decide)
  have F2 := F1.tr (f2.sub rfl)
  rcases h2 with ⟨h2, e2⟩ | h2
  · exact ⟨fun z => absurd h2.2.2.1 z, fun _ => c _ ((F2.up rfl).up rfl) (.inl ⟨_, _, _, e2.symm, h2.up50.up50, D2⟩)⟩
  · exact ⟨fun _ => c _ (F2.up rfl) (.inr h2.up50), fun z => absurd z h2.n13⟩
theorem ct_192 {ix iy : Nat} {k : Nat → Nat → Nat → zE} (hx : ix < 72) (hy : iy < 72) (h : mAt b N R I a (xyF b N a k)) (c : ∀ I' x y a', fr nmS I I' → (∀ D nc, mDr b D nc I → mDr b (up1 (up1 D ix x) iy y) nc I') → mAt b N R I' a' (k x y a') → Q none ((fl, n1, n2, p, q, ad), I', J)) : mm_wc (d + 6) 192 [.ref 46, .int (nI ix), .int (nI iy)] ((fl, n1, n2, p, q, ad), I, J) Q := by
  unfold xyF at h
  refine fx_192 (ct_185_at (by decide) (by decide) h (fun I1 x _ f1 h1 => ⟨_, _, _, rfl, rfl, ?_⟩))
  rw [z_ix (by omega), z_ix (by omega)]
  refine ⟨z_in (by omega) (by decide), ct_187 h1.up50 (fun I2 f2 h2 => ⟨_, _, rfl, rfl, ct_184 (by decide) (by decide) h2 (fun I3 y _ f3 h3 => ⟨_, _, _, rfl, rfl, z_in (by omega) (by decide), ?_⟩)⟩)⟩
  exact c _ x y _ ((((f1.sub rfl).up rfl).tr (f2.sub rfl)).tr (f3.sub rfl) |>.up rfl) (fun D nc hD => ((((hD.fr f1 rfl).up hx).fr f2 rfl).fr f3 rfl).up hy) h3.up50
theorem ct_194 (h : mT b N a I) (hD : mDr b D nc I) (ho : D 4 < 5) (e : placF b N a D nc = R) (c : ∀ I', fr nmS I I' → mEn b N R I' → Q none ((fl, n1, n2, p, q, ad), I', J)) : mm_wc (d + 7) 194 [.ref 46] ((fl, n1, n2, p, q, ad), I, J) Q := by
  unfold placF at e
  refine fx_194 ⟨fun _ => ?_, fun z => absurd h.2.2.1 z⟩
  rw [hD.1 4 (by decide), z_add, z_add, z_add]
  refine ct_183 (by omega) h hD.2 e (fun I1 nc1 f1 r1 h1 => ⟨_, _, rfl, rfl, ?_⟩)
  rcases h1 with ⟨h1, e1, N1⟩ | h1
  · have D1 : mDr b D nc1 I1 := ⟨fun k hk => by rw [r1 k hk]; exact hD.1 k hk, N1⟩
    refine ⟨fun _ => ct_192 (by omega) (by omega) (.inl ⟨h1, e1⟩) (fun I2 x y a2 f2 g2 h2 => ⟨_, _, rfl, rfl, ?_⟩), fun z => absurd h1.2.2.1 z⟩
    have D2 := g2 D nc1 D1
    rcases h2 with ⟨h2, e2⟩ | h2
    · refine ⟨fun z => absurd h2.2.2.1 z, fun _ => c _ ((f1.tr f2).up rfl) (.inl ⟨_, _, _, e2.symm, h2.up50, ?_⟩)⟩
      have e4 : I2 50 4 = nI (D 4) := by rw [D2.1 4 (by decide), up1_n (by omega), up1_n (by omega)]
      rw [e4, z_add]
      exact D2.up (by decide)
    · exact ⟨fun _ => c _ (f1.tr f2) (.inr h2), fun z => absurd z h2.n13⟩
  · exact ⟨fun z => absurd z h1.n13, fun _ => c _ f1 (.inr h1)⟩
theorem ct_195 (h : mT b N a I) (hD : mDr b D nc I) (ho : D 5 < 4) (e : spotF b N a D nc = R) (c : ∀ I', fr nmS I I' → mEn b N R I' → Q none ((fl, n1, n2, p, q, ad), I', J)) : mm_wc (d + 7) 195 [.ref 46] ((fl, n1, n2, p, q, ad), I, J) Q := by
  unfold spotF at e
  refine fx_195 ⟨fun _ => ?_, fun z => absurd h.2.2.1 z⟩
  rw [hD.1 5 (by decide), z_add, z_add, z_add]
  refine ct_183 (by omega) h hD.2 e (fun I1 nc1 f1 r1 h1 => ⟨_, _, rfl, rfl, ?_⟩)
  rcases h1 with ⟨h1, e1, N1⟩ | h1
  · have D1 : mDr b D nc1 I1 := ⟨fun k hk => by rw [r1 k hk]; exact hD.1 k hk, N1⟩
    refine ⟨fun _ => ct_192 (by omega) (by omega) (.inl ⟨h1, e1⟩) (fun I2 x y a2 f2 g2 h2 => ⟨_, _, rfl, rfl, ?_⟩), fun z => absurd h1.2.2.1 z⟩
    have D2 := g2 D nc1 D1
    rcases h2 with ⟨h2, e2⟩ | h2
    · refine ⟨fun z => absurd h2.2.2.1 z, fun _ => c _ ((f1.tr f2).up rfl) (.inl ⟨_, _, _, e2.symm, h2.up50, ?_⟩)⟩
      have e4 : I2 50 5 = nI (D 5) := by rw [D2.1 5 (by decide), up1_n (by omega), up1_n (by omega)]
      rw [e4, z_add]
      exact D2.up (by decide)
    · exact ⟨fun _ => c _ (f1.tr f2) (.inr h2), fun z => absurd z h2.n13⟩
  · exact ⟨fun z => absurd z h1.n13, fun _ => c _ f1 (.inr h1)⟩
theorem ct_196 (h : mT b N a I) (hD : mDr b D nc I) (ho : D 6 < 4) (e : persF b N a D nc = R) (c : ∀ I', fr nmS I I' → mEn b N R I' → Q none ((fl, n1, n2, p, q, ad), I', J)) : mm_wc (d + 7) 196 [.ref 46] ((fl, n1, n2, p, q, ad), I, J) Q := by
  unfold persF at e
  refine fx_196 ⟨fun _ => ?_, fun z => absurd h.2.2.1 z⟩
  rw [hD.1 6 (by decide), z_add, z_add, z_add, z_ix (by omega), z_ix (by omega)]
  refine ct_183 (by omega) h hD.2 e (fun I1 nc1 f1 r1 h1 => ⟨_, _, rfl, rfl, ?_⟩)
  rcases h1 with ⟨h1, e1, N1⟩ | h1
  · have D1 : mDr b D nc1 I1 := ⟨fun k hk => by rw [r1 k hk]; exact hD.1 k hk, N1⟩
    refine ⟨fun _ => ct_185_reach (by decide) (by decide) (.inl ⟨h1, e1⟩) (fun I2 v hv f2 h2 => ⟨_, _, _, rfl, rfl, z_in (by omega) (by decide), ?_⟩), fun z => absurd h1.2.2.1 z⟩
    have D2 := (D1.fr f2 rfl).up (k := 64 + D 6) (v := v) (by omega)
    have F2 : fr nmS I (mm_up I2 50 (64 + D 6) (nI v)) := (f1.tr (f2.sub rfl)).up rfl
    refine ct_185_spread (by decide) (by decide) h2.up50 (fun I3 w hw f3 h3 => ⟨_, _, _, rfl, rfl, z_in (by omega) (by decide), ?_⟩)
    have D3 := (D2.fr f3 rfl).up (k := 68 + D 6) (v := w) (by omega)
    have F3 := (F2.tr (f3.sub rfl)).up (r := 50) (k := 68 + D 6) (x := nI w) rfl
    rcases h3 with ⟨h3, e3⟩ | h3
    · refine ⟨fun z => absurd h3.2.2.1 z, fun _ => c _ (F3.up rfl) (.inl ⟨_, _, _, e3.symm, h3.up50.up50, ?_⟩)⟩
      have e6 : mm_up I3 50 (68 + D 6) (nI w) 50 6 = nI (D 6) := by rw [D3.1 6 (by decide), up1_n (by omega), up1_n (by omega)]
      rw [e6, z_add]
      exact D3.up (by decide)
    · exact ⟨fun _ => c _ F3 (.inr h3.up50), fun z => absurd z h3.n13⟩
  · exact ⟨fun z => absurd z h1.n13, fun _ => c _ f1 (.inr h1)⟩
theorem ct_197 (h : mT b N a I) (hD : mDr b D nc I) (e : shakF b N a D nc = R) (c : ∀ I', fr nmS I I' → mEn b N R I' → Q none ((fl, n1, n2, p, q, ad), I', J)) : mm_wc (d + 6) 197 [.ref 46] ((fl, n1, n2, p, q, ad), I, J) Q := by
  unfold shakF at e
  refine fx_197 ⟨fun _ => ct_184 (by decide) (by decide) (.inl ⟨h, e⟩) (fun I1 x hx f1 h1 => ⟨_, _, _, rfl, rfl, ?_⟩), fun z => absurd h.2.2.1 z⟩
  have D1 := (hD.fr f1 rfl).up (k := 10) (v := x) (by decide)
  have F1 : fr nmS I (mm_up I1 50 10 (nI x)) := (f1.sub rfl).up rfl
  refine ct_187 h1.up50 (fun I2 f2 h2 => ⟨_, _, rfl, rfl, ct_184 (by decide) (by decide) h2 (fun I3 y hy f3 h3 => ⟨_, _, _, rfl, rfl, ?_⟩)⟩)
  have D3 := ((D1.fr f2 rfl).fr f3 rfl).up (k := 11) (v := y) (by decide)
  have F3 : fr nmS I (mm_up I3 50 11 (nI y)) := ((F1.tr (f2.sub rfl)).tr (f3.sub rfl)).up rfl
  refine ct_187 h3.up50 (fun I4 f4 h4 => ⟨_, _, rfl, rfl, ?_⟩)
  have D4 := D3.fr f4 rfl
  have F4 := F3.tr (f4.sub rfl)
  have e10 : I4 50 10 = nI x := by rw [D4.1 10 (by decide), up1_n (by decide), up1_s]
  have e11 : I4 50 11 = nI y := by rw [D4.1 11 (by decide), up1_s]
  rw [e10, e11, z_add, z_eq (by omega) (by decide)]
  have fin : ∀ I5 z, fr wS I4 I5 → mAt b N R I5 (nx b N (nx b N (nx b N (nx b N (nx b N a))))) (.ok (nx b N (nx b N (nx b N (nx b N (nx b N a)))), up1 (up1 (up1 (up1 D 10 x) 11 y) 12 z) 7 1, nc)) → (¬ I5 46 13 = nI 0 → Q none ((fl, n1, n2, p, q, ad), mm_up I5 50 12 (nI z), J)) ∧ (I5 46 13 = nI 0 → Q none ((fl, n1, n2, p, q, ad), mm_up (mm_up I5 50 12 (nI z)) 50 7 (nI 1), J)) := fun I5 z f5 h5 => by
    have D5 := ((D4.fr f5 rfl).up (k := 12) (v := z) (by decide)).up (k := 7) (v := 1) (by decide)
    have F5 := F4.tr (f5.sub rfl)
    rcases h5 with ⟨h5, e5⟩ | h5
    · exact ⟨fun z => absurd h5.2.2.1 z, fun _ => c _ ((F5.up rfl).up rfl) (.inl ⟨_, _, _, e5.symm, h5.up50.up50, D5⟩)⟩
    · exact ⟨fun _ => c _ (F5.up rfl) (.inr h5.up50), fun z => absurd z h5.n13⟩
  refine ⟨fun ne => ?_, fun eq => ?_⟩
  · rw [if_neg ne] at h4
    exact ct_184 (by decide) (by decide) h4 (fun I5 z hz f5 h5 => ⟨_, _, _, rfl, rfl, fin I5 z f5 h5⟩)
  · rw [if_pos eq] at h4
    exact ct_184 (by decide) (by decide) h4 (fun I5 z hz f5 h5 => ⟨_, _, _, rfl, rfl, fin I5 z f5 h5⟩)
/-- the kind in hand -/
theorem kd4_v {x : Nat} : (wd b N 11 a → x = 0) → (¬ wd b N 11 a → wd b N 12 a → x = 1) → (¬ wd b N 11 a → ¬ wd b N 12 a → wd b N 13 a → x = 2) → (¬ wd b N 11 a → ¬ wd b N 12 a → ¬ wd b N 13 a → wd b N 14 a → x = 3) → (¬ wd b N 11 a → ¬ wd b N 12 a → ¬ wd b N 13 a → ¬ wd b N 14 a → x = 4) → kd4 b N a = x := by
  intro h1 h2 h3 h4 h5
  unfold kd4
  split
  · rename_i z; exact (h1 z).symm
  · rename_i z1
    split
    · rename_i z; exact (h2 z1 z).symm
    · rename_i z2
      split
      · rename_i z; exact (h3 z1 z2 z).symm
      · rename_i z3
        split
        · rename_i z; exact (h4 z1 z2 z3 z).symm
        · rename_i z4; exact (h5 z1 z2 z3 z4).symm
theorem ct_193 (h : mT b N a I) (hD : mDr b D nc I) (ho : okD D nc) (h3 : D 3 < 10) (e : candF b N a D nc = R) (c : ∀ I', fr nmS I I' → mEn b N R I' → Q none ((fl, n1, n2, p, q, ad), I', J)) : mm_wc (d + 7) 193 [.ref 46] ((fl, n1, n2, p, q, ad), I, J) Q := by
  have hT3 : nTr D ≤ 3 := ho.2.2.2.2.2.2.2.2.2.2.2.2.2.2.2.2.1
  have hxy := ho.2.2.2.2.2.2.2.2.2.2.2.2.2.2.1
  unfold candF at e
  refine fx_193k ⟨fun _ => ?_, fun z => absurd h.2.2.1 z⟩
  rw [hD.1 3 (by decide), z_add, z_add]
  refine ct_183 (by omega) h hD.2 e (fun I1 nc1 f1 r1 h1 => ⟨_, _, rfl, rfl, ?_⟩)
  rcases h1 with ⟨h1, e1, N1⟩ | h1
  · have D1 : mDr b D nc1 I1 := ⟨fun k hk => by rw [r1 k hk]; exact hD.1 k hk, N1⟩
    refine ⟨fun _ => ct_192 (by omega) (by omega) (.inl ⟨h1, e1⟩) (fun I2 x y a2 f2 g2 h2 => ⟨_, _, rfl, rfl, ?_⟩), fun z => absurd h1.2.2.1 z⟩
    have D2 := g2 D nc1 D1
    have F2 := f1.tr f2
    rcases h2 with ⟨h2, e2⟩ | h2
    · refine ⟨fun _ => ?_, fun z => absurd h2.2.2.1 z⟩
      -- the tricks before, then the end
      have lp : ∀ (s0 : Int32) I3, fr nmS I I3 → mDr b (up1 (up1 D (13 + D 3) x) (24 + D 3) y) nc1 I3 → (∀ I4, fr wS I3 I4 → I3 = I4 ∨ s0 = nI 3 → (s0 = nI 3 → nTr D = 3 → mFl R I4) → (¬ (s0 = nI 3 ∧ nTr D = 3) → I3 = I4) → mm_w Q (mm_wc (d + 6)) bk_193 175 [some (.ref 46), some (.int (nI (D 3))), some (.int s0), none, none] [] ((fl, n1, n2, p, q, ad), I4, J)) → (s0 = nI 3 → nTr D = 3 → (mT b N a2 I3 ∧ R = .error (5, a2)) ∨ mFl R I3) → mm_w Q (mm_wc (d + 6)) bk_193 117 [some (.ref 46), some (.int (nI (D 3))), some (.int s0), none, none] [] ((fl, n1, n2, p, q, ad), I3, J) := by
        intro s0 I3 F3 D3 nxt bad
        have lp2 : ∀ r j, r + j = D 3 → mm_w Q (mm_wc (d + 6)) bk_193 122 [some (.ref 46), some (.int (nI (D 3))), some (.int s0), some (.int (nI (popc (ofK D 3) j))), some (.int (nI j))] [] ((fl, n1, n2, p, q, ad), I3, J) := by
          intro r
          induction r with
          | zero =>
            intro j hj
            have : j = D 3 := by omega
            subst this
            refine fx_193k_122 ?_
            have hT : popc (ofK D 3) (D 3) = nTr D := rfl
            rw [z_le (by omega) (by omega), hT, z_eq (a := nTr D) (by omega) (by decide)]
            refine ⟨fun _ => ⟨fun ne => nxt I3 fr.rf (.inl rfl) (fun z => absurd z ne) (fun _ => rfl), fun eq => ⟨fun ne => nxt I3 fr.rf (.inl rfl) (fun _ z => absurd z ne) (fun _ => rfl), fun e3 => ?_⟩⟩, fun z => absurd (Nat.le_refl _) z⟩
            rcases bad eq e3 with ⟨b1, b2⟩ | b1
            · exact ct_177 b1 (by decide) (by decide) (fun I4 f4 h4 => ⟨_, _, rfl, rfl, nxt I4 f4 (.inr eq) (fun _ _ => by rw [b2]; exact h4) (fun z => absurd ⟨eq, e3⟩ z)⟩)
            · exact ct_177f b1 ⟨_, _, rfl, rfl, nxt I3 fr.rf (.inl rfl) (fun _ _ => b1) (fun _ => rfl)⟩
          | succ r ih =>
            intro j hj
            have hk := hxy (35 + j) (by omega) (by omega)
            have hpl := popc_le (ofK D 3) j
            have nxj := ih (j + 1) (by omega)
            rw [popc_succ, ofK_tb (k := 3) (c := j) (by omega)] at nxj
            refine fx_193k_122 ?_
            have ek : I3 50 (35 + j) = nI (D (35 + j)) := by rw [D3.1 (35 + j) (by omega), up1_n (by omega), up1_n (by omega)]
            rw [z_le (by omega) (by omega), z_add, z_ix (by omega), ek, z_eq (a := D (35 + j)) (by omega) (by decide)]
            refine ⟨fun z => by omega, fun _ => ⟨z_in (by omega) (by decide), fun ne => fx_193k_148 ?_, fun eq => fx_193k_148 ?_⟩⟩
            · rw [z_add, z_add]
              rw [show (D (35 + j) == 3) = false by simpa using ne] at nxj
              exact nxj
            · rw [z_add, z_add]
              rw [show (D (35 + j) == 3) = true by simpa using eq] at nxj
              exact nxj
        exact fx_193k_117 (lp2 (D 3) 0 (by omega))
      have go : ∀ kd, kd4 b N a2 = kd → kd < 4 → mm_w Q (mm_wc (d + 6)) bk_193 103 [some (.ref 46), some (.int (nI (D 3))), none, none, none] [.int (nI kd)] ((fl, n1, n2, p, q, ad), I2, J) := fun kd hkd hl => by
        rw [if_neg (by omega)] at e2
        refine fx_193k_103 ?_
        rw [z_le (by decide) (by omega)]
        refine ⟨fun _ => lp _ I2 F2 D2 (fun I4 f4 ho4 bad4 ok4 => fx_193k_175 ?_) (fun q1 q2 => .inl ⟨h2, ?_⟩), fun z => absurd (Nat.zero_le _) z⟩
        · by_cases hb : nI kd = nI 3 ∧ nTr D = 3
          · have := bad4 hb.1 hb.2
            exact ⟨fun z => absurd z this.n13, fun _ => c _ (F2.tr (f4.sub rfl)) (.inr this)⟩
          · have e4 := ok4 hb
            subst e4
            rw [z_add, z_ix (by omega)]
            refine ⟨fun _ => ct_176n h2 (fun I5 f5 h5 => ⟨_, _, rfl, rfl, z_in (by omega) (by decide), ?_⟩), fun z => absurd h2.2.2.1 z⟩
            have D5 := (D2.fr f5 rfl).up (k := 35 + D 3) (v := kd) (by omega)
            have e3' : mm_up I5 50 (35 + D 3) (nI kd) 50 3 = nI (D 3) := by rw [D5.1 3 (by decide), up1_n (by omega), up1_n (by omega), up1_n (by omega)]
            rw [e3', z_add]
            rw [if_neg (by rw [hkd]; rintro ⟨q1, q2⟩; exact hb ⟨by rw [q1], by omega⟩), hkd] at e2
            exact c _ (((F2.tr (f5.sub rfl)).up rfl).up rfl) (.inl ⟨_, _, _, e2.symm, h5.up50.up50, D5.up (by decide)⟩)
        · rw [z_eq (by omega) (by decide)] at q1
          rw [if_pos (by rw [hkd]; omega)] at e2
          exact e2.symm
      refine ct_178_plain h2 (fun w1 => ⟨_, _, _, rfl, rfl, fun z => absurd z n10, fun _ => go 0 (kd4_v (fun _ => rfl) (fun z => absurd w1 z) (fun z => absurd w1 z) (fun z => absurd w1 z) (fun z => absurd w1 z)) (by decide)⟩) (fun w1 => ⟨_, _, _, rfl, rfl, fun _ => ?_, fun z => absurd rfl z⟩)
      refine ct_178_tall h2 (fun w2 => ⟨_, _, _, rfl, rfl, fun z => absurd z n10, fun _ => go 1 (kd4_v (fun z => absurd z w1) (fun _ _ => rfl) (fun _ z => absurd w2 z) (fun _ z => absurd w2 z) (fun _ z => absurd w2 z)) (by decide)⟩) (fun w2 => ⟨_, _, _, rfl, rfl, fun _ => ?_, fun z => absurd rfl z⟩)
      refine ct_178_again h2 (fun w3 => ⟨_, _, _, rfl, rfl, fun z => absurd z n10, fun _ => go 2 (kd4_v (fun z => absurd z w1) (fun _ z => absurd z w2) (fun _ _ _ => rfl) (fun _ _ z => absurd w3 z) (fun _ _ z => absurd w3 z)) (by decide)⟩) (fun w3 => ⟨_, _, _, rfl, rfl, fun _ => ?_, fun z => absurd rfl z⟩)
      refine ct_178_trick h2 (fun w4 => ⟨_, _, _, rfl, rfl, fun z => absurd z n10, fun _ => go 3 (kd4_v (fun z => absurd z w1) (fun _ z => absurd z w2) (fun _ _ z => absurd z w3) (fun _ _ _ _ => rfl) (fun _ _ _ z => absurd w4 z)) (by decide)⟩) (fun w4 => ⟨_, _, _, rfl, rfl, fun _ => fx_193k_103 ⟨fun z => absurd z (by decide), fun _ => ?_⟩, fun z => absurd rfl z⟩)
      have hkd : kd4 b N a2 = 4 := kd4_v (fun z => absurd z w1) (fun _ z => absurd z w2) (fun _ _ z => absurd z w3) (fun _ _ _ z => absurd z w4) (fun _ _ _ _ => rfl)
      rw [if_pos hkd] at e2
      refine ct_177 h2 (by decide) (by decide) (fun I3 f3 h3 => ⟨_, _, rfl, rfl, ?_⟩)
      rw [e2] at h3
      refine lp _ I3 (F2.tr (f3.sub rfl)) (D2.fr f3 rfl) (fun I4 f4 ho4 bad4 ok4 => fx_193k_175 ?_) (fun q1 _ => absurd q1 (by decide))
      have e4 := ok4 (fun z => absurd z.1 (by decide))
      subst e4
      exact ⟨fun z => absurd z h3.n13, fun _ => c _ (F2.tr (f3.sub rfl)) (.inr h3)⟩
    · exact ⟨fun z => absurd z h2.n13, fun _ => c _ F2 (.inr h2)⟩
  · exact ⟨fun z => absurd z h1.n13, fun _ => c _ f1 (.inr h1)⟩
end RH
