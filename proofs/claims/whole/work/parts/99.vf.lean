/-! what stands between two calls -/
def HI (xs : Nat → Int32) (L n l Lm : Nat) (T : zT) (to : Bool) (K : Nat → Nat) (P : zP) (tr : Nat) (f : zF) (T1 : zT) (to1 : Bool) (K1 : Nat → Nat) (P1 : zP) (t1 : Nat) (f1 : zF) (b0 b1 p q : Bool) (n1 n2 : Nat) (I : mmI) : Prop :=
  MI T to K P tr f I ∧ CC T1 to1 K1 P1 t1 f1 p q l I ∧ (b0 = true → SEi to1 K1 l Lm I) ∧ (b1 = true → ODi to1 K1 l I) ∧ (l ≤ n ∧ Lm ≤ 384 * n) ∧ (∀ j, I 68 j = xs j) ∧ I 69 0 = nI L ∧ owe 11 b0 + owe 15 b1 + 3 * (512 - n) ≤ n1 ∧ owe 53657 b0 + owe 35028 b1 + 328 * (512 - n) ≤ n2
section VF
variable {xs : Nat → Int32} {L n l Lm n1 n2 : Nat} {b0 b1 p q : Bool} {I I' : mmI} {T T1 : zT} {to to1 : Bool} {K K1 : Nat → Nat} {P P1 : zP} {tr t1 : Nat} {f f1 : zF}
abbrev moA : List (Nat × List Nat) := (List.range 19).map fun j => (46 + j, [])
theorem frM.mo (h : frM I I') : fr moA I I' := by
  intro r k hk
  refine h r k ?_
  by_cases hc : 46 ≤ r ∧ r < 65
  · have : inS moA r k = true := List.any_eq_true.mpr ⟨(r, []), List.mem_map.mpr ⟨r - 46, List.mem_range.mpr (by omega), by rw [show 46 + (r - 46) = r by omega]⟩, by simp⟩
    rw [this] at hk; cases hk
  · omega
theorem CC.M (h : CC T to K P tr f p q l I) (hf : frM I I') : CC T to K P tr f p q l I' :=
  CC_tr h hf.mo ⟨rfl, rfl, rfl⟩ rfl ⟨rfl, rfl, rfl, rfl, rfl⟩ rfl rfl (by rw [hf 0 7 (by decide)]; exact h.2.2.1) h.1.2.2.2.2.2.2.1 id
theorem SEi.lay (h : SEi to K l Lm I) (hl : l + 1 < 2 ^ 31) (hf : ∀ r k, 46 ≤ r → I' r k = I r k) : SEi to1 K1 (l + 1) Lm I' := by
  obtain ⟨a, b, ⟨l', c1, c2⟩, -⟩ := h.of (Nat.le_refl _) (fun r k h1 _ => hf r k (by omega))
  refine ⟨a, b, ⟨l', c1, by omega⟩, fun _ e => ?_⟩
  rw [c1, z_eq (by omega) (by omega)] at e
  omega
theorem ODi.lay (h : ODi to K l I) (hl : l + 1 < 2 ^ 31) (hf : ∀ r k, 46 ≤ r → I' r k = I r k) : ODi to1 K1 (l + 1) I' := by
  obtain ⟨⟨l', c1, c2⟩, -⟩ := h
  refine ⟨⟨l', by rw [hf 81 1 (by decide)]; exact c1, by omega⟩, fun _ e => ?_⟩
  rw [hf 81 1 (by decide), c1, z_eq (by omega) (by omega)] at e
  omega
theorem HI.scr (h : HI xs L n l Lm T to K P tr f T1 to1 K1 P1 t1 f1 b0 b1 p q n1 n2 I) (j : Nat) : I 68 j = xs j := h.2.2.2.2.2.1 j
theorem HI.cc (h : HI xs L n l Lm T to K P tr f T1 to1 K1 P1 t1 f1 b0 b1 p q n1 n2 I) : CC T1 to1 K1 P1 t1 f1 p q l I := h.2.1
theorem HI.mi (h : HI xs L n l Lm T to K P tr f T1 to1 K1 P1 t1 f1 b0 b1 p q n1 n2 I) : MI T to K P tr f I := h.1
theorem HI.se (h : HI xs L n l Lm T to K P tr f T1 to1 K1 P1 t1 f1 b0 b1 p q n1 n2 I) : b0 = true → SEi to1 K1 l Lm I := h.2.2.1
theorem HI.od (h : HI xs L n l Lm T to K P tr f T1 to1 K1 P1 t1 f1 b0 b1 p q n1 n2 I) : b1 = true → ODi to1 K1 l I := h.2.2.2.1
theorem HI.lb (h : HI xs L n l Lm T to K P tr f T1 to1 K1 P1 t1 f1 b0 b1 p q n1 n2 I) (hn : n < 512) : l < 2 ^ 30 ∧ Lm + 400 < 2 ^ 30 := by
  obtain ⟨h1, h2⟩ := h.2.2.2.2.1
  omega
theorem HI.mod (h : HI xs L n l Lm T to K P tr f T1 to1 K1 P1 t1 f1 b0 b1 p q n1 n2 I) (hf : frM I I') (hm : MI T1 to1 K1 P1 t1 f1 I') : HI xs L n l Lm T1 to1 K1 P1 t1 f1 T1 to1 K1 P1 t1 f1 b0 b1 p q n1 n2 I' := by
  obtain ⟨-, h2, h3, h4, h5, h6, h7, h8, h9⟩ := h
  exact ⟨hm, h2.M hf, fun e => (h3 e).of (Nat.le_refl _) (fun r k g1 g2 => hf r k (by omega)), fun e => (h4 e).of (fun r k g1 g2 => hf r k (by omega)) (fun k => hf 8 k (by decide)), h5, fun j => by rw [hf 68 j (by decide)]; exact h6 j, by rw [hf 69 0 (by decide)]; exact h7, h8, h9⟩
theorem HI.cls (h : HI xs L n l Lm T to K P tr f T to K P tr f b0 b1 p q n1 n2 I) (hn : n < 512) {l' Lm' x y : Nat} {c0 c1 p' q' : Bool} (hf : ∀ r k, 46 ≤ r → r < 70 → I' r k = I r k) (hc : CC T1 to1 K1 P1 t1 f1 p' q' l' I') (h0 : c0 = true → SEi to1 K1 l' Lm' I') (h1 : c1 = true → ODi to1 K1 l' I') (hl : l' ≤ l + 1) (hL : Lm' ≤ Lm + 384) (hx : owe 11 c0 + owe 15 c1 + x ≤ owe 11 b0 + owe 15 b1 + 3) (hy : owe 53657 c0 + owe 35028 c1 + y ≤ owe 53657 b0 + owe 35028 b1 + 328) : HI xs L (n + 1) l' Lm' T to K P tr f T1 to1 K1 P1 t1 f1 c0 c1 p' q' (n1 - x) (n2 - y) I' := by
  obtain ⟨g1, -, -, -, g5, g6, g7, g8, g9⟩ := h
  exact ⟨g1.keep (fun r k u w => hf r k u (by omega)), hc, h0, h1, by omega, fun j => by rw [hf 68 j (by decide) (by decide)]; exact g6 j, by rw [hf 69 0 (by decide) (by decide)]; exact g7, by omega, by omega⟩
theorem HI.kA (h : HI xs L n l Lm T to K P tr f T to K P tr f b0 b1 p q n1 n2 I) (hn : n < 512) {S : List (Nat × List Nat)} (hf : fr S I I') (s1 : noR 46 96 S = true) (s2 : noR 8 9 S = true) (hc : CC T1 to K P1 t1 f p q l I') : HI xs L (n + 1) l Lm T to K P tr f T1 to K P1 t1 f b0 b1 p q (n1 - 0) (n2 - 0) I' :=
  h.cls hn (fun r k u w => hf r k (inS_no s1 u (by omega))) hc (fun e => (h.se e).of (Nat.le_refl _) (fun r k u w => hf r k (inS_no s1 (by omega) (by omega)))) (fun e => (h.od e).of (fun r k u w => hf r k (inS_no s1 (by omega) (by omega))) (fun k => hf 8 k (inS_no s2 (Nat.le_refl _) (by decide)))) (Nat.le_succ _) (Nat.le_add_right _ _) (by omega) (by omega)
theorem HI.kT (h : HI xs L n l Lm T to K P tr f T to K P tr f b0 b1 p q n1 n2 I) (hn : n < 512) {b2 : Bool} (hf : fr tcA I I') (hc : CC T to K P t1 f p q l I') : HI xs L (n + 1) l Lm T to K P tr f T to K P t1 f b0 b1 p q (n1 - owe 2 b2) (n2 - owe 322 b2) I' := by
  have e1 : owe 2 b2 ≤ 2 := by unfold owe; split <;> omega
  have e2 : owe 322 b2 ≤ 322 := by unfold owe; split <;> omega
  exact h.cls hn (fun r k u w => hf r k (inS_no (lo := 46) (hi := 96) rfl u (by omega))) hc (fun e => (h.se e).of (Nat.le_refl _) (fun r k u w => hf r k (inS_no (lo := 46) (hi := 96) rfl (by omega) (by omega)))) (fun e => (h.od e).of (fun r k u w => hf r k (inS_no (lo := 46) (hi := 96) rfl (by omega) (by omega))) (fun k => hf 8 k rfl)) (Nat.le_succ _) (Nat.le_add_right _ _) (by omega) (by omega)
theorem owe_le {b c : Bool} {m : Nat} {C : Prop} (h : c = true ∨ c = b ∧ ¬ C) : (C → owe m c + owe m b ≤ owe m b) ∧ owe m c + 0 ≤ owe m b := by
  rcases h with rfl | ⟨rfl, hn⟩
  · exact ⟨fun _ => by rw [show owe m true = 0 from rfl]; omega, by rw [show owe m true = 0 from rfl]; omega⟩
  · exact ⟨fun z => absurd z hn, Nat.le_refl _⟩
theorem HI.kS (h : HI xs L n l Lm T to K P tr f T to K P tr f b0 b1 p q n1 n2 I) (hn : n < 512) {Lm' x y : Nat} {c0 : Bool} (hf : fr seA I I') (hc : CC T to K P t1 f p q l I') (h0 : c0 = true → SEi to K l Lm' I') (hL : Lm' ≤ Lm + 384) (hx : owe 11 c0 + x ≤ owe 11 b0) (hy : owe 53657 c0 + y ≤ owe 53657 b0) : HI xs L (n + 1) l Lm' T to K P tr f T to K P t1 f c0 b1 p q (n1 - x) (n2 - y) I' :=
  h.cls hn (fun r k u w => hf r k (inS_no (lo := 46) (hi := 70) rfl u w)) hc h0 (fun e => (h.od e).of (fun r k u w => hf r k (inS_no (lo := 81) (hi := 96) rfl u w)) (fun k => hf 8 k rfl)) (Nat.le_succ _) hL (by omega) (by omega)
theorem HI.kO (h : HI xs L n l Lm T to K P tr f T to K P tr f b0 b1 p q n1 n2 I) (hn : n < 512) {x y : Nat} {c1 : Bool} (hf : fr odA I I') (hc : CC T to K P t1 f p q l I') (h1 : c1 = true → ODi to K l I') (hx : owe 15 c1 + x ≤ owe 15 b1) (hy : owe 35028 c1 + y ≤ owe 35028 b1) : HI xs L (n + 1) l Lm T to K P tr f T to K P t1 f b0 c1 p q (n1 - x) (n2 - y) I' :=
  h.cls hn (fun r k u w => hf r k (inS_no (lo := 46) (hi := 70) rfl u w)) hc (fun e => (h.se e).of (Nat.le_refl _) (fun r k u w => hf r k (inS_no (lo := 70) (hi := 81) rfl u w))) h1 (Nat.le_succ _) (Nat.le_add_right _ _) (by omega) (by omega)
theorem HI.kC (h : HI xs L n l Lm T to K P tr f T to K P tr f b0 b1 p q n1 n2 I) (hn : n < 512) {l' : Nat} {p' q' : Bool} (hl : l' = l ∧ to1 = to ∧ K1 = K ∧ (∀ i, I' 8 i = I 8 i) ∨ l' = l + 1) (hf : ∀ r k, 46 ≤ r → I' r k = I r k) (hc : CC T1 to1 K1 P1 t1 f1 p' q' l' I') : HI xs L (n + 1) l' Lm T to K P tr f T1 to1 K1 P1 t1 f1 b0 b1 p' q' (n1 - 0) (n2 - 0) I' := by
  have hb := (h.lb hn).1
  refine h.cls hn (fun r k u w => hf r k u) hc (fun e => ?_) (fun e => ?_) (by omega) (Nat.le_add_right _ _) (by omega) (by omega)
  · rcases hl with ⟨rfl, rfl, rfl, h8⟩ | rfl
    · exact (h.se e).of (Nat.le_refl _) (fun r k u w => hf r k (by omega))
    · exact (h.se e).lay (by omega) hf
  · rcases hl with ⟨rfl, rfl, rfl, h8⟩ | rfl
    · exact (h.od e).of (fun r k u w => hf r k (by omega)) h8
    · exact (h.od e).lay (by omega) hf
end VF
