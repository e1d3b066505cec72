/-! the class's cake -/
section SJ
variable {d n1 n2 : Nat} {b0 b1 b2 p q : Bool} {ad : Nat → Nat} {J : mmJ} {Q : mmQ} {K : Nat → Nat} {I : mmI} {T : zT} {to : Bool} {P : zP} {tr l : Nat} {f : zF}
/-- what cake may touch -/
def frK (I I' : mmI) : Prop := ∀ r k, 46 ≤ r → r ≠ 66 → r ≠ 67 → I' r k = I r k
theorem ckp {c q : Bool} {j : Nat} (h : c ≠ q) (hj : j < 14) : ∀ i, i < 14 → mm_ck c j ≠ mm_ck q i := fun i hi => by
  cases c <;> cases q
  · exact absurd rfl h
  · show 32 + j ≠ 18 + i; omega
  · show 18 + j ≠ 32 + i; omega
  · exact absurd rfl h
theorem frR.no {q : Bool} {I I' : mmI} (h : frR q I I') {r k : Nat} (h1 : r ≠ 1) (h4 : r ≠ 4) (h5 : r ≠ 5) (hr : r < 18 ∨ 46 ≤ r) : I' r k = I r k := h r k h1 h4 h5 (.inl (fun j hj => by have := ck_in q hj; omega))
theorem frR_p {c q : Bool} {I I' : mmI} (h : frR q I I') (hc : c ≠ q) {j k : Nat} (hj : j < 14) : I' (mm_ck c j) k = I (mm_ck c j) k := by
  have := ck_in c hj
  exact h _ k (by omega) (by omega) (by omega) (.inl (ckp hc hj))
theorem dK_cK {D nc : Nat → Nat} (h : dK I q D) (ok : okR D) (h0 : D 0 ≠ 0) : cK I q D := by
  obtain ⟨-, a3, a4, a5, a6, a7, a8, a10, a11, r⟩ := h
  rw [if_neg h0] at a7
  exact ⟨ok, a3, a4, a5, a6, a7, a8, a10, a11, r⟩
theorem cd_112 {x : Int32} (h : CC T to K P tr f p q l I) (hl : l < 2 ^ 30) (k : ∀ I' J' v T' to' K' P' t f' p' q' l', (l' = l ∧ to' = to ∧ K' = K ∧ (∀ i, I' 8 i = I 8 i) ∨ l' = l + 1) → (∀ r k, 46 ≤ r → I' r k = I r k) → CC T' to' K' P' t f' p' q' l' I' → ra_cake T to K P f x v T' to' K' P' t f' → Q (some (.int v)) ((mm_fl b0 b1 b2, n1, n2, p', q', ad), I', J')) : mm_wc (d + 8) 112 [.ref 0, .int x] ((mm_fl b0 b1 b2, n1, n2, p, q, ad), I, J) Q := by
  obtain ⟨z0, c2, c3, c4, c5, c6, c7, c8, c9, c10, c11, c12, c13, c14, c15, c16, c17, c18⟩ := id h
  obtain ⟨z1, z2, z3, z4, z5, z6, z7, z8, z9⟩ := z0
  have hpq : p ≠ q := by rw [c9]; cases p <;> decide
  have no : ¬ ix (T.1 + 1) x → mm_wc (d + 7) 159 [.ref 0, .int (nI 2)] ((mm_fl b0 b1 b2, 0, 0, p, q, ad), I, J) (fun v τ => ∃ r1 I1 J1, v = some (.int r1) ∧ τ = (((mm_fl b0 b1 b2), 0, 0, p, q, ad), I1, J1) ∧ Q (some (.int r1)) (((mm_fl b0 b1 b2), n1, n2, p, q, ad), I1, J1)) := fun hn => ct_159 h (by decide) (by decide) (fun I' f' h' => ⟨_, _, _, rfl, rfl, k I' J _ T to K P 2 f p q l (.inl ⟨rfl, rfl, rfl, fun i => f' 8 i rfl⟩) (fun r i hr => f' r i (inS_no (lo := 46) (hi := r + 1) (by simp [noR, trS]) hr (by omega))) h' (.inl ⟨hn, rfl, rfl, rfl, rfl, rfl, rfl, rfl⟩)⟩)
  refine fx_112 ?_
  rcases z_ca x with hx | ⟨n, hn, ex⟩
  · refine ⟨fun _ => no (fun ⟨m, hm, em⟩ => ?_), fun z => absurd hx z⟩
    rw [em, z_lt (by omega) (by decide)] at hx; omega
  rw [ex, c6, z_lt hn (by decide), z_le hn (by omega)]
  refine ⟨fun z => absurd z (Nat.not_lt_zero _), fun _ => ⟨fun hle => ?_, fun hgt => ?_⟩⟩
  · refine ct_58 (N := n) (b := T.2) hle z1 c6 (fun i hi => c7 i (by omega)) (fun i hi => z2 i (by omega)) c8 (fun I2 J2 c pl F2 g1 eR c1 c6' p9 g4 => ⟨_, _, _, rfl, rfl, fx_59 ⟨_, _, _, rfl, rfl, ?_⟩⟩) (fun I2 J2 a D nc F2 g1 eR ho d0 d3 d4 d6 hK2 => ⟨_, _, _, rfl, rfl, fx_59 ⟨_, _, _, rfl, rfl, ?_⟩⟩)
    · -- it failed
      rw [up_s, z_eq (by omega) (by decide), up_c (r' := 1) (by decide), g4]
      refine ⟨fun z => by omega, fun _ => fx_159 ⟨_, _, _, rfl, rfl, ?_⟩⟩
      have o : ∀ r i, r ≠ 0 → mm_up (mm_up (mm_up I2 0 8 (nI c)) 0 9 (nI pl)) 0 7 (nI 4) r i = I2 r i := fun r i hr => by rw [up_c hr, up_c hr, up_c hr]
      have x7 : mm_up (mm_up (mm_up I2 0 8 (nI c)) 0 9 (nI pl)) 0 7 (nI 4) 0 7 = nI 4 := up_s _ _ _ _
      have x8 : mm_up (mm_up (mm_up I2 0 8 (nI c)) 0 9 (nI pl)) 0 7 (nI 4) 0 8 = nI c := by rw [up_k (by decide), up_k (by decide), up_s]
      have x9 : mm_up (mm_up (mm_up I2 0 8 (nI c)) 0 9 (nI pl)) 0 7 (nI 4) 0 9 = nI pl := by rw [up_k (by decide), up_s]
      have x1 : mm_up (mm_up (mm_up I2 0 8 (nI c)) 0 9 (nI pl)) 0 7 (nI 4) 0 1 = bI to := by rw [up_k (by decide), up_k (by decide), up_k (by decide), F2.no (by decide) (by decide) (by decide) (.inl (by decide))]; exact c2
      generalize mm_up (mm_up (mm_up I2 0 8 (nI c)) 0 9 (nI pl)) 0 7 (nI 4) = I3 at *
      have o' : ∀ r i, r ≠ 0 → r ≠ 1 → r ≠ 4 → r ≠ 5 → r < 18 ∨ 46 ≤ r → I3 r i = I r i := fun r i h0 h1 h4 h5 hr => by rw [o r i h0]; exact F2.no h1 h4 h5 hr
      have ocp : ∀ j i, j < 14 → I3 (mm_ck p j) i = I (mm_ck p j) i := fun j i hj => by
        have := ck_in p hj
        rw [o _ i (by omega)]; exact frR_p F2 hpq hj
      have ocq0 : I3 (mm_ck q 1) 0 = nI 10 ∧ I3 (mm_ck q 5) 0 = nI 5 ∧ I3 (mm_ck q 8) 0 = nI 4 := by
        have k1 := ck_in q (j := 1) (by decide)
        have k5 := ck_in q (j := 5) (by decide)
        have k8 := ck_in q (j := 8) (by decide)
        rw [o _ _ (by omega), o _ _ (by omega), o _ _ (by omega), F2 (mm_ck q 1) 0 (by omega) (by omega) (by omega) (.inr ⟨rfl, .inl rfl⟩), F2 (mm_ck q 5) 0 (by omega) (by omega) (by omega) (.inr ⟨rfl, .inr (.inl rfl)⟩), F2 (mm_ck q 8) 0 (by omega) (by omega) (by omega) (.inr ⟨rfl, .inr (.inr rfl)⟩)]
        exact c8 q
      refine k I3 J2 _ (0, T.2) to K P 4 (c, pl) p q l (.inl ⟨rfl, rfl, rfl, fun i => o' 8 i (by decide) (by decide) (by decide) (by decide) (.inl (by decide))⟩) (fun r i hr => o' r i (by omega) (by omega) (by omega) (by omega) (.inr hr)) ?_ (.inr ⟨n, hle, ex, .inl ⟨c, pl, eR, rfl, rfl, rfl, rfl, rfl, rfl, rfl⟩⟩)
      refine ⟨⟨Nat.zero_le _, fun i hi => absurd hi (Nat.not_lt_zero i), z3, z4, z5, z6, by decide, c6', p9⟩, x1, x7, x8, fun _ => x9, by rw [o 1 1 (by decide)]; exact g1, fun i hi => absurd hi (Nat.not_lt_zero i), fun cc => ?_, c9, by rw [o' 15 2 (by decide) (by decide) (by decide) (by decide) (.inl (by decide))]; exact c10, by rw [o' 15 4 (by decide) (by decide) (by decide) (by decide) (.inl (by decide))]; exact c11, fun i hi => by rw [o' 16 i (by decide) (by decide) (by decide) (by decide) (.inl (by decide))]; exact c12 i hi, fun i hi => by rw [o' 17 i (by decide) (by decide) (by decide) (by decide) (.inl (by decide))]; exact c13 i hi, fun z => ⟨by rw [o' 15 0 (by decide) (by decide) (by decide) (by decide) (.inl (by decide))]; exact (c14 z).1, (c14 z).2.1.of (fun j i hj => ocp j i hj), (c14 z).2.2.of (o' 6 2 (by decide) (by decide) (by decide) (by decide) (.inl (by decide))) (o' 6 7 (by decide) (by decide) (by decide) (by decide) (.inl (by decide))) (o' 6 11 (by decide) (by decide) (by decide) (by decide) (.inl (by decide))) (fun r i h1 h2 => o' r i (by omega) (by omega) (by omega) (by omega) (.inl (by omega)))⟩, by rw [o' 6 13 (by decide) (by decide) (by decide) (by decide) (.inl (by decide))]; exact c15, by rw [o' 6 1 (by decide) (by decide) (by decide) (by decide) (.inl (by decide))]; exact c16, c17, ⟨fun j hj => by rw [o' 66 j (by decide) (by decide) (by decide) (by decide) (.inr (by decide))]; exact c18.1 j hj, fun j hj => by rw [o' 67 j (by decide) (by decide) (by decide) (by decide) (.inr (by decide))]; exact c18.2 j hj⟩⟩
      by_cases e : cc = q
      · rw [e]; exact ocq0
      · have ep : cc = p := by
          cases cc <;> cases p <;> cases q <;> first | rfl | exact absurd rfl e | exact absurd rfl hpq
        rw [ep, ocp 1 0 (by decide), ocp 5 0 (by decide), ocp 8 0 (by decide)]
        exact c8 p
    · obtain ⟨okr, d45⟩ := okD_R ho d0 d3 d4 d6
      have hv := zall_vm D
      refine ⟨fun _ => ?_, fun z => absurd (up_s _ _ _ _) z⟩
      have oa : ∀ r i, r ≠ 0 → mm_up (mm_up I2 0 8 (nI 0)) 0 9 (mm_up I2 0 8 (nI 0) 1 4) r i = I2 r i := fun r i hr => by rw [up_c hr, up_c hr]
      have y1 : mm_up (mm_up I2 0 8 (nI 0)) 0 9 (mm_up I2 0 8 (nI 0) 1 4) 0 8 = nI 0 := by rw [up_k (by decide), up_s]
      generalize mm_up (mm_up I2 0 8 (nI 0)) 0 9 (mm_up I2 0 8 (nI 0) 1 4) = I3 at *
      have oc : ∀ c j i, j < 14 → I3 (mm_ck c j) i = I2 (mm_ck c j) i := fun c j i hj => oa _ i (by have := ck_in c hj; omega)
      have o3 : ∀ r i, r ≠ 0 → r ≠ 1 → r ≠ 4 → r ≠ 5 → r < 18 ∨ 46 ≤ r → I3 r i = I r i := fun r i h0 h1 h4 h5 hr => by rw [oa r i h0]; exact F2.no h1 h4 h5 hr
      have K3 : dK I3 q D := hK2.of (fun j i hj => oc q j i hj)
      have CK3 : cK I3 q D := dK_cK (nc := nc) K3 okr d0
      have w3 : cWy I3 := ⟨fun j hj => by rw [o3 66 j (by decide) (by decide) (by decide) (by decide) (.inr (by decide))]; exact c18.1 j hj, fun j hj => by rw [o3 67 j (by decide) (by decide) (by decide) (by decide) (.inr (by decide))]; exact c18.2 j hj⟩
      refine ct_0 CK3 w3 (fun I4 f4 B4 l4 m4 => ⟨_, _, _, _, rfl, rfl, ?_⟩)
      have f5 : fr [(0, [1])] I4 (mm_up I4 0 1 (nI 1)) := fr.rf.up rfl
      have CK5 : cK (mm_up I4 0 1 (nI 1)) q D := (CK3.fr f4 rfl).fr f5 rfl
      refine ct_16 CK5 (B4.fr f5 rfl rfl rfl rfl) ⟨_, _, _, rfl, rfl, fx_49 ⟨_, _, rfl, rfl, fx_160 ⟨_, _, _, rfl, rfl, ?_⟩⟩⟩
      have f9 : fr [(0, [1, 7]), (15, [0, 2, 4])] I4 (mm_up (mm_up (mm_up (mm_up (mm_up I4 0 1 (nI 1)) 15 0 (nI (zall D))) 15 2 (nI 0)) 15 4 (nI 0)) 0 7 (nI 0)) := ((((fr.rf.up rfl).up rfl).up rfl).up rfl).up rfl
      have v6 : mm_up (mm_up (mm_up (mm_up I4 0 1 (nI 1)) 15 0 (nI (zall D))) 15 2 (nI 0)) 15 4 (nI 0) 6 2 = nI (nB D) := by rw [up_c (by decide), up_c (by decide), up_c (by decide), up_c (by decide)]; exact B4.2.1
      rw [v6]
      have x1 : mm_up (mm_up (mm_up (mm_up (mm_up I4 0 1 (nI 1)) 15 0 (nI (zall D))) 15 2 (nI 0)) 15 4 (nI 0)) 0 7 (nI 0) 0 1 = nI 1 := by rw [up_k (by decide), up_c (by decide), up_c (by decide), up_c (by decide), up_s]
      have x7 : mm_up (mm_up (mm_up (mm_up (mm_up I4 0 1 (nI 1)) 15 0 (nI (zall D))) 15 2 (nI 0)) 15 4 (nI 0)) 0 7 (nI 0) 0 7 = nI 0 := up_s _ _ _ _
      have x150 : mm_up (mm_up (mm_up (mm_up (mm_up I4 0 1 (nI 1)) 15 0 (nI (zall D))) 15 2 (nI 0)) 15 4 (nI 0)) 0 7 (nI 0) 15 0 = nI (zall D) := by rw [up_c (by decide), up_k (by decide), up_k (by decide), up_s]
      have x152 : mm_up (mm_up (mm_up (mm_up (mm_up I4 0 1 (nI 1)) 15 0 (nI (zall D))) 15 2 (nI 0)) 15 4 (nI 0)) 0 7 (nI 0) 15 2 = nI 0 := by rw [up_c (by decide), up_k (by decide), up_s]
      have x154 : mm_up (mm_up (mm_up (mm_up (mm_up I4 0 1 (nI 1)) 15 0 (nI (zall D))) 15 2 (nI 0)) 15 4 (nI 0)) 0 7 (nI 0) 15 4 = nI 0 := by rw [up_c (by decide), up_s]
      generalize mm_up (mm_up (mm_up (mm_up (mm_up I4 0 1 (nI 1)) 15 0 (nI (zall D))) 15 2 (nI 0)) 15 4 (nI 0)) 0 7 (nI 0) = I9 at *
      have hfar : ∀ r i, 46 ≤ r → I9 r i = I r i := fun r i hr => by
        rw [f9 r i (inS_no (lo := 46) (hi := r + 1) (by simp [noR]) hr (by omega)), f4 r i (inS_no (lo := 46) (hi := r + 1) (by simp [noR, lyS]) hr (by omega))]
        exact o3 r i (by omega) (by omega) (by omega) (by omega) (.inr hr)
      have hcell : ∀ c j i, j < 14 → I9 (mm_ck c j) i = I3 (mm_ck c j) i := fun c j i hj => by rw [f9.ck rfl c hj, f4.ck rfl c hj]
      refine k I9 J2 _ (0, T.2) true D (zall D, 0, P.2.2.1, 0, P.2.2.2.2) 0 (0, 0) q p (l + 1) (.inr rfl) hfar ?_ (.inr ⟨n, hle, ex, .inr ⟨a, D, nc, eR, rfl, rfl, rfl, rfl, rfl, rfl, rfl⟩⟩)
      refine ⟨⟨Nat.zero_le _, fun i hi => absurd hi (Nat.not_lt_zero i), Nat.zero_le _, Nat.zero_le _, fun z => absurd z (by decide), fun _ => ⟨okr, hv, fun i hi => absurd hi (Nat.not_lt_zero i), fun i hi => absurd hi (Nat.not_lt_zero i), d45⟩, by decide, by decide, by decide⟩, x1, x7, by rw [f9 0 8 rfl, f4 0 8 rfl]; exact y1, fun z => absurd z (by decide), by rw [f9 1 1 rfl, f4 1 1 rfl, oa 1 1 (by decide)]; exact g1, fun i hi => absurd hi (Nat.not_lt_zero i), fun cc => ?_, by rw [c9, Bool.not_not], x152, x154, fun i hi => absurd hi (Nat.not_lt_zero i), fun i hi => absurd hi (Nat.not_lt_zero i), fun _ => ⟨x150, CK3.of (fun j i hj => hcell q j i hj), B4.fr f9 rfl rfl rfl rfl⟩, by rw [f9 6 13 rfl]; exact m4, ?_, fun _ => Nat.le_add_left _ _, ⟨fun j hj => by rw [hfar 66 j (by decide)]; exact c18.1 j hj, fun j hj => by rw [hfar 67 j (by decide)]; exact c18.2 j hj⟩⟩
      · rw [hcell cc 1 0 (by decide), hcell cc 5 0 (by decide), hcell cc 8 0 (by decide)]
        by_cases e : cc = q
        · rw [e]; exact K3.1
        · have ep : cc = p := by
            cases cc <;> cases p <;> cases q <;> first | rfl | exact absurd rfl e | exact absurd rfl hpq
          rw [ep, oc p 1 0 (by decide), oc p 5 0 (by decide), oc p 8 0 (by decide), frR_p F2 hpq (by decide), frR_p F2 hpq (by decide), frR_p F2 hpq (by decide)]
          exact c8 p
      · rw [f9 6 1 rfl, l4, o3 6 1 (by decide) (by decide) (by decide) (by decide) (.inl (by decide)), c16, z_add]
  · exact no (fun ⟨m, hm, em⟩ => by rw [ex, z_eq hn (by omega)] at em; omega)
end SJ
