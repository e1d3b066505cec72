/-! walk: the class's public call -/
section WH
variable {d s1 s2 : Nat} {b0 b1 b2 p q : Bool} {ad : Nat → Nat} {J : mmJ} {Q : mmQ} {K : Nat → Nat} {I : mmI} {T : zT} {to : Bool} {P : zP} {tr l Lm : Nat} {f : zF}
theorem cd_135 {x y : Int32} (h : CC T to K P tr f p q l I) (hs : b0 = true → SEi to K l Lm I) (hl : l < 2 ^ 30) (hL : Lm + 1 < 2 ^ 30) (k : ∀ c0 ad' I' v t, fr seA I I' → CC T to K P t f p q l I' → (c0 = true → SEi to K l (Lm + 1) I') → rf (to = true ∧ ix (K 6) x ∧ ix (K 4) y) (va_walk K P x y) v t → Q (some (.int v)) ((mm_fl c0 b1 b2, s1 + owe 11 c0, s2 + owe 53657 c0, p, q, ad'), I', J)) : mm_wc (d + 6) 135 [.ref 0, .int x, .int y] ((mm_fl b0 b1 b2, s1 + owe 11 b0, s2 + owe 53657 b0, p, q, ad), I, J) Q := by
  refine fx_135 (ct_155 h (fun g ht hg eg => ⟨_, _, _, rfl, rfl, fun z => absurd z n10, fun _ => ?_⟩) (fun hn => ⟨_, _, _, rfl, rfl, fun _ => se_no h hs (Nat.le_succ _) (fun I' f' h' s' => k b0 ad I' _ _ f' h' s' (.inr ⟨fun z => hn ⟨z.1, z.2.1⟩, rfl, rfl⟩)), fun z => absurd rfl z⟩))
  refine ct_154 h (fun pl _ hpl epl => ⟨_, _, _, rfl, rfl, fun _ => ?_, fun z => absurd z n10⟩) (fun hn => ⟨_, _, _, rfl, rfl, fun z => absurd rfl z, fun _ => se_no h hs (Nat.le_succ _) (fun I' f' h' s' => k b0 ad I' _ _ f' h' s' (.inr ⟨fun z => hn ⟨z.1, z.2.2⟩, rfl, rfl⟩))⟩)
  refine ⟨owe 11 b0, owe 53657 b0, Nat.le_add_left _ _, Nat.le_add_left _ _, ct_1010 h hs hl (fun ad2 I2 f2 s2 h2 => ⟨_, _, ad2, I2, rfl, rfl, ?_⟩)⟩
  obtain ⟨hF, ⟨L, hLs, hLL⟩, -, -⟩ := id s2
  rw [h2.now ht, eg, epl]
  refine ct_96 (h2.cake ht) (h2.bd ht) h2.ms hF hLs (by omega) (h2.vms ht).1 hg hpl (fun I3 r f3 hF3 hL3 hd => ⟨_, _, _, rfl, rfl, ?_⟩)
  have s3 : SEi to K l (Lm + 1) I3 := SE_run s2 f3 ⟨rfl, rfl, rfl, rfl, rfl⟩ rfl hF3 hL3 (by omega) (by omega)
  refine se_yes (CC_sf h2 f3 rfl rfl) s3 (f2.tr (f3.sub rfl)) (fun I' f' h' s' => k true ad2 I' _ _ f' h' (fun _ => s') (.inl ⟨⟨ht, ⟨g, hg, eg⟩, ⟨pl, hpl, epl⟩⟩, ⟨g, pl, hg, eg, hpl, epl, hd⟩, rfl⟩))
end WH
