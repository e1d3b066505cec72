/-! a row of instructions, a method's blocks: what the small machine asks for, the real one does -/
def mm_ag (a b : Nat → Nat) : Prop := ∀ r, r < 70 ∨ 98 ≤ r → b r = a r
def mm_stat (a : Nat) : Bool := match mm_P[a]? with
  | some m => m.2.2.2.2.2.1
  | none => Nat.ble a 1003 || Nat.beq a 1013
/-- a call's entry, the kind of a return -/
def mm_ck2 (own : Nat) (ret : Option FieldType) (q : mmE) : Bool := match q with
  | (i, _, a, b, c, _, _) => match i with
    | .invokevirtual x => (mm_pM.any fun z => Nat.beq z.1 own && Nat.beq z.2.1 x && Nat.beq z.2.2.1 a) && Nat.beq (mm_yn a).2.1 b && Nat.beq (mm_yn a).2.2 c && !mm_stat a
    | .invokestatic x => (mm_pM.any fun z => Nat.beq z.1 own && Nat.beq z.2.1 x && Nat.beq z.2.2.1 a) && Nat.beq (mm_yn a).2.1 b && Nat.beq (mm_yn a).2.2 c && mm_stat a
    | .ireturn => match ret with
      | some .int => Nat.beq c 0
      | some .boolean => Nat.beq c 5
      | _ => false
    | .lreturn => match ret with
      | some .long => true
      | _ => false
    | .return_ => match ret with
      | none => true
      | _ => false
    | _ => true
section MMB
variable {p : Program} {l : Launch} {e : Env} {R : Room} {s : State} {m : MethodId} {args : Array Value} {below : List Frame} {meth : Method} {c : Code} {own : Nat} {cc : ByteArray} {D : va_G} {cA : Nat → ClassId} {ad0 adV : Nat → Nat} {A : Nat → Prop} {L : Nat} {xs : Nat → Int32} {mc ms : Nat} {Q : State → Prop} {ret : Option FieldType}
theorem mm_b_sound (X : ∀ ad, mm_ag ad0 ad → mm_c p s m args c own cc D cA ad adV A L xs) {K : Nat → mmK} {Rq : mmQ} {C : mmCall}
    (hR : ∀ ad, mm_ag ad0 ad → ∀ (pc : Nat) (q : mmE) (ls : mmL) (v : Option Value) (σ : mmS), decode cc pc = .ok (q.1, q.2.1) → q.2.1 = 1 → mm_ck2 own ret q = true → Rq v σ → mm_rk q v → mm_g p l e R s m args below meth c D cA ad A L xs mc ms Q pc ls v.toList σ)
    (hI : ∀ ad, mm_ag ad0 ad → ∀ (pc : Nat) (q : mmE) (ls : mmL) (st : List Value) (σ : mmS) (kk : List Value → mmS → Prop), decode cc pc = .ok (q.1, q.2.1) → q.2.1 = 3 → mm_ck2 own ret q = true → mm_isI q.1 → mm_inv C q.2.2.1 q.2.2.2.1 q.2.2.2.2.1 q.2.2.2.2.2.1 ls st σ kk → (∀ ad', mm_ag ad0 ad' → ∀ s' τ, kk s' τ → mm_g p l e R s m args below meth c D cA ad' A L xs mc ms Q (pc + 3) ls s' τ) → mm_g p l e R s m args below meth c D cA ad A L xs mc ms Q pc ls st σ)
    (hK : ∀ ad, mm_ag ad0 ad → ∀ pc ls st σ, K pc ls st σ → mm_g p l e R s m args below meth c D cA ad A L xs mc ms Q pc ls st σ) :
    ∀ (is : List mmE) (pc : Nat), mm_ckr own cc is pc = true → is.all (mm_ck2 own ret) = true → ∀ ad, mm_ag ad0 ad → ∀ ls st σ, mm_b K Rq C is pc ls st σ → mm_g p l e R s m args below meth c D cA ad A L xs mc ms Q pc ls st σ
  | [], pc, _, _, ad, ha, ls, st, σ, h => hK ad ha _ _ _ _ h
  | q :: r, pc, h1, h2, ad, ha, ls, st, σ, h => by
    unfold mm_ckr at h1
    simp only [Bool.and_eq_true, decide_eq_true_eq] at h1
    obtain ⟨⟨hd, hck⟩, hr⟩ := h1
    simp only [List.all_cons, Bool.and_eq_true] at h2
    have ih := mm_b_sound X hR hI hK r (pc + q.2.1) hr h2.2
    have hlenI : mm_isI q.1 → q.2.1 = 3 := by
      intro hi
      obtain ⟨i, n, a, b, c2, v, w⟩ := q
      cases i <;> first | exact hi.elim | exact Nat.eq_of_beq_eq_true hck
    have hlenR : ∀ v, mm_rk q v → q.2.1 = 1 := by
      intro v hv
      obtain ⟨i, n, a, b, c2, v2, w⟩ := q
      cases i <;> first | exact hv.elim | exact Nat.eq_of_beq_eq_true hck
    by_cases hi : mm_isI q.1
    · obtain ⟨i, n, a, b, c2, v, w⟩ := q
      have hn : n = 3 := hlenI hi
      subst hn
      cases i <;> first | exact hi.elim | skip
      · exact hI ad ha pc _ ls st σ _ hd rfl h2.1 hi h (fun ad' ha' s' τ z => ih ad' ha' ls s' τ z)
      · exact hI ad ha pc _ ls st σ _ hd rfl h2.1 hi h (fun ad' ha' s' τ z => ih ad' ha' ls s' τ z)
    · exact mm_x_sound (X ad ha) hd hck (fun ls st σ z => ih ad ha ls st σ z) (hK ad ha) (fun ls v σ z1 z2 => hR ad ha pc q ls v σ hd (hlenR v z2) h2.1 z1 z2) (fun ls st σ kk z => absurd z hi) h
theorem mm_find_mem : ∀ {bs : List mmB} {pc : Nat} {q : mmB}, mm_find bs pc = some q → q ∈ bs ∧ q.1 = pc
  | [], _, _, h => by cases h
  | x :: r, pc, q, h => by
    unfold mm_find at h
    split at h
    · rename_i e
      cases h
      exact ⟨List.mem_cons_self, Nat.eq_of_beq_eq_true e⟩
    · obtain ⟨h1, h2⟩ := mm_find_mem h
      exact ⟨List.mem_cons_of_mem _ h1, h2⟩
theorem mm_w_sound (X : ∀ ad, mm_ag ad0 ad → mm_c p s m args c own cc D cA ad adV A L xs) {Rq : mmQ} {C : mmCall} {bs : List mmB}
    (hR : ∀ ad, mm_ag ad0 ad → ∀ (pc : Nat) (q : mmE) (ls : mmL) (v : Option Value) (σ : mmS), decode cc pc = .ok (q.1, q.2.1) → q.2.1 = 1 → mm_ck2 own ret q = true → Rq v σ → mm_rk q v → mm_g p l e R s m args below meth c D cA ad A L xs mc ms Q pc ls v.toList σ)
    (hI : ∀ ad, mm_ag ad0 ad → ∀ (pc : Nat) (q : mmE) (ls : mmL) (st : List Value) (σ : mmS) (kk : List Value → mmS → Prop), decode cc pc = .ok (q.1, q.2.1) → q.2.1 = 3 → mm_ck2 own ret q = true → mm_isI q.1 → mm_inv C q.2.2.1 q.2.2.2.1 q.2.2.2.2.1 q.2.2.2.2.2.1 ls st σ kk → (∀ ad', mm_ag ad0 ad' → ∀ s' τ, kk s' τ → mm_g p l e R s m args below meth c D cA ad' A L xs mc ms Q (pc + 3) ls s' τ) → mm_g p l e R s m args below meth c D cA ad A L xs mc ms Q pc ls st σ)
    (h1 : (bs.all fun q => mm_ckr own cc q.2.2 q.1) = true) (h2 : (bs.all fun q => q.2.2.all (mm_ck2 own ret)) = true) {pc : Nat} {ls : mmL} {st : List Value} {σ : mmS} (h : mm_w Rq C bs pc ls st σ) : ∀ ad, mm_ag ad0 ad → mm_g p l e R s m args below meth c D cA ad A L xs mc ms Q pc ls st σ := by
  refine h (fun pc ls st σ => ∀ ad, mm_ag ad0 ad → mm_g p l e R s m args below meth c D cA ad A L xs mc ms Q pc ls st σ) ?_
  intro pc ls st σ hk ad ha
  unfold mm_k at hk
  split at hk
  · rename_i q hq
    obtain ⟨hm, rfl⟩ := mm_find_mem hq
    have g := mm_b_sound X hR hI (fun ad ha pc ls st σ z => z ad ha) q.2.2 q.1 (List.all_eq_true.mp h1 q hm) (List.all_eq_true.mp h2 q hm) ad ha (mm_mask q.2.1 ls) st σ hk
    intro lsA H locs cells slots g1
    exact g lsA H locs cells slots (g1.mask q.2.1)
  · exact hk.elim
end MMB
