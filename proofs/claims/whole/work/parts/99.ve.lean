/-! the class's led; led, size and feed: one answer -/
section VE
variable {d n1 n2 : Nat} {b0 b1 b2 p q : Bool} {ad : Nat → Nat} {J : mmJ} {Q : mmQ} {K : Nat → Nat} {I : mmI} {T : zT} {to : Bool} {P : zP} {tr l : Nat} {f : zF} {x : Int32}
theorem ct_led (h : CC T to K P tr f p q l I) (k1 : ∀ c, ra_led to K P x (nI c) 0 → Q (some (.int (nI c))) ((mm_fl b0 b1 b2, n1, n2, p, q, ad), I, J)) (k0 : ra_led to K P x (nI 0) 1 → Q none ((mm_fl b0 b1 b2, n1, n2, p, q, ad), I, J)) : mm_w Q (mm_wc (d + 2)) bk_led 0 [some (.ref 0), some (.int x), none, none] [] ((mm_fl b0 b1 b2, n1, n2, p, q, ad), I, J) := by
  refine lx_led0 ?_
  by_cases ht : to = true
  · have ok := h.ok ht
    have h3 := ok.c
    have hv := (h.vms ht).1
    have hm11 := hv.lt ok
    have hq : P.1 / 8 < 2 ^ 11 := by omega
    have e3 : I (mm_ck p 1) 3 = nI (K 3) := (h.cake ht).2.1
    have lp : ∀ m c, m + c = K 3 → (∀ i, i < c → (P.1 / 8).testBit i = false → x ≠ nI (nout P.1 i)) → mm_w Q (mm_wc (d + 2)) bk_led 4 [some (.ref 0), some (.int x), some (.int (nI (nout P.1 c))), some (.int (nI c))] [] ((mm_fl b0 b1 b2, n1, n2, p, q, ad), I, J) := by
      intro m
      induction m with
      | zero =>
        intro c hc hno
        refine lx_led4 ?_
        rw [h.told, bI_0, e3, z_le (by omega) (by omega)]
        have fin := k0 (.inr ⟨fun i _ hi => hno i (by omega), rfl, rfl⟩)
        exact ⟨fun _ => fin, fun _ => ⟨fun _ => fin, fun e => absurd (by omega) e⟩⟩
      | succ m ih =>
        intro c hc hno
        refine lx_led4 ?_
        have hnl := cntB_le (fun i => !(P.1 / 8).testBit i) c
        rw [h.told, bI_0, e3, z_le (by omega) (by omega), h.now ht, z_add, z_add]
        refine ⟨fun e => absurd e (by rw [ht]; decide), fun _ => ⟨fun e => absurd e (by omega), fun _ => ct_20 hq (by omega) ⟨_, _, _, rfl, rfl, ?_⟩⟩⟩
        rw [bI_0]
        have en : nout P.1 (c + 1) = nout P.1 c + (!(P.1 / 8).testBit c).toNat := rfl
        refine ⟨fun e => ?_, fun e => ⟨fun e2 => ?_, fun e2 => k1 _ (.inl ⟨c, ht, by omega, e, e2.symm, rfl, rfl⟩)⟩⟩
        · have e : (P.1 / 8).testBit c = true := by simpa using e
          have := ih (c + 1) (by omega) (fun i hi hb => ?_)
          · rw [en, e] at this; exact this
          · by_cases ei : i = c
            · subst ei; rw [e] at hb; cases hb
            · exact hno i (by omega) hb
        · have := ih (c + 1) (by omega) (fun i hi hb => ?_)
          · rw [en, e] at this; exact this
          · by_cases ei : i = c
            · subst ei; exact fun z => e2 z.symm
            · exact hno i (by omega) hb
    exact lp (K 3) 0 (by omega) (fun i hi => absurd hi (by omega))
  · have ht' : to = false := by simpa using ht
    refine lx_led4 ?_
    rw [h.told, bI_0]
    exact ⟨fun _ => k0 (.inr ⟨fun c z => absurd z ht, rfl, rfl⟩), fun e => absurd ht' e⟩
theorem cd_1013 (h : CC T to K P tr f p q l I) (k1 : ∀ v, ra_led to K P x v 0 → Q (some (.int (nI 0))) ((mm_fl b0 b1 b2, 0, 0, p, q, ad), I, mm_upJ J 65 0 v.toInt64)) (k0 : ra_led to K P x (nI 0) 1 → Q (some (.int (nI 1))) ((mm_fl b0 b1 b2, 0, 0, p, q, ad), I, J)) : mm_wc (d + 3) 1013 [.ref 0, .int x, .ref 65] ((mm_fl b0 b1 b2, 1, 6, p, q, ad), I, J) Q := by
  show mm_led (mm_wc (d + 2)) x ((mm_fl b0 b1 b2, 1, 6, p, q, ad), I, J) Q
  refine ⟨sx_abs trivial, Nat.le_refl _, Nat.le_refl _, ?_⟩
  refine ct_led (n1 := 1) (n2 := 6) h (fun c hc => ⟨⟨rfl, rfl, rfl⟩, k1 _ hc⟩) (fun hc => ⟨⟨rfl, rfl, rfl⟩, k0 hc⟩)
theorem nout_lt {m c c' : Nat} (h : c < c') (hb : (m / 8).testBit c = false) : nout m c < nout m c' := by
  induction c' with
  | zero => omega
  | succ n ih =>
    have en : nout m (n + 1) = nout m n + (!(m / 8).testBit n).toNat := rfl
    by_cases e : c = n
    · subst e; rw [en, hb]; exact Nat.lt_succ_self _
    · have := ih (by omega); omega
theorem nout_inj {m c c' : Nat} (hb : (m / 8).testBit c = false) (hb' : (m / 8).testBit c' = false) (e : nout m c = nout m c') : c = c' := by
  rcases Nat.lt_trichotomy c c' with z | z | z
  · have := nout_lt z hb; omega
  · exact z
  · have := nout_lt z hb'; omega
theorem ra_led_uq {v v' : Int32} {t t' : Nat} (ok : to = true → okR K) (h : ra_led to K P x v t) (h' : ra_led to K P x v' t') : v = v' ∧ t = t' := by
  rcases h with ⟨c, ht, hc, hb, ex, rfl, rfl⟩ | ⟨hn, rfl, rfl⟩ <;> rcases h' with ⟨c', ht', hc', hb', ex', rfl, rfl⟩ | ⟨hn', rfl, rfl⟩
  · have h3 := (ok ht).c
    have l1 := cntB_le (fun i => !(P.1 / 8).testBit i) c
    have l2 := cntB_le (fun i => !(P.1 / 8).testBit i) c'
    have e := ex.symm.trans ex'
    have l3 : nout P.1 c ≤ c := l1
    have l4 : nout P.1 c' ≤ c' := l2
    rw [z_eq (a := nout P.1 c) (b := nout P.1 c') (by omega) (by omega)] at e
    have := nout_inj hb hb' e
    subst this
    exact ⟨rfl, rfl⟩
  · exact absurd ex (hn' c ht hc hb)
  · exact absurd ex' (hn c' ht' hc' hb')
  · exact ⟨rfl, rfl⟩
theorem ra_feed_uq {a b c e g v v' : Int32} {T' T'' : zT} (h : ra_feed T a b c e g v T') (h' : ra_feed T a b c e g v' T'') : v = v' ∧ T' = T'' := by
  rcases h with ⟨h, rfl, rfl⟩ | ⟨h, rfl, rfl⟩ <;> rcases h' with ⟨h', rfl, rfl⟩ | ⟨h', rfl, rfl⟩
  · exact ⟨rfl, rfl⟩
  · exact absurd h h'
  · exact absurd h' h
  · exact ⟨rfl, rfl⟩
theorem va_size_uq {v v' : Int32} (h : va_size T to K P x v) (h' : va_size T to K P x v') : v = v' := by
  have n10 : ¬ ix 10 (nI 10) := by
    rintro ⟨c, hc, e⟩
    rw [z_eq (by decide) (by omega)] at e; omega
  have i0 : ix 10 (nI 0) := ⟨0, by decide, rfl⟩
  have i1 : ix 10 (nI 1) := ⟨1, by decide, rfl⟩
  have i2 : ix 10 (nI 2) := ⟨2, by decide, rfl⟩
  have i3 : ix 10 (nI 3) := ⟨3, by decide, rfl⟩
  have i4 : ix 10 (nI 4) := ⟨4, by decide, rfl⟩
  have i5 : ix 10 (nI 5) := ⟨5, by decide, rfl⟩
  have i6 : ix 10 (nI 6) := ⟨6, by decide, rfl⟩
  have i7 : ix 10 (nI 7) := ⟨7, by decide, rfl⟩
  have i8 : ix 10 (nI 8) := ⟨8, by decide, rfl⟩
  have i9 : ix 10 (nI 9) := ⟨9, by decide, rfl⟩
  rcases h with ⟨rfl, b⟩ | ⟨a, b, c⟩ | ⟨a, b, c⟩ | ⟨a, b⟩ <;> rcases h' with ⟨a', b'⟩ | ⟨a', b', c'⟩ | ⟨a', b', c'⟩ | ⟨a', b'⟩
  · exact b.trans b'.symm
  · exact absurd rfl a'
  · exact absurd a' n10
  · rcases b' with ⟨e, _⟩ | ⟨e, _⟩ | ⟨e, _⟩ | ⟨e, _⟩ | ⟨e, _⟩ | ⟨e, _⟩ | ⟨e, _⟩ | ⟨e, _⟩ | ⟨e, _⟩ | ⟨e, _⟩ <;> exact absurd e (by decide)
  · exact absurd a' a
  · exact c.trans c'.symm
  · exact absurd a' b
  · rcases b' with ⟨rfl, _⟩ | ⟨rfl, _⟩ | ⟨rfl, _⟩ | ⟨rfl, _⟩ | ⟨rfl, _⟩ | ⟨rfl, _⟩ | ⟨rfl, _⟩ | ⟨rfl, _⟩ | ⟨rfl, _⟩ | ⟨rfl, _⟩ <;> exact absurd (by assumption) b
  · subst a'; exact absurd a n10
  · exact absurd a b'
  · exact c.trans c'.symm
  · rw [b] at a'; cases a'
  · subst a'
    rcases b with ⟨e, _⟩ | ⟨e, _⟩ | ⟨e, _⟩ | ⟨e, _⟩ | ⟨e, _⟩ | ⟨e, _⟩ | ⟨e, _⟩ | ⟨e, _⟩ | ⟨e, _⟩ | ⟨e, _⟩ <;> exact absurd e (by decide)
  · rcases b with ⟨rfl, _⟩ | ⟨rfl, _⟩ | ⟨rfl, _⟩ | ⟨rfl, _⟩ | ⟨rfl, _⟩ | ⟨rfl, _⟩ | ⟨rfl, _⟩ | ⟨rfl, _⟩ | ⟨rfl, _⟩ | ⟨rfl, _⟩ <;> exact absurd (by assumption) b'
  · rw [a] at b'; cases b'
  · rcases b with ⟨rfl, f⟩ | ⟨rfl, f⟩ | ⟨rfl, f⟩ | ⟨rfl, f⟩ | ⟨rfl, f⟩ | ⟨rfl, f⟩ | ⟨rfl, f⟩ | ⟨rfl, f⟩ | ⟨rfl, f⟩ | ⟨rfl, f⟩ <;> rcases b' with ⟨e, f'⟩ | ⟨e, f'⟩ | ⟨e, f'⟩ | ⟨e, f'⟩ | ⟨e, f'⟩ | ⟨e, f'⟩ | ⟨e, f'⟩ | ⟨e, f'⟩ | ⟨e, f'⟩ | ⟨e, f'⟩ <;> first | exact f.trans f'.symm | exact absurd e (by decide)
end VE
