/-! answers are one (2) -/
theorem nIu {x : Int32} {i j : Nat} (hi : i < 2 ^ 31) (hj : j < 2 ^ 31) (h1 : x = nI i) (h2 : x = nI j) : i = j := by
  rw [h1, z_eq hi hj] at h2; exact h2
theorem ra_n_uq {to : Bool} {n : Nat} {x : Int32} {V V' : Nat → Prop} {t t' : Nat} {R R' E : Prop} (hn : n < 2 ^ 31) (h : ra_n True to n x V t R) (h' : ra_n True to n x V' t' R') (hV : ∀ j, V j → V' j → E) (hR : R → R' → E) : E ∧ t = t' := by
  rcases h with ⟨a1, -, ⟨i, i1, i2, i3, i4⟩, a5⟩ | ⟨a1, a2, a3, a4⟩ | ⟨a1, a2, a3⟩ <;> rcases h' with ⟨b1, -, ⟨j, j1, j2, j3, j4⟩, b5⟩ | ⟨b1, b2, b3, b4⟩ | ⟨b1, b2, b3⟩
  · have e := nIu (by omega) (by omega) i3 j3
    subst e
    exact ⟨hV _ i4 j4, by omega⟩
  · exact absurd ⟨i, i1, i2, i3⟩ b2
  · rw [a1] at b1; cases b1
  · exact absurd ⟨j, j1, j2, j3⟩ a2
  · exact ⟨hR a3 b3, by omega⟩
  · rw [a1] at b1; cases b1
  · rw [a1] at b1; cases b1
  · rw [a1] at b1; cases b1
  · exact ⟨hR a2 b2, by omega⟩
theorem ra_chance_uq {to : Bool} {K : Nat → Nat} {P : zP} {x : Int32} {lo : Bool} {v v' : Int64} {t t' : Nat} (h : ra_chance to K P x lo v t) (h' : ra_chance to K P x lo v' t') : v = v' ∧ t = t' := ra_n_uq (by decide) h h' (fun j a b => by rw [a, b]) (fun a b => by rw [a, b])
theorem ra_content_uq {to : Bool} {K : Nat → Nat} {P : zP} {x : Int32} {lo : Bool} {v v' : Int64} {t t' : Nat} (h : ra_content to K P x lo v t) (h' : ra_content to K P x lo v' t') : v = v' ∧ t = t' := ra_n_uq (by decide) h h' (fun j a b => by rw [a, b]) (fun a b => by rw [a, b])
theorem ra_best_uq {to : Bool} {K : Nat → Nat} {P : zP} {x v v' : Int32} {t t' : Nat} (h : ra_best to K P x v t) (h' : ra_best to K P x v' t') : v = v' ∧ t = t' := ra_n_uq (by decide) h h' (fun j a b => by
  rcases a with ⟨a1, a2⟩ | ⟨a1, c, a2, a3⟩ <;> rcases b with ⟨b1, b2⟩ | ⟨b1, c', b2, b3⟩
  · rw [a2, b2]
  · exact absurd a1 b1
  · exact absurd b1 a1
  · rw [a3, b3, a2.uq b2]) (fun a b => by rw [a, b])
theorem ra_f_uq {to : Bool} {K : Nat → Nat} {x : Int32} {V V' : Nat → Prop} {v v' : Int32} {t t' : Nat} (h : ra_f to K x V v t) (h' : ra_f to K x V' v' t') (hV : ∀ j, V j → V' j → v = v' ∧ t = t') : v = v' ∧ t = t' := by
  rcases h with ⟨a1, a2, i, i1, i2, i3, i4⟩ | ⟨a1, a2, a3, a4, a5⟩ | ⟨a1, a2, a3, a4⟩ | ⟨a1, a2, a3⟩ <;> rcases h' with ⟨b1, b2, j, j1, j2, j3, j4⟩ | ⟨b1, b2, b3, b4, b5⟩ | ⟨b1, b2, b3, b4⟩ | ⟨b1, b2, b3⟩
  · have e := nIu (by omega) (by omega) i3 j3
    subst e
    exact hV _ i4 j4
  · exact absurd a2 b2
  · exact absurd ⟨i, i1, i2, i3⟩ b2
  · rw [a1] at b1; cases b1
  · exact absurd b2 a2
  · exact ⟨by rw [a4, b4], by omega⟩
  · exact absurd a3 b2
  · rw [a1] at b1; cases b1
  · exact absurd ⟨j, j1, j2, j3⟩ a2
  · exact absurd b3 a2
  · exact ⟨by rw [a3, b3], by omega⟩
  · rw [a1] at b1; cases b1
  · rw [a1] at b1; cases b1
  · rw [a1] at b1; cases b1
  · rw [a1] at b1; cases b1
  · exact ⟨by rw [a2, b2], by omega⟩
theorem ra_fits_uq {to : Bool} {K : Nat → Nat} {x v v' : Int32} {t t' : Nat} (h : ra_fits to K x v t) (h' : ra_fits to K x v' t') : v = v' ∧ t = t' := ra_f_uq h h' (fun j a b => ⟨by rw [a.1, b.1], by rw [a.2, b.2]⟩)
theorem ra_fitAt_uq {to : Bool} {K : Nat → Nat} {x y v v' : Int32} {t t' : Nat} (h : ra_fitAt to K x y v t) (h' : ra_fitAt to K x y v' t') : v = v' ∧ t = t' := ra_f_uq h h' (fun j a b => by
  have key : ∀ i b, i < 2 ^ 31 → y = nI i → isFt K j i b → (y < nI 0 ∨ ∃ i, i < 2 ^ 31 ∧ y = nI i ∧ sumB (rwN K j) (nB K) ≤ i) → False := by
    rintro i b hi ey hb (z | ⟨i', hi', ey', hs⟩)
    · rw [ey, z_lt hi (by decide)] at z; omega
    · have e := nIu hi hi' ey ey'
      subst e
      have := sumB_mono (f := rwN K j) (show b + 1 ≤ nB K from hb.1)
      have := hb.2.2
      omega
  rcases a with ⟨i, c, a1, a2, a3, a4, a5⟩ | ⟨a1, a2, a3⟩ <;> rcases b with ⟨i', c', b1, b2, b3, b4, b5⟩ | ⟨b1, b2, b3⟩
  · have e := nIu a1 b1 a2 b2
    subst e
    exact ⟨by rw [a4, b4, a3.uq b3], by omega⟩
  · exact (key i c a1 a2 a3 b1).elim
  · exact (key i' c' b1 b2 b3 a1).elim
  · exact ⟨by rw [a2, b2], by omega⟩)
theorem ra_cake_uq {T : zT} {to : Bool} {K : Nat → Nat} {P : zP} {f : zF} {x v v' : Int32} {T1 T2 : zT} {to1 to2 : Bool} {K1 K2 : Nat → Nat} {P1 P2 : zP} {t t' : Nat} {f1 f2 : zF} (hT : T.1 ≤ 900) (h : ra_cake T to K P f x v T1 to1 K1 P1 t f1) (h' : ra_cake T to K P f x v' T2 to2 K2 P2 t' f2) : v = v' ∧ T1 = T2 ∧ to1 = to2 ∧ K1 = K2 ∧ P1 = P2 ∧ t = t' ∧ f1 = f2 := by
  rcases h with ⟨a1, a2, a3, a4, a5, a6, a7, a8⟩ | ⟨n, n1, n2, a⟩ <;> rcases h' with ⟨b1, b2, b3, b4, b5, b6, b7, b8⟩ | ⟨m, m1, m2, b⟩
  · exact ⟨by rw [a2, b2], by rw [a3, b3], by rw [a4, b4], by rw [a5, b5], by rw [a6, b6], by omega, by rw [a8, b8]⟩
  · exact absurd ⟨m, by omega, m2⟩ a1
  · exact absurd ⟨n, by omega, n2⟩ b1
  · have e := nIu (by omega) (by omega) n2 m2
    subst e
    rcases a with ⟨c, pl, e1, a2, a3, a4, a5, a6, a7, a8⟩ | ⟨a', D, nc, e1, a2, a3, a4, a5, a6, a7, a8⟩ <;> rcases b with ⟨c', pl', e2, b2, b3, b4, b5, b6, b7, b8⟩ | ⟨b', D', nc', e2, b2, b3, b4, b5, b6, b7, b8⟩
    · rw [e1] at e2
      injection e2 with e2
      exact ⟨by rw [a2, b2], by rw [a3, b3], by rw [a4, b4], by rw [a5, b5], by rw [a6, b6], by omega, by rw [a8, b8, e2]⟩
    · rw [e1] at e2; cases e2
    · rw [e1] at e2; cases e2
    · rw [e1] at e2
      injection e2 with e2
      injection e2 with q1 q2
      injection q2 with q2 q3
      subst q2
      exact ⟨by rw [a2, b2], by rw [a3, b3], by rw [a4, b4], by rw [a5, b5], by rw [a6, b6], by omega, by rw [a8, b8]⟩
