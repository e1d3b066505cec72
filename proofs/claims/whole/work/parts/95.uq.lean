/-! answers are one -/
theorem rf_uq {C : Prop} {V : Int32 → Prop} {v v' : Int32} {t t' : Nat} (hV : C → ∀ a b, V a → V b → a = b) (h : rf C V v t) (h' : rf C V v' t') : v = v' ∧ t = t' := by
  rcases h with ⟨a1, a2, a3⟩ | ⟨a1, a2, a3⟩ <;> rcases h' with ⟨b1, b2, b3⟩ | ⟨b1, b2, b3⟩
  · exact ⟨hV a1 _ _ a2 b2, by omega⟩
  · exact absurd a1 b1
  · exact absurd b1 a1
  · exact ⟨by rw [a2, b2], by omega⟩
theorem ra_few_uq {to : Bool} {K : Nat → Nat} {P : zP} {x v v' : Int32} {t t' : Nat} (h : ra_few to K P x v t) (h' : ra_few to K P x v' t') : v = v' ∧ t = t' := by
  rcases h with ⟨a1, ⟨i, a2, a3, a4⟩, a5⟩ | ⟨a1, a2, a3, a4⟩ | ⟨a1, a2, a3⟩ <;> rcases h' with ⟨b1, ⟨j, b2, b3, b4⟩, b5⟩ | ⟨b1, b2, b3, b4⟩ | ⟨b1, b2, b3⟩
  · have e : i = j := by rw [a3, z_eq (by omega) (by omega)] at b3; exact b3
    subst e
    exact ⟨a4.uq b4, by omega⟩
  · exact absurd ⟨i, a2, a3⟩ b2
  · rw [a1] at b1; cases b1
  · exact absurd ⟨j, b2, b3⟩ a2
  · exact ⟨by rw [a3, b3], by omega⟩
  · rw [a1] at b1; cases b1
  · rw [a1] at b1; cases b1
  · rw [a1] at b1; cases b1
  · exact ⟨by rw [a2, b2], by omega⟩
theorem va_walk_uq {K : Nat → Nat} {P : zP} {x y v v' : Int32} (ok : okR K) (h : va_walk K P x y v) (h' : va_walk K P x y v') : v = v' := by
  have h4 := ok.p
  have h6 := ok.h
  obtain ⟨g, a, a1, a2, a3, a4, a5⟩ := h
  obtain ⟨g', a', b1, b2, b3, b4, b5⟩ := h'
  rw [a2, z_eq (by omega) (by omega)] at b2
  rw [a4, z_eq (by omega) (by omega)] at b4
  subst b2; subst b4
  exact a5.uq b5
