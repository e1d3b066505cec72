/-! answers are one -/
theorem rf_uq {C : Prop} {V : Int32 → Prop} {v v' : Int32} {t t' : Nat} (hV : C → ∀ a b, V a → V b → a = b) (h : rf C V v t) (h' : rf C V v' t') : v = v' ∧ t = t' := by
  rcases h with ⟨a1, a2, a3⟩ | ⟨a1, a2, a3⟩ <;> rcases h' with ⟨b1, b2, b3⟩ | ⟨b1, b2, b3⟩
  · exact ⟨hV a1 _ _ a2 b2, by omega⟩
  · exact absurd a1 b1
  · exact absurd b1 a1
  · exact ⟨by rw [a2, b2], by omega⟩
theorem ra_few_uq {to : Bool} {K : Nat → Nat} {P : zP} {x v v' : Int32} {t t' : Nat} (h : ra_few to K P x v t) (h' : ra_few to K P x v' t') : v = v' ∧ t = t' := by
  rcases h with ⟨a1, ⟨i, a2, a3, a4⟩, a5⟩ | ⟨a1, a2, a3, a4⟩ | ⟨a1, a2, a3⟩ <;> rcases h' with ⟨b1, ⟨j, b2, b3, b4⟩, b5⟩ | ⟨b1, b2, b3, b4⟩ | ⟨b1, b2, b3⟩
  · have e : i = j := by rw [a3, z_eq (by omega) (by omega)] at b3; exact b3
    subst e
    exact ⟨a4.uq b4, by omega⟩
  · exact absurd ⟨i, a2, a3⟩ b2
  · rw [a1] at b1; cases b1
  · exact absurd ⟨j, b2, b3⟩ a2
  · exact ⟨by rw [a3, b3], by omega⟩
  · rw [a1] at b1; cases b1
  · rw [a1] at b1; cases b1
  · rw [a1] at b1; cases b1
  · exact ⟨by rw [a2, b2], by omega⟩
theorem va_walk_uq {K : Nat → Nat} {P : zP} {x y v v' : Int32} (ok : okR K) (h : va_walk K P x y v) (h' : va_walk K P x y v') : v = v' := by
  have h4 := ok.p
  have h6 := ok.h
  obtain ⟨g, a, a1, a2, a3, a4, a5⟩ := h
  obtain ⟨g', a', b1, b2, b3, b4, b5⟩ := h'
  rw [a2, z_eq (by omega) (by omega)] at b2
  rw [a4, z_eq (by omega) (by omega)] at b4
  subst b2; subst b4
  exact a5.uq b5
theorem ra_row_uq {to : Bool} {K : Nat → Nat} {P : zP} {x v v' : Int32} {t t' : Nat} (h : ra_row to K P x v t) (h' : ra_row to K P x v' t') : v = v' ∧ t = t' := by
  have n2 : ∀ L, L < 2 ^ 31 → isD (goal0 (kall K) P.1) (nI L) → isD (goal0 (kall K) P.1) (-2) → False := fun L hL d1 d2 => by
    have := d1.uq d2
    rw [z_m2 hL] at this; exact this
  have key : ∀ i L (w : Nat → Nat), x = nI i → i < L → L < 2 ^ 31 → isD (goal0 (kall K) P.1) (nI L) → to = true → ¬ (to = false ∨ ¬ nI 0 ≤ x ∨ ∃ L, L < 2 ^ 31 ∧ isD (goal0 (kall K) P.1) (nI L) ∧ nI 0 ≤ x ∧ ¬ x < nI L) := by
    rintro i L _ e1 e2 e3 e4 e5 (z | z | ⟨L', z1, z2, -, z4⟩)
    · rw [e5] at z; cases z
    · rw [e1, z_le (by decide) (by omega)] at z; exact z (Nat.zero_le _)
    · have := isD_n e3 z1 e4 z2
      subst this
      rw [e1, z_lt (by omega) e3] at z4; exact z4 e2
  rcases h with ⟨a1, i, L, w, a2, a3, a4, a5, a6, a7, a8⟩ | ⟨a1, a2, a3, a4, a5⟩ | ⟨a1, a2, a3⟩ <;> rcases h' with ⟨b1, j, L', w', b2, b3, b4, b5, b6, b7, b8⟩ | ⟨b1, b2, b3, b4, b5⟩ | ⟨b1, b2, b3⟩
  · have eL := isD_n a4 b4 a5 b5
    subst eL
    have e : i = j := by rw [a2, z_eq (by omega) (by omega)] at b2; exact b2
    subst e
    exact ⟨by rw [a7, b7, rowP.uq a6 b6 i a3], by omega⟩
  · exact (n2 L a4 a5 b5).elim
  · exact absurd b3 (key i L w a2 a3 a4 a5 a1)
  · exact (n2 L' b4 b5 a5).elim
  · exact ⟨by rw [a1, b1], by omega⟩
  · rcases b3 with z | z | ⟨L, z1, z2, -⟩
    · rw [a3] at z; cases z
    · exact absurd a4 z
    · exact (n2 L z1 z2 a5).elim
  · exact absurd a3 (key j L' w' b2 b3 b4 b5 b1)
  · rcases a3 with z | z | ⟨L, z1, z2, -⟩
    · rw [b3] at z; cases z
    · exact absurd b4 z
    · exact (n2 L z1 z2 b5).elim
  · exact ⟨by rw [a1, b1], by omega⟩
