/-! answers are one (3) -/
section UB
variable {K : Nat → Nat} {P P1 P2 : zP} {x y w v v' : Int32} {to : Bool} {t t' : Nat} {T T1 T2 : zT}
theorem va_candle_uq (ok : okR K) (h : va_candle K x w v) (h' : va_candle K x w v') : v = v' := by
  have h3 := ok.c
  obtain ⟨c, j, a1, a2, a3, a4, a5⟩ := h
  obtain ⟨c', j', b1, b2, b3, b4, b5⟩ := h'
  have e1 := nIu (by omega) (by omega) a2 b2
  have e2 := nIu (by omega) (by omega) a4 b4
  subst e1; subst e2; rw [a5, b5]
theorem va_fan_uq (ok : okR K) (h : va_fan K x v) (h' : va_fan K x v') : v = v' := by
  have hB := nB_le ok
  obtain ⟨c, a1, a2, a3⟩ := h
  obtain ⟨c', b1, b2, b3⟩ := h'
  have e1 := nIu (by omega) (by omega) a2 b2
  subst e1; rw [a3, b3]
theorem va_breath_uq (ok : okR K) (h : va_breath K x y w v) (h' : va_breath K x y w v') : v = v' := by
  have h4 := ok.p
  have h6 := ok.h
  obtain ⟨c, d, j, a1, a2, a3, a4, a5, a6, a7⟩ := h
  obtain ⟨c', d', j', b1, b2, b3, b4, b5, b6, b7⟩ := h'
  have e1 := nIu (by omega) (by omega) a2 b2
  have e2 := nIu (by omega) (by omega) a4 b4
  have e3 := nIu (by omega) (by omega) a6 b6
  subst e1; subst e2; subst e3; rw [a7, b7]
theorem va_breathOf_uq (ok : okR K) (h : va_breathOf K x w v) (h' : va_breathOf K x w v') : v = v' := by
  have hB := nB_le ok
  obtain ⟨c, j, a1, a2, a3, a4, a5⟩ := h
  obtain ⟨c', j', b1, b2, b3, b4, b5⟩ := h'
  have e1 := nIu (by omega) (by omega) a2 b2
  have e2 := nIu (by omega) (by omega) a4 b4
  subst e1; subst e2; rw [a5, b5]
theorem va_lights_uq {it : Bool} (ok : okR K) (h : va_lights K x it v) (h' : va_lights K x it v') : v = v' := by
  have h3 := ok.c
  obtain ⟨c, a1, a2, a3⟩ := h
  obtain ⟨c', b1, b2, b3⟩ := h'
  have e1 := nIu (by omega) (by omega) a2 b2
  subst e1; rw [a3, b3]
theorem va_from_uq (ok : okR K) (h : va_from K P x v) (h' : va_from K P x v') : v = v' := by
  have h4 := ok.p
  obtain ⟨c, a1, a2, a3⟩ := h
  obtain ⟨c', b1, b2, b3⟩ := h'
  have e1 := nIu (by omega) (by omega) a2 b2
  subst e1; exact a3.uq b3
theorem va_by_uq (ok : okR K) (h : va_by K P x v) (h' : va_by K P x v') : v = v' := by
  have h4 := ok.h
  obtain ⟨c, a1, a2, a3⟩ := h
  obtain ⟨c', b1, b2, b3⟩ := h'
  have e1 := nIu (by omega) (by omega) a2 b2
  subst e1; exact a3.uq b3
theorem va_inTime_uq (h : va_inTime K P v) (h' : va_inTime K P v') : v = v' := by
  obtain ⟨r, a1, a2⟩ := h
  obtain ⟨r', b1, b2⟩ := h'
  have e1 := a1.uq b1
  subst e1; rw [a2, b2]
theorem va_more_uq (ok : okR K) (h : va_more K P x v) (h' : va_more K P x v') : v = v' := by
  have h4 := ok.s
  obtain ⟨c, a1, a2, a3⟩ := h
  obtain ⟨c', b1, b2, b3⟩ := h'
  have e1 := nIu (by omega) (by omega) a2 b2
  subst e1; exact a3.uq b3
theorem va_soonest_uq (ok : okR K) (h : va_soonest K P x v) (h' : va_soonest K P x v') : v = v' := by
  have h4 := ok.c
  obtain ⟨c, a1, a2, a3⟩ := h
  obtain ⟨c', b1, b2, b3⟩ := h'
  have e1 := nIu (by omega) (by omega) a2 b2
  subst e1; exact a3.uq b3
theorem va_less_uq (ok : okR K) (h : va_less K P x y v) (h' : va_less K P x y v') : v = v' := by
  have h3 := ok.c
  have h4 := ok.p
  have h6 := ok.h
  have n : ∀ i j : Nat, i < 3 → j < 3 → x = nI i → x = nI j → i = j := fun i j hi hj a b => nIu (by omega) (by omega) a b
  rcases h with ⟨c, a1, a2, a3, a4⟩ | ⟨c, a1, a2, a3, a4⟩ | ⟨c, a1, a2, a3, a4⟩ <;> rcases h' with ⟨c', b1, b2, b3, b4⟩ | ⟨c', b1, b2, b3, b4⟩ | ⟨c', b1, b2, b3, b4⟩
  · have e1 := nIu (by omega) (by omega) a3 b3
    subst e1; exact a4.uq b4
  · exact absurd (n _ _ (by decide) (by decide) a2 b2) (by decide)
  · exact absurd (n _ _ (by decide) (by decide) a2 b2) (by decide)
  · exact absurd (n _ _ (by decide) (by decide) a2 b2) (by decide)
  · have e1 := nIu (by omega) (by omega) a3 b3
    subst e1; exact a4.uq b4
  · exact absurd (n _ _ (by decide) (by decide) a2 b2) (by decide)
  · exact absurd (n _ _ (by decide) (by decide) a2 b2) (by decide)
  · exact absurd (n _ _ (by decide) (by decide) a2 b2) (by decide)
  · have e1 := nIu (by omega) (by omega) a3 b3
    subst e1; exact a4.uq b4
theorem ra_gain_uq (hB : to = true → nB K ≤ 320) (h : ra_gain to K P x v t) (h' : ra_gain to K P x v' t') : v = v' ∧ t = t' := by
  rcases h with ⟨a1, ⟨c, a2, a3, a4⟩, a5⟩ | ⟨a1, a2, a3⟩ <;> rcases h' with ⟨b1, ⟨c', b2, b3, b4⟩, b5⟩ | ⟨b1, b2, b3⟩
  · have := hB a1
    have e1 := nIu (by omega) (by omega) a3 b3
    subst e1; exact ⟨by rw [a4, b4], by omega⟩
  · exact absurd ⟨a1, c, a2, a3⟩ b1
  · exact absurd ⟨b1, c', b2, b3⟩ a1
  · exact ⟨by rw [a2, b2], by omega⟩
theorem va_greedy_uq (h : va_greedy K P v) (h' : va_greedy K P v') : v = v' := by
  obtain ⟨r, a1, a2⟩ := h
  obtain ⟨r', b1, b2⟩ := h'
  have e1 := a1.uq b1
  subst e1; rw [a2, b2]
theorem va_gEnd_uq (h : va_gEnd K P v) (h' : va_gEnd K P v') : v = v' := by
  obtain ⟨r, a1, a2⟩ := h
  obtain ⟨r', b1, b2⟩ := h'
  have e1 := a1.uq b1
  subst e1; rw [a2, b2]
theorem ra_blow_uq (hB : to = true → nB K ≤ 320) (h : ra_blow to K P x v P1 t) (h' : ra_blow to K P x v' P2 t') : v = v' ∧ P1 = P2 ∧ t = t' := by
  rcases h with ⟨c, a1, a2, a3, a4, a5, a6⟩ | ⟨a1, a2, a3, a4⟩ <;> rcases h' with ⟨c', b1, b2, b3, b4, b5, b6⟩ | ⟨b1, b2, b3, b4⟩
  · have := hB a1
    have e1 := nIu (by omega) (by omega) a3 b3
    subst e1; exact ⟨by rw [a4, b4], by rw [a5, b5], by omega⟩
  · exact absurd ⟨a1, c, a2, a3⟩ b1
  · exact absurd ⟨b1, c', b2, b3⟩ a1
  · exact ⟨by rw [a2, b2], by rw [a3, b3], by omega⟩
theorem ra_light_uq (hB : to = true → K 3 ≤ 10) (h : ra_light to K P x v P1 t) (h' : ra_light to K P x v' P2 t') : v = v' ∧ P1 = P2 ∧ t = t' := by
  rcases h with ⟨c, a1, a2, a3, a4, a5, a6, a7⟩ | ⟨c, a1, a2, a3, a4, a5, a6, a7⟩ | ⟨a1, a2, a3, a4⟩ <;> rcases h' with ⟨c', b1, b2, b3, b4, b5, b6, b7⟩ | ⟨c', b1, b2, b3, b4, b5, b6, b7⟩ | ⟨b1, b2, b3, b4⟩
  · have := hB a1
    have e1 := nIu (by omega) (by omega) a3 b3
    subst e1; exact ⟨by rw [a5, b5], by rw [a6, b6], by omega⟩
  · have := hB a1
    have e1 := nIu (by omega) (by omega) a3 b3
    subst e1; rw [a4] at b4; cases b4
  · exact absurd ⟨a1, c, a2, a3⟩ b1
  · have := hB a1
    have e1 := nIu (by omega) (by omega) a3 b3
    subst e1; rw [a4] at b4; cases b4
  · exact ⟨by rw [a5, b5], by rw [a6, b6], by omega⟩
  · exact absurd ⟨a1, c, a2, a3⟩ b1
  · exact absurd ⟨b1, c', b2, b3⟩ a1
  · exact absurd ⟨b1, c', b2, b3⟩ a1
  · exact ⟨by rw [a2, b2], by rw [a3, b3], by omega⟩
theorem ra_all_uq (h : ra_all to K P v P1 t) (h' : ra_all to K P v' P2 t') : v = v' ∧ P1 = P2 ∧ t = t' := by
  rcases h with ⟨a1, a2, a3, a4⟩ | ⟨a1, a2, a3, a4⟩ <;> rcases h' with ⟨b1, b2, b3, b4⟩ | ⟨b1, b2, b3, b4⟩
  · exact ⟨by rw [a2, b2], by rw [a3, b3], by omega⟩
  · rw [a1] at b1; cases b1
  · rw [a1] at b1; cases b1
  · exact ⟨by rw [a2, b2], by rw [a3, b3], by omega⟩
theorem ra_undo_uq (h : ra_undo P v P1 t) (h' : ra_undo P v' P2 t') : v = v' ∧ P1 = P2 ∧ t = t' := by
  rcases h with ⟨a1, a2, a3, a4⟩ | ⟨a1, a2, a3, a4⟩ <;> rcases h' with ⟨b1, b2, b3, b4⟩ | ⟨b1, b2, b3, b4⟩
  · exact ⟨by rw [a2, b2], by rw [a3, b3], by omega⟩
  · exact absurd b1 a1
  · exact absurd a1 b1
  · exact ⟨by rw [a2, b2], by rw [a3, b3], by omega⟩
theorem ra_image_uq (h : ra_image to P v P1 t) (h' : ra_image to P v' P2 t') : v = v' ∧ P1 = P2 ∧ t = t' := by
  rcases h with ⟨a1, a2, a3, a4, a5⟩ | ⟨a1, a2, a3, a4, a5⟩ | ⟨a1, a2, a3, a4⟩ <;> rcases h' with ⟨b1, b2, b3, b4, b5⟩ | ⟨b1, b2, b3, b4, b5⟩ | ⟨b1, b2, b3, b4⟩
  · exact ⟨by rw [a3, b3], by rw [a4, b4], by omega⟩
  · exact absurd b2 a2
  · rw [a1] at b1; cases b1
  · exact absurd a2 b2
  · exact ⟨by rw [a3, b3], by rw [a4, b4], by omega⟩
  · rw [a1] at b1; cases b1
  · rw [a1] at b1; cases b1
  · rw [a1] at b1; cases b1
  · exact ⟨by rw [a2, b2], by rw [a3, b3], by omega⟩
theorem ra_back_uq (hI : P.2.2.2.1 ≤ 3) (h : ra_back P x v P1 t) (h' : ra_back P x v' P2 t') : v = v' ∧ P1 = P2 ∧ t = t' := by
  rcases h with ⟨c, a1, a2, a3, a4, a5⟩ | ⟨a1, a2, a3, a4⟩ <;> rcases h' with ⟨c', b1, b2, b3, b4, b5⟩ | ⟨b1, b2, b3, b4⟩
  · have e1 := nIu (by omega) (by omega) a2 b2
    subst e1; exact ⟨by rw [a3, b3], by rw [a4, b4], by omega⟩
  · exact absurd ⟨c, a1, a2⟩ b1
  · exact absurd ⟨c', b1, b2⟩ a1
  · exact ⟨by rw [a2, b2], by rw [a3, b3], by omega⟩
end UB
