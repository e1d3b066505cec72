/-! one call on a fresh object -/
/- needs: 0 1 20 21 22 23 24 25 26 27 28 29 30 32 40 41 42 -/
theorem mm_tk {c d A B : Prop} (hd : ¬ d) (h : A) : (c → A) ∧ (d → B) := ⟨fun _ => h, fun q => absurd q hd⟩
theorem mm_el {c d A B : Prop} (hc : ¬ c) (h : B) : (c → A) ∧ (d → B) := ⟨fun q => absurd q hc, fun _ => h⟩
theorem mm_both {c d A B : Prop} (h1 : c → A) (h2 : d → B) : (c → A) ∧ (d → B) := ⟨h1, h2⟩
theorem mm_ob {P A : Prop} (h : P) (k : A) : P ∧ A := ⟨h, k⟩
theorem mm_iv (n : Nat) {A : Bool} {R : mmQ} {d : Nat} {bs : List mmB} {pc : Nat} {ls : mmL} {st : List Value} {σ : mmS} (hr : A = true) (h : mm_k (mm_u R (mm_wc d) bs [] n) R (mm_wc d) bs pc ls st σ) : A = true ∧ mm_w R (mm_wc d) bs pc ls st σ := ⟨hr, mm_go [] n h⟩
theorem mm_e1 {c s : Nat} {F : Nat → Nat → Prop} (h : F 0 0) : ∃ x y, x ≤ c ∧ y ≤ s ∧ F x y := ⟨0, 0, Nat.zero_le _, Nat.zero_le _, h⟩
theorem mm_e2 {c s : Nat} {F : Nat → Nat → Prop} (h1 : 1 ≤ c) (h2 : 6 ≤ s) (h : F 1 6) : ∃ x y, x ≤ c ∧ y ≤ s ∧ F x y := ⟨1, 6, h1, h2, h⟩
theorem mm_l4 {A B C D : Prop} (a : A) (b : B) (c : C) (d : D) : A ∧ B ∧ C ∧ D := ⟨a, b, c, d⟩
theorem mm_q0 {A : Prop} (h : A) : (none : Option Value) = none ∧ A := ⟨rfl, h⟩
theorem mm_q1 {r : Int32} {P : Int32 → Prop} (h : P r) : ∃ r', (some (Value.int r) : Option Value) = some (Value.int r') ∧ P r' := ⟨r, rfl, h⟩
theorem mm_q2 {r : Int64} {P : Int64 → Prop} (h : P r) : ∃ r', (some (Value.long r) : Option Value) = some (Value.long r') ∧ P r' := ⟨r, rfl, h⟩
theorem mm_swi {x : Int32} {lo hi off : Int} {offs : Array Int} {A : Prop} {B : Int → Prop} (h1 : ¬ x.toInt < lo) (h2 : ¬ hi < x.toInt) (h3 : offs[(x.toInt - lo).toNat]? = some off) (k : B off) : (x.toInt < lo ∨ hi < x.toInt → A) ∧ ∀ off, ¬ x.toInt < lo → ¬ hi < x.toInt → offs[(x.toInt - lo).toNat]? = some off → B off :=
  ⟨fun q => absurd q (fun q => q.elim h1 h2), fun o _ _ h => by cases Option.some.inj (h3.symm.trans h); exact k⟩
theorem mm_swo {x : Int32} {lo hi : Int} {offs : Array Int} {A : Prop} {B : Int → Prop} (h : x.toInt < lo ∨ hi < x.toInt) (k : A) : (x.toInt < lo ∨ hi < x.toInt → A) ∧ ∀ off, ¬ x.toInt < lo → ¬ hi < x.toInt → offs[(x.toInt - lo).toNat]? = some off → B off :=
  ⟨fun _ => k, fun o h1 h2 _ => absurd h (fun q => q.elim h1 h2)⟩
def mm_xat (xs : Nat → Int32) (k : Nat) (v : Int32) : Nat → Int32 := fun j => bif Nat.beq j k then v else xs j
theorem mm_xat_eq {xs : Nat → Int32} {k : Nat} {v : Int32} (h : xs k = v) : mm_xat xs k v = xs := by
  funext j
  unfold mm_xat
  cases hj : Nat.beq j k with
  | true => have := Nat.eq_of_beq_eq_true hj; subst this; exact h.symm
  | false => rfl
theorem li_0 : (0 : Int32).toInt = 0 := rfl
theorem li_1 : (900 : Int32).toInt = 900 := rfl
theorem li_2 : (-1 : Int32).toInt = -1 := rfl
theorem li_3 : (10 : Int32).toInt = 10 := rfl
theorem li_4 : (7 : Int32).toInt = 7 := rfl
theorem li_5 : (8 : Int32).toInt = 8 := rfl
theorem li_6 : (1 : Int32).toInt = 1 := rfl
theorem li_7 : (2 : Int32).toInt = 2 := rfl
theorem li_8 : (3 : Int32).toInt = 3 := rfl
theorem li_9 : (4 : Int32).toInt = 4 := rfl
theorem li_10 : (5 : Int32).toInt = 5 := rfl
theorem li_11 : (6 : Int32).toInt = 6 := rfl
theorem li_12 : (9 : Int32).toInt = 9 := rfl
theorem li_13 : (11 : Int32).toInt = 11 := rfl
theorem li_14 : (12 : Int32).toInt = 12 := rfl
theorem li_15 : (16 : Int32).toInt = 16 := rfl
