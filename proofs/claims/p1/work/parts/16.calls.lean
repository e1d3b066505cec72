/-! calls: what lies outside the program, the program's methods, how deep -/
/-- the class's led; where it throws, it ends with nothing -/
def bk_led : List mmB := [
  (0, [true, true, false, false], [(.iconst 0, 1, 0, 0, 0, 0, 0), (.istore_n 2, 1, 0, 0, 0, 0, 0), (.iconst 0, 1, 0, 0, 0, 0, 0), (.istore_n 3, 1, 0, 0, 0, 0, 0)]),
  (4, [true, true, true, true], [(.aload_n 0, 1, 0, 0, 0, 0, 0), (.getfield 70, 3, 9, 1, 0, 0, 0), (.ifCond .eq 54, 3, 62, 0, 0, 0, 0), (.iload_n 3, 1, 0, 0, 0, 0, 0), (.aload_n 0, 1, 0, 0, 0, 0, 0), (.getfield 19, 3, 9, 2, 2, 0, 0), (.getfield 59, 3, 0, 0, 3, 0, 0), (.getfield 93, 3, 1, 0, 2, 0, 0), (.getfield 272, 3, 5, 3, 0, 0, 0), (.if_icmp .ge 37, 3, 62, 0, 0, 0, 0), (.aload_n 0, 1, 0, 0, 0, 0, 0), (.getfield 19, 3, 9, 2, 2, 0, 0), (.aload_n 0, 1, 0, 0, 0, 0, 0), (.getfield 26, 3, 9, 3, 2, 0, 0), (.getfield 148, 3, 4, 0, 0, 0, 0), (.iload_n 3, 1, 0, 0, 0, 0, 0), (.invokevirtual 176, 3, 20, 3, 1, 0, 0), (.ifCond .ne 13, 3, 56, 0, 0, 0, 0), (.iload_n 2, 1, 0, 0, 0, 0, 0), (.iload_n 1, 1, 0, 0, 0, 0, 0), (.if_icmp .ne 5, 3, 53, 0, 0, 0, 0), (.iload_n 3, 1, 0, 0, 0, 0, 0), (.ireturn, 1, 0, 0, 0, 0, 0)]),
  (53, [true, true, true, true], [(.iinc 2 1, 3, 0, 0, 0, 1, 0)]),
  (56, [true, true, true, true], [(.iinc 3 1, 3, 0, 0, 0, 1, 0), (.goto (-55), 3, 4, 0, 0, 0, 0)]),
  (62, [false, false, false, false], [(.return_, 1, 0, 0, 0, 0, 0)])
]
def mm_zr (lo hi : Nat) (I : mmI) : mmI := fun q => if lo ≤ q ∧ q < hi then (fun _ => 0) else I q
/-- a part that is made when it is first asked for: flag k, its first cell, its cells and slots, its cells' numbers -/
def mm_lz (k f n z lo hi : Nat) (σ : mmS) (Q : mmQ) : Prop := match σ.1.1 k with
  | true => Q (some (.ref f)) σ
  | false => n ≤ σ.1.2.1 ∧ z ≤ σ.1.2.2.1 ∧ ∀ ad' : Nat → Nat, (∀ r, r < lo ∨ hi ≤ r → ad' r = σ.1.2.2.2.2.2 r) → Q (some (.ref f)) (((fun j => if j = k then true else σ.1.1 j), σ.1.2.1 - n, σ.1.2.2.1 - z, σ.1.2.2.2.1, σ.1.2.2.2.2.1, ad'), mm_zr lo hi σ.2.1, σ.2.2)
/-- the law's led: what the class's led answers goes into the law's row, or it throws -/
def mm_led (C : mmCall) (i : Int32) (σ : mmS) (Q : mmQ) : Prop := C 1000 [.int 0] σ (fun _ _ => True) ∧ 1 ≤ σ.1.2.1 ∧ 6 ≤ σ.1.2.2.1 ∧ mm_w (fun v τ => (τ.1.2.2.2.2.2 = σ.1.2.2.2.2.2 ∧ τ.1.2.1 = 1 ∧ τ.1.2.2.1 = 6) ∧ match v with
  | some (.int x) => Q (some (.int 0)) ((τ.1.1, σ.1.2.1 - 1, σ.1.2.2.1 - 6, τ.1.2.2.2), τ.2.1, mm_upJ τ.2.2 65 0 x.toInt64)
  | none => Q (some (.int 1)) ((τ.1.1, σ.1.2.1 - 1, σ.1.2.2.1 - 6, τ.1.2.2.2), τ.2.1, τ.2.2)
  | _ => False) C bk_led 0 [some (.ref 0), some (.int i), none, none] [] (mm_bud σ 1 6)
def mm_ext (C : mmCall) (c : Nat) (args : List Value) (σ : mmS) (Q : mmQ) : Prop := match c, args with
  | 1000, [.int x] => Q (some (.int (if 0 ≤ x then x else 0 - x))) σ
  | 1001, [.int x, .int y] => Q (some (.int (if x < y then y else x))) σ
  | 1002, [.int x, .int y] => Q (some (.int (if y < x then y else x))) σ
  | 1003, [.ref r0, .int sp, .ref r1, .int dp, .int n] => match Nat.beq r1 r0 with
    | false => False
    | true => mm_at σ.1 r0 fun kd k _ => match kd with
      | 20 => ¬ sp < 0 ∧ ¬ dp < 0 ∧ ¬ n < 0 ∧ sp.toNatClampNeg + n.toNatClampNeg ≤ k ∧ dp.toNatClampNeg + n.toNatClampNeg ≤ k ∧ Q none (σ.1, mm_row σ.2.1 r0 (va_cpy (σ.2.1 r0) (σ.2.1 r0) sp.toNatClampNeg dp.toNatClampNeg n.toNatClampNeg), σ.2.2)
      | _ => False
  | 1004, [.ref r] => match mm_T[r]? with
    | some (_, 40, n, _) => Q (some (.int (nI n))) σ
    | _ => False
  | 1005, [.ref r, .int i] => match mm_T[r]? with
    | some (_, 40, n, _) => vp_in i n ∧ Q (some (.int ((mm_sb.getD (r - 98) []).getD i.toNatClampNeg 0))) σ
    | _ => False
  | 1010, [.ref 0] => mm_lz 0 70 11 53657 70 81 σ Q
  | 1011, [.ref 0] => mm_lz 1 81 15 35028 81 96 σ Q
  | 1012, [.ref 0] => mm_lz 2 96 2 322 96 98 σ Q
  | 1013, [.ref 0, .int i, .ref 65] => mm_led C i σ Q
  | _, _ => False
def mm_ent : List Value → mmL
  | [] => []
  | v :: r => if v.category = 2 then some v :: none :: mm_ent r else some v :: mm_ent r
def mm_loc (n : Nat) (vs : List Value) : mmL := mm_ent vs ++ List.replicate (n - (mm_ent vs).length) none
/-- the arguments fit: their number, their words, the receiver's class -/
def mm_rcv (m : mmM) (vs : List Value) (σ : mmS) : Bool := Nat.beq vs.length m.2.2.2.2.2.2.1 && Nat.ble (mm_ent vs).length m.2.2.1 && (m.2.2.2.2.2.1 || match vs with
  | .ref r :: _ => match mm_T[r]? with
    | some (reg, kd, _, _) => Nat.beq kd m.2.2.2.2.1 && mm_lv σ.1 reg
    | none => false
  | _ => false)
def mm_wc : Nat → mmCall
  | 0 => fun _ _ _ _ => False
  | d + 1 => fun c vs σ Q => match mm_P[c]? with
    | some m => mm_rcv m vs σ = true ∧ mm_w Q (mm_wc d) m.2.2.2.2.2.2.2 0 (mm_loc m.2.2.1 vs) [] σ
    | none => mm_ext (mm_wc d) c vs σ Q
theorem mm_lz_mono {k f n z lo hi : Nat} {σ : mmS} {Q Q' : mmQ} (h : ∀ v τ, Q v τ → Q' v τ) : mm_lz k f n z lo hi σ Q → mm_lz k f n z lo hi σ Q' := by
  unfold mm_lz; split
  · exact h _ _
  · exact fun ⟨a, b, c⟩ => ⟨a, b, fun ad' q => h _ _ (c ad' q)⟩
theorem mm_led_mono {C C' : mmCall} (hC : ∀ a args σ Q, C a args σ Q → C' a args σ Q) (hm : mm_mono C) {i : Int32} {σ : mmS} {Q Q' : mmQ} (h : ∀ v τ, Q v τ → Q' v τ) : mm_led C i σ Q → mm_led C' i σ Q' := by
  rintro ⟨z, a, b, c⟩
  refine ⟨hC _ _ _ _ z, a, b, mm_w_mono ?_ hC hm c⟩
  rintro v τ ⟨e1, e2⟩
  refine ⟨e1, ?_⟩
  revert e2
  split <;> first | exact h _ _ | exact id
theorem mm_ext_mono {C C' : mmCall} (hC : ∀ a args σ Q, C a args σ Q → C' a args σ Q) (hm : mm_mono C) {c : Nat} {vs : List Value} {σ : mmS} {Q Q' : mmQ} (h : ∀ v τ, Q v τ → Q' v τ) : mm_ext C c vs σ Q → mm_ext C' c vs σ Q' := by
  unfold mm_ext
  split <;> first
    | exact h _ _
    | exact mm_lz_mono h
    | exact mm_led_mono hC hm h
    | exact id
    | (split <;> first
        | exact h _ _
        | exact id
        | exact fun q => ⟨q.1, h _ _ q.2⟩
        | (refine mm_at_mono fun kd k rf => ?_; split
           · exact fun ⟨a, b, c, d, e, f⟩ => ⟨a, b, c, d, e, h _ _ f⟩
           · exact id))
theorem mm_wc_mono : ∀ d, mm_mono (mm_wc d)
  | 0 => fun _ _ _ _ _ _ h => h.elim
  | d + 1 => fun c vs σ Q Q' h => by
    show (match mm_P[c]? with | some m => _ | none => _) → (match mm_P[c]? with | some m => _ | none => _)
    split
    · exact fun q => ⟨q.1, mm_w_mono h (fun _ _ _ _ z => z) (mm_wc_mono d) q.2⟩
    · exact mm_ext_mono (fun _ _ _ _ z => z) (mm_wc_mono d) h
theorem mm_wc_succ : ∀ (d : Nat) (c : Nat) (vs : List Value) (σ : mmS) (Q : mmQ), mm_wc d c vs σ Q → mm_wc (d + 1) c vs σ Q
  | 0, _, _, _, _, h => h.elim
  | d + 1, c, vs, σ, Q, h => by
    revert h
    show (match mm_P[c]? with | some m => _ | none => _) → (match mm_P[c]? with | some m => _ | none => _)
    split
    · exact fun q => ⟨q.1, mm_w_mono (fun _ _ z => z) (mm_wc_succ d) (mm_wc_mono d) q.2⟩
    · exact mm_ext_mono (mm_wc_succ d) (mm_wc_mono d) (fun _ _ z => z)
theorem mm_wc_le {d d' : Nat} (h : d ≤ d') {c : Nat} {vs : List Value} {σ : mmS} {Q : mmQ} (q : mm_wc d c vs σ Q) : mm_wc d' c vs σ Q := by
  induction h with
  | refl => exact q
  | step _ ih => exact mm_wc_succ _ _ _ _ _ ih
