/-! the small machine is monotone: more may be asked of what comes behind -/
theorem mm_ldI_mono {ls : mmL} {n : Nat} {k k' : Int32 → Prop} (h : ∀ x, k x → k' x) : mm_ldI ls n k → mm_ldI ls n k' := by
  unfold mm_ldI; split
  · exact h _
  · exact id
theorem mm_ldL_mono {ls : mmL} {n : Nat} {k k' : Int64 → Prop} (h : ∀ x, k x → k' x) : mm_ldL ls n k → mm_ldL ls n k' := by
  unfold mm_ldL; split
  · exact h _
  · exact id
theorem mm_ldA_mono {ls : mmL} {n : Nat} {k k' : Nat → Prop} (h : ∀ x, k x → k' x) : mm_ldA ls n k → mm_ldA ls n k' := by
  unfold mm_ldA; split
  · exact h _
  · exact id
theorem mm_st1_mono {ls : mmL} {n : Nat} {v : Value} {k k' : mmL → Prop} (h : ∀ x, k x → k' x) : mm_st1 ls n v k → mm_st1 ls n v k' := by
  unfold mm_st1; split
  · exact h _
  · exact id
theorem mm_st2_mono {ls : mmL} {n : Nat} {v : Value} {k k' : mmL → Prop} (h : ∀ x, k x → k' x) : mm_st2 ls n v k → mm_st2 ls n v k' := by
  unfold mm_st2; split
  · exact h _
  · exact id
theorem mm_p1_mono {st : List Value} {k k' : Int32 → List Value → Prop} (h : ∀ x r, k x r → k' x r) : mm_p1 st k → mm_p1 st k' := by
  unfold mm_p1; split
  · exact h _ _
  · exact id
theorem mm_p2_mono {st : List Value} {k k' : Int32 → Int32 → List Value → Prop} (h : ∀ x y r, k x y r → k' x y r) : mm_p2 st k → mm_p2 st k' := by
  unfold mm_p2; split
  · exact h _ _ _
  · exact id
theorem mm_l1_mono {st : List Value} {k k' : Int64 → List Value → Prop} (h : ∀ x r, k x r → k' x r) : mm_l1 st k → mm_l1 st k' := by
  unfold mm_l1; split
  · exact h _ _
  · exact id
theorem mm_l2_mono {st : List Value} {k k' : Int64 → Int64 → List Value → Prop} (h : ∀ x y r, k x y r → k' x y r) : mm_l2 st k → mm_l2 st k' := by
  unfold mm_l2; split
  · exact h _ _ _
  · exact id
theorem mm_a1_mono {st : List Value} {k k' : Nat → List Value → Prop} (h : ∀ x r, k x r → k' x r) : mm_a1 st k → mm_a1 st k' := by
  unfold mm_a1; split
  · exact h _ _
  · exact id
theorem mm_at_mono {g : mmG} {r : Nat} {k k' : Nat → Nat → List Nat → Prop} (h : ∀ x y z, k x y z → k' x y z) : mm_at g r k → mm_at g r k' := by
  unfold mm_at; split
  · split
    · exact h _ _ _
    · exact id
  · exact id
theorem mm_gf_mono {r a b c : Nat} {rest : List Value} {σ : mmS} {k k' : List Value → Prop} (h : ∀ x, k x → k' x) : mm_gf r a b c rest σ k → mm_gf r a b c rest σ k' := by
  unfold mm_gf; refine mm_at_mono fun kd n rf => ?_; split
  · exact id
  · split <;> first | exact h _ | exact id
theorem mm_pf_mono {r a b c : Nat} {v : Value} {σ : mmS} {k k' : mmS → Prop} (h : ∀ x, k x → k' x) : mm_pf r a b c v σ k → mm_pf r a b c v σ k' := by
  unfold mm_pf; refine mm_at_mono fun kd n rf => ?_; split
  · exact id
  · split <;> first | exact h _ | exact fun q => ⟨q.1, h _ q.2⟩ | exact id
theorem mm_ild_mono {w r : Nat} {i : Int32} {σ : mmS} {k k' : Int32 → Prop} (h : ∀ x, k x → k' x) : mm_ild w r i σ k → mm_ild w r i σ k' := by
  unfold mm_ild; refine mm_at_mono fun kd n rf => ?_; split <;> first | exact fun q => ⟨q.1, h _ q.2⟩ | exact id
theorem mm_ist_mono {w r : Nat} {i x : Int32} {σ : mmS} {k k' : mmS → Prop} (h : ∀ x, k x → k' x) : mm_ist w r i x σ k → mm_ist w r i x σ k' := by
  unfold mm_ist; refine mm_at_mono fun kd n rf => ?_; split <;> first | exact fun q => ⟨q.1, h _ q.2⟩ | exact fun q => ⟨q.1, q.2.1, h _ q.2.2⟩ | exact id
theorem mm_lld_mono {r : Nat} {i : Int32} {σ : mmS} {k k' : Int64 → Prop} (h : ∀ x, k x → k' x) : mm_lld r i σ k → mm_lld r i σ k' := by
  unfold mm_lld; refine mm_at_mono fun kd n rf => ?_; split <;> first | exact fun q => ⟨q.1, h _ q.2⟩ | exact id
theorem mm_lst_mono {r : Nat} {i : Int32} {x : Int64} {σ : mmS} {k k' : mmS → Prop} (h : ∀ x, k x → k' x) : mm_lst r i x σ k → mm_lst r i x σ k' := by
  unfold mm_lst; refine mm_at_mono fun kd n rf => ?_; split <;> first | exact fun q => ⟨q.1, h _ q.2⟩ | exact id
theorem mm_ald_mono {r : Nat} {i : Int32} {σ : mmS} {k k' : Nat → Prop} (h : ∀ x, k x → k' x) : mm_ald r i σ k → mm_ald r i σ k' := by
  unfold mm_ald; refine mm_at_mono fun kd n rf => ?_; split <;> first | exact fun q => ⟨q.1, h _ q.2⟩ | exact id
theorem mm_len_mono {r : Nat} {σ : mmS} {k k' : Int32 → Prop} (h : ∀ x, k x → k' x) : mm_len r σ k → mm_len r σ k' := by
  unfold mm_len; refine mm_at_mono fun kd n rf => ?_; split <;> first | exact h _ | exact id
theorem mm_ret_mono {c : Nat} {rest : List Value} {k k' : List Value → mmS → Prop} (h : ∀ s τ, k s τ → k' s τ) : ∀ v τ, mm_ret c rest k v τ → mm_ret c rest k' v τ := by
  intro v τ; unfold mm_ret; split <;> first | exact fun q => ⟨q.1, h _ _ q.2⟩ | exact fun ⟨r, q1, q2⟩ => ⟨r, q1, h _ _ q2⟩ | exact id
theorem mm_inv_mono {C C' : mmCall} (hC : ∀ a args σ Q, C a args σ Q → C' a args σ Q) (hm : mm_mono C) {a b c : Nat} {mode : Int32} {ls : mmL} {st : List Value} {σ : mmS} {k k' : List Value → mmS → Prop} (h : ∀ s τ, k s τ → k' s τ) : mm_inv C a b c mode ls st σ k → mm_inv C' a b c mode ls st σ k' := by
  unfold mm_inv; split
  · exact id
  · split
    · exact fun q => hC _ _ _ _ (hm _ _ _ _ _ (mm_ret_mono fun s τ z => ⟨z.1, h _ _ z.2⟩) q)
    · split
      · exact id
      · exact fun ⟨x, y, q1, q2, q3⟩ => ⟨x, y, q1, q2, hC _ _ _ _ (hm _ _ _ _ _ (mm_ret_mono fun s τ => h _ _) q3)⟩
theorem mm_if_mono {cd : Jvm.ClassFile.Cond} {x y : Int32} {A B A' B' : Prop} (hA : A → A') (hB : B → B') : mm_if cd x y A B → mm_if cd x y A' B' := by
  cases cd <;> exact fun q => ⟨fun c => hA (q.1 c), fun c => hB (q.2 c)⟩
theorem mm_x_mono {K K' : Nat → mmK} {R R' : mmQ} {C C' : mmCall} {k k' : mmK} (hK : ∀ pc ls st σ, K pc ls st σ → K' pc ls st σ) (hR : ∀ v σ, R v σ → R' v σ) (hC : ∀ a args σ Q, C a args σ Q → C' a args σ Q) (hm : mm_mono C)
    (hk : ∀ ls st σ, k ls st σ → k' ls st σ) {pc : Nat} {q : mmE} {ls : mmL} {st : List Value} {σ : mmS} (h : mm_x K R C pc q k ls st σ) : mm_x K' R' C' pc q k' ls st σ := by
  obtain ⟨i, n, a, b, c, v, w⟩ := q
  cases i <;> dsimp only [mm_x] at h ⊢ <;> first
    | exact hk _ _ _ h
    | exact hK _ _ _ _ h
    | exact mm_ldI_mono (fun x => hk _ _ _) h
    | exact mm_ldL_mono (fun x => hk _ _ _) h
    | exact mm_ldA_mono (fun x => hk _ _ _) h
    | exact mm_p1_mono (fun x r => mm_st1_mono fun _ => hk _ _ _) h
    | exact mm_l1_mono (fun x r => mm_st2_mono fun _ => hk _ _ _) h
    | exact mm_a1_mono (fun x r => mm_st1_mono fun _ => hk _ _ _) h
    | exact mm_ldI_mono (fun x => mm_st1_mono fun _ => hk _ _ _) h
    | exact mm_p2_mono (fun x y r => hk _ _ _) h
    | exact mm_p2_mono (fun x y r q => ⟨q.1, hk _ _ _ q.2⟩) h
    | exact mm_p1_mono (fun x r => hk _ _ _) h
    | exact mm_l2_mono (fun x y r => hk _ _ _) h
    | exact mm_l2_mono (fun x y r q => ⟨q.1, hk _ _ _ q.2⟩) h
    | exact mm_a1_mono (fun x r => mm_gf_mono fun _ => hk _ _ _) h
    | exact mm_a1_mono (fun x r => mm_len_mono fun _ => hk _ _ _) h
    | exact mm_p1_mono (fun x r => mm_if_mono (hK _ _ _ _) (hk _ _ _)) h
    | exact mm_p2_mono (fun x y r => mm_if_mono (hK _ _ _ _) (hk _ _ _)) h
    | exact mm_p1_mono (fun x r q => ⟨fun c => hK _ _ _ _ (q.1 c), fun o c1 c2 c3 => hK _ _ _ _ (q.2 o c1 c2 c3)⟩) h
    | exact mm_inv_mono hC hm (fun _ _ => hk _ _ _) h
    | (revert h; split <;> first
        | exact hk _ _ _
        | exact mm_pf_mono fun _ => hk _ _ _
        | exact mm_ild_mono fun _ => hk _ _ _
        | exact mm_ist_mono fun _ => hk _ _ _
        | exact mm_lld_mono fun _ => hk _ _ _
        | exact mm_lst_mono fun _ => hk _ _ _
        | exact mm_ald_mono fun _ => hk _ _ _
        | exact mm_inv_mono hC hm (fun _ _ => hk _ _ _)
        | exact hR _ _
        | (split <;> first | exact hR _ _ | exact fun q => ⟨q.1, hR _ _ q.2⟩)
        | exact id)
    | exact h
theorem mm_b_mono {K K' : Nat → mmK} {R R' : mmQ} {C C' : mmCall} (hK : ∀ pc ls st σ, K pc ls st σ → K' pc ls st σ) (hR : ∀ v σ, R v σ → R' v σ) (hC : ∀ a args σ Q, C a args σ Q → C' a args σ Q) (hm : mm_mono C) :
    ∀ (is : List mmE) (pc : Nat) (ls : mmL) (st : List Value) (σ : mmS), mm_b K R C is pc ls st σ → mm_b K' R' C' is pc ls st σ
  | [], pc, ls, st, σ, h => hK _ _ _ _ h
  | q :: r, pc, ls, st, σ, h => mm_x_mono hK hR hC hm (fun ls st σ => mm_b_mono hK hR hC hm r _ ls st σ) h
theorem mm_k_mono {K K' : Nat → mmK} {R R' : mmQ} {C C' : mmCall} (hK : ∀ pc ls st σ, K pc ls st σ → K' pc ls st σ) (hR : ∀ v σ, R v σ → R' v σ) (hC : ∀ a args σ Q, C a args σ Q → C' a args σ Q) (hm : mm_mono C) {bs : List mmB} {pc : Nat} {ls : mmL} {st : List Value} {σ : mmS} :
    mm_k K R C bs pc ls st σ → mm_k K' R' C' bs pc ls st σ := by
  unfold mm_k; split
  · exact mm_b_mono hK hR hC hm _ _ _ _ _
  · exact id
/-- to be at a block's head it is enough to meet what the block asks for -/
theorem mm_fold {R : mmQ} {C : mmCall} (hm : mm_mono C) {bs : List mmB} {pc : Nat} {ls : mmL} {st : List Value} {σ : mmS} (h : mm_k (mm_w R C bs) R C bs pc ls st σ) : mm_w R C bs pc ls st σ :=
  fun P hP => hP _ _ _ _ (mm_k_mono (fun _ _ _ _ q => q P hP) (fun _ _ q => q) (fun _ _ _ _ q => q) hm h)
theorem mm_w_mono {R R' : mmQ} {C C' : mmCall} (hR : ∀ v σ, R v σ → R' v σ) (hC : ∀ a args σ Q, C a args σ Q → C' a args σ Q) (hm : mm_mono C) {bs : List mmB} {pc : Nat} {ls : mmL} {st : List Value} {σ : mmS}
    (h : mm_w R C bs pc ls st σ) : mm_w R' C' bs pc ls st σ := fun P hP => h P fun _ _ _ _ q => hP _ _ _ _ (mm_k_mono (fun _ _ _ _ q => q) hR hC hm q)
