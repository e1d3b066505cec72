/-! THE SMALL MACHINE: a method's instructions as a transformer of 'what must hold', over a typed memory: cells by number, ints and longs by place. -/
abbrev mmL : Type := List (Option Value)
abbrev mmI : Type := Nat → Nat → Int32
abbrev mmJ : Type := Nat → Nat → Int64
/-- which lazily made parts are there; the cells and slots that may still be made; the board's cake, the reader's draft; where each cell lies -/
abbrev mmG : Type := (Nat → Bool) × Nat × Nat × Bool × Bool × (Nat → Nat)
abbrev mmS : Type := mmG × mmI × mmJ
abbrev mmE : Type := Instr × Nat × Nat × Nat × Nat × Int32 × Int64
abbrev mmQ : Type := Option Value → mmS → Prop
abbrev mmK : Type := mmL → List Value → mmS → Prop
abbrev mmCall : Type := Nat → List Value → mmS → mmQ → Prop
def mm_up (I : mmI) (r k : Nat) (x : Int32) : mmI := fun q => if q = r then upd (I r) k x else I q
def mm_row (I : mmI) (r : Nat) (f : Nat → Int32) : mmI := fun q => if q = r then f else I q
def mm_upJ (J : mmJ) (r k : Nat) (x : Int64) : mmJ := fun q => if q = r then vp_updL (J r) k x else J q
def mm_lv (g : mmG) (reg : Nat) : Bool := match reg with
  | 0 => true
  | n + 1 => g.1 n
def mm_ck (p : Bool) (j : Nat) : Nat := match p with
  | true => mm_cA + j
  | false => mm_cB + j
def mm_ldI (ls : mmL) (n : Nat) (k : Int32 → Prop) : Prop := match ls[n]? with
  | some (some (.int x)) => k x
  | _ => False
def mm_ldL (ls : mmL) (n : Nat) (k : Int64 → Prop) : Prop := match ls[n]? with
  | some (some (.long x)) => k x
  | _ => False
def mm_ldA (ls : mmL) (n : Nat) (k : Nat → Prop) : Prop := match ls[n]? with
  | some (some (.ref x)) => k x
  | _ => False
def mm_kill (ls : mmL) (n : Nat) : mmL := match n with
  | 0 => ls
  | m + 1 => match ls[m]? with
    | some (some (.long _)) => ls.set m none
    | some (some (.double _)) => ls.set m none
    | _ => ls
def mm_st1 (ls : mmL) (n : Nat) (v : Value) (k : mmL → Prop) : Prop := match Nat.blt n ls.length with
  | true => k ((mm_kill ls n).set n (some v))
  | false => False
def mm_st2 (ls : mmL) (n : Nat) (v : Value) (k : mmL → Prop) : Prop := match Nat.blt (n + 1) ls.length with
  | true => k (((mm_kill ls n).set n (some v)).set (n + 1) none)
  | false => False
def mm_p1 (st : List Value) (k : Int32 → List Value → Prop) : Prop := match st with
  | .int x :: r => k x r
  | _ => False
def mm_p2 (st : List Value) (k : Int32 → Int32 → List Value → Prop) : Prop := match st with
  | .int y :: .int x :: r => k x y r
  | _ => False
def mm_l1 (st : List Value) (k : Int64 → List Value → Prop) : Prop := match st with
  | .long x :: r => k x r
  | _ => False
def mm_l2 (st : List Value) (k : Int64 → Int64 → List Value → Prop) : Prop := match st with
  | .long y :: .long x :: r => k x y r
  | _ => False
def mm_a1 (st : List Value) (k : Nat → List Value → Prop) : Prop := match st with
  | .ref x :: r => k x r
  | _ => False
def mm_br (c A B : Prop) : Prop := (c → A) ∧ (¬ c → B)
/-- the cell r, if it is there -/
def mm_at (g : mmG) (r : Nat) (k : Nat → Nat → List Nat → Prop) : Prop := match mm_T[r]? with
  | some (reg, kd, n, rf) => match mm_lv g reg with
    | true => k kd n rf
    | false => False
  | none => False
def mm_gf (r a b c : Nat) (rest : List Value) (σ : mmS) (k : List Value → Prop) : Prop := mm_at σ.1 r fun kd _ rf => match Nat.beq kd a with
  | false => False
  | true => match c with
    | 0 => k (.int (σ.2.1 r b) :: rest)
    | 1 => k (.long (σ.2.2 r b) :: rest)
    | 2 => k (.ref (rf.getD b 0) :: rest)
    | 3 => k (.ref (mm_ck σ.1.2.2.2.1 0) :: rest)
    | 4 => k (.ref (mm_ck σ.1.2.2.2.2.1 0) :: rest)
    | _ => False
def mm_pf (r a b c : Nat) (v : Value) (σ : mmS) (k : mmS → Prop) : Prop := mm_at σ.1 r fun kd _ _ => match Nat.beq kd a with
  | false => False
  | true => match c, v with
    | 0, .int x => k (σ.1, mm_up σ.2.1 r b x, σ.2.2)
    | 5, .int x => (x = 0 ∨ x = 1) ∧ k (σ.1, mm_up σ.2.1 r b x, σ.2.2)
    | 1, .long x => k (σ.1, σ.2.1, mm_upJ σ.2.2 r b x)
    | 3, .ref x => (x = mm_cA ∨ x = mm_cB) ∧ k ((σ.1.1, σ.1.2.1, σ.1.2.2.1, Nat.beq x mm_cA, σ.1.2.2.2.2), σ.2.1, σ.2.2)
    | 4, .ref x => (x = mm_cA ∨ x = mm_cB) ∧ k ((σ.1.1, σ.1.2.1, σ.1.2.2.1, σ.1.2.2.2.1, Nat.beq x mm_cA, σ.1.2.2.2.2.2), σ.2.1, σ.2.2)
    | _, _ => False
/-- ints out of an array: kinds 20 int, 22 byte, 23 boolean; 30 a static one; 31 the script, its length in the next cell -/
def mm_ild (w r : Nat) (i : Int32) (σ : mmS) (k : Int32 → Prop) : Prop := mm_at σ.1 r fun kd n _ => match w, kd with
  | 0, 20 => vp_in i n ∧ k (σ.2.1 r i.toNatClampNeg)
  | 0, 30 => vp_in i n ∧ k (σ.2.1 r i.toNatClampNeg)
  | 0, 31 => vp_in i (σ.2.1 (r + 1) 0).toNatClampNeg ∧ k (σ.2.1 r i.toNatClampNeg)
  | 1, 22 => vp_in i n ∧ k (σ.2.1 r i.toNatClampNeg)
  | 1, 23 => vp_in i n ∧ k (σ.2.1 r i.toNatClampNeg)
  | _, _ => False
def mm_ist (w r : Nat) (i x : Int32) (σ : mmS) (k : mmS → Prop) : Prop := mm_at σ.1 r fun kd n _ => match w, kd with
  | 0, 20 => vp_in i n ∧ k (σ.1, mm_up σ.2.1 r i.toNatClampNeg x, σ.2.2)
  | 1, 22 => vp_in i n ∧ k (σ.1, mm_up σ.2.1 r i.toNatClampNeg x.toInt8.toInt32, σ.2.2)
  | 1, 23 => (x = 0 ∨ x = 1) ∧ vp_in i n ∧ k (σ.1, mm_up σ.2.1 r i.toNatClampNeg x, σ.2.2)
  | _, _ => False
def mm_lld (r : Nat) (i : Int32) (σ : mmS) (k : Int64 → Prop) : Prop := mm_at σ.1 r fun kd n _ => match kd with
  | 21 => vp_in i n ∧ k (σ.2.2 r i.toNatClampNeg)
  | _ => False
def mm_lst (r : Nat) (i : Int32) (x : Int64) (σ : mmS) (k : mmS → Prop) : Prop := mm_at σ.1 r fun kd n _ => match kd with
  | 21 => vp_in i n ∧ k (σ.1, σ.2.1, mm_upJ σ.2.2 r i.toNatClampNeg x)
  | _ => False
def mm_ald (r : Nat) (i : Int32) (σ : mmS) (k : Nat → Prop) : Prop := mm_at σ.1 r fun kd n rf => match kd with
  | 24 => vp_in i n ∧ k (rf.getD i.toNatClampNeg 0)
  | _ => False
def mm_len (r : Nat) (σ : mmS) (k : Int32 → Prop) : Prop := mm_at σ.1 r fun kd n _ => match kd with
  | 20 => k (nI n)
  | 21 => k (nI n)
  | 22 => k (nI n)
  | 23 => k (nI n)
  | 31 => k (σ.2.1 (r + 1) 0)
  | _ => False
def mm_cat (st : List Value) : Nat := (st.map fun v => v.category).sum
def mm_bud (σ : mmS) (x y : Nat) : mmS := ((σ.1.1, x, y, σ.1.2.2.2), σ.2)
/-- a call's answer: 0 none, 1 an int, 2 a long, 3 a cell -/
def mm_ret (c : Nat) (rest : List Value) (k : List Value → mmS → Prop) : mmQ := fun v σ => match c with
  | 0 => v = none ∧ k rest σ
  | 1 => ∃ r, v = some (.int r) ∧ k (.int r :: rest) σ
  | 2 => ∃ r, v = some (.long r) ∧ k (.long r :: rest) σ
  | 3 => ∃ r, v = some (.ref r) ∧ k (.ref r :: rest) σ
  | _ => False
/-- no cell but such as were there from the start -/
def mm_r0 (ls : mmL) : Bool := ls.all fun v => match v with
  | some (.ref r) => Nat.blt r 70 || Nat.ble 98 r
  | _ => true
/-- a call: the callee makes no cell (mode 0), or has a part of the room (mode 1) -/
def mm_inv (C : mmCall) (a b c : Nat) (mode : Int32) (ls : mmL) (st : List Value) (σ : mmS) (k : List Value → mmS → Prop) : Prop := match Nat.ble (mm_cat (st.drop b)) 8 with
  | false => False
  | true => match mode == 0 with
    | true => C a (st.take b).reverse (mm_bud σ 0 0) (mm_ret c (st.drop b) fun s τ => τ.1.2.2.2.2.2 = σ.1.2.2.2.2.2 ∧ k s (mm_bud τ σ.1.2.1 σ.1.2.2.1))
    | false => match mm_r0 ls && mm_r0 ((st.drop b).map some) with
      | false => False
      | true => ∃ x y, x ≤ σ.1.2.1 ∧ y ≤ σ.1.2.2.1 ∧ C a (st.take b).reverse (mm_bud σ x y) (mm_ret c (st.drop b) fun s τ => k s (mm_bud τ (σ.1.2.1 - x) (σ.1.2.2.1 - y)))
def mm_if (cd : Jvm.ClassFile.Cond) (x y : Int32) (A B : Prop) : Prop := match cd with
  | .eq => (x = y → A) ∧ (¬ x = y → B)
  | .ne => (¬ x = y → A) ∧ (x = y → B)
  | .lt => (x < y → A) ∧ (¬ x < y → B)
  | .ge => (y ≤ x → A) ∧ (¬ y ≤ x → B)
  | .gt => (y < x → A) ∧ (¬ y < x → B)
  | .le => (x ≤ y → A) ∧ (¬ x ≤ y → B)
/-- one instruction -/
def mm_x (K : Nat → mmK) (R : mmQ) (C : mmCall) (pc : Nat) (q : mmE) (k : mmK) (ls : mmL) (st : List Value) (σ : mmS) : Prop := match q with
  | (i, n, a, b, c, v, w) => match i with
    | .iconst _ => k ls (.int v :: st) σ
    | .bipush _ => k ls (.int v :: st) σ
    | .sipush _ => k ls (.int v :: st) σ
    | .ldc _ => match a with
      | 0 => k ls (.int v :: st) σ
      | t + 1 => k ls (.ref t :: st) σ
    | .ldc_w _ => match a with
      | 0 => k ls (.int v :: st) σ
      | t + 1 => k ls (.ref t :: st) σ
    | .ldc2_w _ => k ls (.long w :: st) σ
    | .lconst _ => k ls (.long w :: st) σ
    | .iload_n t => mm_ldI ls t.val fun x => k ls (.int x :: st) σ
    | .iload t => mm_ldI ls t fun x => k ls (.int x :: st) σ
    | .lload_n t => mm_ldL ls t.val fun x => k ls (.long x :: st) σ
    | .lload t => mm_ldL ls t fun x => k ls (.long x :: st) σ
    | .aload_n t => mm_ldA ls t.val fun x => k ls (.ref x :: st) σ
    | .aload t => mm_ldA ls t fun x => k ls (.ref x :: st) σ
    | .istore_n t => mm_p1 st fun x r => mm_st1 ls t.val (.int x) fun ls => k ls r σ
    | .istore t => mm_p1 st fun x r => mm_st1 ls t (.int x) fun ls => k ls r σ
    | .lstore_n t => mm_l1 st fun x r => mm_st2 ls t.val (.long x) fun ls => k ls r σ
    | .lstore t => mm_l1 st fun x r => mm_st2 ls t (.long x) fun ls => k ls r σ
    | .astore_n t => mm_a1 st fun x r => mm_st1 ls t.val (.ref x) fun ls => k ls r σ
    | .astore t => mm_a1 st fun x r => mm_st1 ls t (.ref x) fun ls => k ls r σ
    | .iinc t _ => mm_ldI ls t fun x => mm_st1 ls t (.int (x + v)) fun ls => k ls st σ
    | .iadd => mm_p2 st fun x y r => k ls (.int (x + y) :: r) σ
    | .isub => mm_p2 st fun x y r => k ls (.int (x - y) :: r) σ
    | .imul => mm_p2 st fun x y r => k ls (.int (x * y) :: r) σ
    | .iand => mm_p2 st fun x y r => k ls (.int (x &&& y) :: r) σ
    | .ior => mm_p2 st fun x y r => k ls (.int (x ||| y) :: r) σ
    | .ixor => mm_p2 st fun x y r => k ls (.int (x ^^^ y) :: r) σ
    | .ishl => mm_p2 st fun x y r => k ls (.int (x <<< (y &&& 31)) :: r) σ
    | .ishr => mm_p2 st fun x y r => k ls (.int (x >>> (y &&& 31)) :: r) σ
    | .iushr => mm_p2 st fun x y r => k ls (.int (x.toUInt32 >>> (y.toUInt32 &&& Int32.toUInt32 31)).toInt32 :: r) σ
    | .idiv => mm_p2 st fun x y r => ¬ y = 0 ∧ k ls (.int (x / y) :: r) σ
    | .irem => mm_p2 st fun x y r => ¬ y = 0 ∧ k ls (.int (x - x / y * y) :: r) σ
    | .ineg => mm_p1 st fun x r => k ls (.int (-x) :: r) σ
    | .i2b => mm_p1 st fun x r => k ls (.int x.toInt8.toInt32 :: r) σ
    | .i2l => mm_p1 st fun x r => k ls (.long x.toInt64 :: r) σ
    | .ladd => mm_l2 st fun x y r => k ls (.long (x + y) :: r) σ
    | .lmul => mm_l2 st fun x y r => k ls (.long (x * y) :: r) σ
    | .ldiv => mm_l2 st fun x y r => ¬ y = 0 ∧ k ls (.long (x / y) :: r) σ
    | .lrem => mm_l2 st fun x y r => ¬ y = 0 ∧ k ls (.long (x - x / y * y) :: r) σ
    | .lcmp => mm_l2 st fun x y r => k ls (.int (lg_cmp x y) :: r) σ
    | .dup => match st with
      | .int x :: r => k ls (.int x :: .int x :: r) σ
      | .ref x :: r => k ls (.ref x :: .ref x :: r) σ
      | _ => False
    | .dup2 => match st with
      | .int i :: .ref x :: r => k ls (.int i :: .ref x :: .int i :: .ref x :: r) σ
      | _ => False
    | .getfield _ => mm_a1 st fun r s => mm_gf r a b c s σ fun s => k ls s σ
    | .putfield _ => match st with
      | u :: .ref r :: s => mm_pf r a b c u σ fun τ => k ls s τ
      | _ => False
    | .getstatic _ => k ls (.ref a :: st) σ
    | .iaload => match st with
      | .int i :: .ref r :: s => mm_ild 0 r i σ fun x => k ls (.int x :: s) σ
      | _ => False
    | .baload => match st with
      | .int i :: .ref r :: s => mm_ild 1 r i σ fun x => k ls (.int x :: s) σ
      | _ => False
    | .laload => match st with
      | .int i :: .ref r :: s => mm_lld r i σ fun x => k ls (.long x :: s) σ
      | _ => False
    | .aaload => match st with
      | .int i :: .ref r :: s => mm_ald r i σ fun x => k ls (.ref x :: s) σ
      | _ => False
    | .iastore => match st with
      | .int x :: .int i :: .ref r :: s => mm_ist 0 r i x σ fun τ => k ls s τ
      | _ => False
    | .bastore => match st with
      | .int x :: .int i :: .ref r :: s => mm_ist 1 r i x σ fun τ => k ls s τ
      | _ => False
    | .lastore => match st with
      | .long x :: .int i :: .ref r :: s => mm_lst r i x σ fun τ => k ls s τ
      | _ => False
    | .arraylength => mm_a1 st fun r s => mm_len r σ fun x => k ls (.int x :: s) σ
    | .goto _ => K a ls st σ
    | .ifCond cd _ => mm_p1 st fun x r => mm_if cd x 0 (K a ls r σ) (k ls r σ)
    | .if_icmp cd _ => mm_p2 st fun x y r => mm_if cd x y (K a ls r σ) (k ls r σ)
    | .tableswitch d lo hi offs => mm_p1 st fun x r => (x.toInt < lo ∨ hi < x.toInt → K ((pc : Int) + d).toNat ls r σ) ∧ ∀ off, ¬ x.toInt < lo → ¬ hi < x.toInt → offs[(x.toInt - lo).toNat]? = some off → K ((pc : Int) + off).toNat ls r σ
    | .invokevirtual _ => mm_inv C a b c v ls st σ fun s τ => k ls s τ
    | .invokestatic _ => mm_inv C a b c v ls st σ fun s τ => k ls s τ
    | .ireturn => match st with
      | [.int x] => match c with
        | 5 => (x = 0 ∨ x = 1) ∧ R (some (.int x)) σ
        | _ => R (some (.int x)) σ
      | _ => False
    | .lreturn => match st with
      | [.long x] => R (some (.long x)) σ
      | _ => False
    | .return_ => match st with
      | [] => R none σ
      | _ => False
    | _ => False
/-- a row of instructions; at its end the next block -/
def mm_b (K : Nat → mmK) (R : mmQ) (C : mmCall) : List mmE → Nat → mmK
  | [], pc => K pc
  | q :: r, pc => mm_x K R C pc q (mm_b K R C r (pc + q.2.1))
/-- a block: its first pc, which locals still count there, its instructions -/
abbrev mmB : Type := Nat × List Bool × List mmE
def mm_mask : List Bool → mmL → mmL
  | true :: m, v :: ls => v :: mm_mask m ls
  | false :: m, _ :: ls => none :: mm_mask m ls
  | [], ls => ls
  | _, [] => []
def mm_find : List mmB → Nat → Option mmB
  | [], _ => none
  | q :: r, pc => match Nat.beq q.1 pc with
    | true => some q
    | false => mm_find r pc
/-- what a block asks for -/
def mm_k (K : Nat → mmK) (R : mmQ) (C : mmCall) (bs : List mmB) (pc : Nat) (ls : mmL) (st : List Value) (σ : mmS) : Prop := match mm_find bs pc with
  | some q => mm_b K R C q.2.2 q.1 (mm_mask q.2.1 ls) st σ
  | none => False
/-- at a block's head: the least that the blocks ask for -/
def mm_w (R : mmQ) (C : mmCall) (bs : List mmB) (pc : Nat) (ls : mmL) (st : List Value) (σ : mmS) : Prop := ∀ P : Nat → mmK, (∀ pc ls st σ, mm_k P R C bs pc ls st σ → P pc ls st σ) → P pc ls st σ
def mm_mono (C : mmCall) : Prop := ∀ a args σ (Q Q' : mmQ), (∀ v τ, Q v τ → Q' v τ) → C a args σ Q → C a args σ Q'
