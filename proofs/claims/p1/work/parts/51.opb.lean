/-! one call on a fresh object: the calls -/
/- needs: 0 1 20 21 22 23 24 25 26 27 28 29 30 32 40 41 42 50 -/
def zI_82 (xs : Nat → Int32) : mmI := mm_up (mm_I0 6 xs) 0 7 2
def zI_83 (xs : Nat → Int32) : mmI := mm_up (zI_82 xs) 46 0 0
def zI_84 (xs : Nat → Int32) : mmI := mm_up (zI_83 xs) 46 11 0
def zI_85 (xs : Nat → Int32) : mmI := mm_up (zI_84 xs) 46 11 2
def zI_86 (xs : Nat → Int32) : mmI := mm_up (mm_I0 6 xs) 0 7 2
def zI_87 (xs : Nat → Int32) : mmI := mm_up (zI_86 xs) 46 0 0
def zI_88 (xs : Nat → Int32) : mmI := mm_up (zI_87 xs) 46 11 0
def zI_89 (xs : Nat → Int32) : mmI := mm_up (zI_88 xs) 46 11 2
set_option maxRecDepth 20000 in
set_option maxHeartbeats 4000000 in
theorem op_1a (ad : Nat → Nat) (xs : Nat → Int32) (h0 : ¬ xs 1 = 0) : mm_w (fun v _ => v = some (.int 1)) (mm_wc 210) bk_law 297 [some (.ref 68), some (.ref 0), some (.ref 46), some (.ref 65), some (.int 0), none, none] [] (mm_s0 ad 6 xs) := by
  refine mm_go [] 600 ?_
  refine mm_ob (P := vp_in 1 (nI 6).toNatClampNeg) (mm_inl (by decide)) ?_
  show mm_b _ _ _ _ _ [some (.ref 68), some (.ref 0), some (.ref 46), some (.ref 65), some (.int 0), none, none] [.int (xs 1), .ref 0] ((fun _ => false, 599936, 6869426, true, false, ad), (mm_I0 6 xs), (fun _ _ => 0))
  refine mm_e1 ?_
  refine mm_iv 600 (by rfl) ?_
  show mm_k _ _ _ _ _ [some (.ref 0), some (.int (xs 1)), none] [] ((fun _ => false, 0, 0, true, false, ad), (mm_I0 6 xs), (fun _ _ => 0))
  refine mm_both (c := ((xs 1) : Int32) < 0) (d := ¬ ((xs 1) : Int32) < 0) (fun c0 => ?_) (fun c0 => ?_)
  · show mm_u _ _ _ _ _ _ [some (.ref 0), some (.int (xs 1)), none] [] ((fun _ => false, 0, 0, true, false, ad), (mm_I0 6 xs), (fun _ _ => 0))
    refine mm_iv 600 (by rfl) ?_
    show mm_k _ _ _ _ _ [some (.ref 0), some (.int 2)] [] ((fun _ => false, 0, 0, true, false, ad), (mm_I0 6 xs), (fun _ _ => 0))
    refine mm_q1 (r := (-1)) ⟨rfl, ?_⟩
    show mm_b _ _ _ _ _ [some (.ref 0), none, none] [.int (-1)] ((fun _ => false, 0, 0, true, false, ad), (zI_82 xs), (fun _ _ => 0))
    refine mm_q1 (r := (-1)) ?_
    show mm_b _ _ _ _ _ [some (.ref 68), some (.ref 0), some (.ref 46), some (.ref 65), some (.int 0), none, none] [.int (-1)] ((fun _ => false, 599936, 6869426, true, false, ad), (zI_82 xs), (fun _ _ => 0))
    refine mm_ob (P := vp_in 1 (nI 6).toNatClampNeg) (mm_inl (by decide)) ?_
    show mm_b _ _ _ _ _ [some (.ref 68), some (.ref 0), some (.ref 46), some (.ref 65), some (.int 0), none, none] [.int (xs 1), .ref 46, .int (-1)] ((fun _ => false, 599936, 6869426, true, false, ad), (zI_82 xs), (fun _ _ => 0))
    refine mm_e1 ?_
    refine mm_iv 600 (by rfl) ?_
    show mm_k _ _ _ _ _ [some (.ref 46), some (.int (xs 1)), none] [] ((fun _ => false, 0, 0, true, false, ad), (zI_82 xs), (fun _ _ => 0))
    refine mm_iv 600 (by rfl) ?_
    show mm_k _ _ _ _ _ [some (.ref 46)] [] ((fun _ => false, 0, 0, true, false, ad), (zI_82 xs), (fun _ _ => 0))
    refine mm_q0 ⟨rfl, ?_⟩
    show mm_b _ _ _ _ _ [some (.ref 46), some (.int (xs 1)), none] [] ((fun _ => false, 0, 0, true, false, ad), (zI_84 xs), (fun _ _ => 0))
    refine mm_iv 600 (by rfl) ?_
    show mm_k _ _ _ _ _ [some (.int (xs 1)), some (.int 0), some (.int 0)] [] ((fun _ => false, 0, 0, true, false, ad), (zI_84 xs), (fun _ _ => 0))
    refine mm_tk (c := ((xs 1) : Int32) < 0) (d := ¬ ((xs 1) : Int32) < 0) (fun q9 => by simp only [Int32.lt_iff_toInt_lt, Int32.le_iff_toInt_le, ← Int32.toInt_inj, li_0, li_1, li_2, li_3, li_4, li_5, li_6, li_7, li_8, li_9, li_10, li_11, li_12, li_13, li_14, li_15] at *; omega) ?_
    show mm_u _ _ _ _ _ _ [some (.int (xs 1)), some (.int 0), some (.int 0)] [] ((fun _ => false, 0, 0, true, false, ad), (zI_84 xs), (fun _ _ => 0))
    refine mm_ob (P := (0 : Int32) = 0 ∨ (0 : Int32) = 1) (by decide) ?_
    refine mm_q1 (r := 0) ⟨rfl, ?_⟩
    show mm_b _ _ _ _ _ [some (.ref 46), some (.int (xs 1)), none] [.int 0] ((fun _ => false, 0, 0, true, false, ad), (zI_84 xs), (fun _ _ => 0))
    refine mm_el (c := ¬ (0 : Int32) = 0) (d := (0 : Int32) = 0) (by decide) ?_
    show mm_b _ _ _ _ _ [some (.ref 46), some (.int (xs 1)), none] [] ((fun _ => false, 0, 0, true, false, ad), (zI_84 xs), (fun _ _ => 0))
    refine mm_iv 600 (by rfl) ?_
    show mm_k _ _ _ _ _ [some (.ref 46), some (.int 2)] [] ((fun _ => false, 0, 0, true, false, ad), (zI_84 xs), (fun _ _ => 0))
    refine mm_q1 (r := (-1)) ⟨rfl, ?_⟩
    show mm_b _ _ _ _ _ [some (.ref 46), some (.int (xs 1)), none] [.int (-1)] ((fun _ => false, 0, 0, true, false, ad), (zI_85 xs), (fun _ _ => 0))
    refine mm_q1 (r := (-1)) ?_
    show mm_b _ _ _ _ _ [some (.ref 68), some (.ref 0), some (.ref 46), some (.ref 65), some (.int 0), none, none] [.int (-1), .int (-1)] ((fun _ => false, 599936, 6869426, true, false, ad), (zI_85 xs), (fun _ _ => 0))
    refine mm_tk (c := ((-1) : Int32) = (-1)) (d := ¬ ((-1) : Int32) = (-1)) (by decide) ?_
    show mm_u _ _ _ _ _ _ [some (.ref 68), some (.ref 0), some (.ref 46), some (.ref 65), some (.int 0), none, none] [] ((fun _ => false, 599936, 6869426, true, false, ad), (zI_85 xs), (fun _ _ => 0))
    refine mm_tk (c := (((nI 6) - 6) : Int32) < 6) (d := ¬ (((nI 6) - 6) : Int32) < 6) (by decide) ?_
    show mm_u _ _ _ _ _ _ [some (.ref 68), some (.ref 0), some (.ref 46), some (.ref 65), some (.int 6), none, none] [] ((fun _ => false, 599936, 6869426, true, false, ad), (zI_85 xs), (fun _ _ => 0))
    refine mm_ob (P := (1 : Int32) = 0 ∨ (1 : Int32) = 1) (by decide) ?_
    exact rfl
  · show mm_b _ _ _ _ _ [some (.ref 0), some (.int (xs 1)), none] [] ((fun _ => false, 0, 0, true, false, ad), (mm_I0 6 xs), (fun _ _ => 0))
    refine mm_el (c := ((xs 1) : Int32) ≤ 0) (d := ¬ ((xs 1) : Int32) ≤ 0) (fun q9 => by simp only [Int32.lt_iff_toInt_lt, Int32.le_iff_toInt_le, ← Int32.toInt_inj, li_0, li_1, li_2, li_3, li_4, li_5, li_6, li_7, li_8, li_9, li_10, li_11, li_12, li_13, li_14, li_15] at *; omega) ?_
    show mm_b _ _ _ _ _ [some (.ref 0), some (.int (xs 1)), none] [] ((fun _ => false, 0, 0, true, false, ad), (mm_I0 6 xs), (fun _ _ => 0))
    refine mm_iv 600 (by rfl) ?_
    show mm_k _ _ _ _ _ [some (.ref 0), some (.int 2)] [] ((fun _ => false, 0, 0, true, false, ad), (mm_I0 6 xs), (fun _ _ => 0))
    refine mm_q1 (r := (-1)) ⟨rfl, ?_⟩
    show mm_b _ _ _ _ _ [some (.ref 0), none, none] [.int (-1)] ((fun _ => false, 0, 0, true, false, ad), (zI_86 xs), (fun _ _ => 0))
    refine mm_q1 (r := (-1)) ?_
    show mm_b _ _ _ _ _ [some (.ref 68), some (.ref 0), some (.ref 46), some (.ref 65), some (.int 0), none, none] [.int (-1)] ((fun _ => false, 599936, 6869426, true, false, ad), (zI_86 xs), (fun _ _ => 0))
    refine mm_ob (P := vp_in 1 (nI 6).toNatClampNeg) (mm_inl (by decide)) ?_
    show mm_b _ _ _ _ _ [some (.ref 68), some (.ref 0), some (.ref 46), some (.ref 65), some (.int 0), none, none] [.int (xs 1), .ref 46, .int (-1)] ((fun _ => false, 599936, 6869426, true, false, ad), (zI_86 xs), (fun _ _ => 0))
    refine mm_e1 ?_
    refine mm_iv 600 (by rfl) ?_
    show mm_k _ _ _ _ _ [some (.ref 46), some (.int (xs 1)), none] [] ((fun _ => false, 0, 0, true, false, ad), (zI_86 xs), (fun _ _ => 0))
    refine mm_iv 600 (by rfl) ?_
    show mm_k _ _ _ _ _ [some (.ref 46)] [] ((fun _ => false, 0, 0, true, false, ad), (zI_86 xs), (fun _ _ => 0))
    refine mm_q0 ⟨rfl, ?_⟩
    show mm_b _ _ _ _ _ [some (.ref 46), some (.int (xs 1)), none] [] ((fun _ => false, 0, 0, true, false, ad), (zI_88 xs), (fun _ _ => 0))
    refine mm_iv 600 (by rfl) ?_
    show mm_k _ _ _ _ _ [some (.int (xs 1)), some (.int 0), some (.int 0)] [] ((fun _ => false, 0, 0, true, false, ad), (zI_88 xs), (fun _ _ => 0))
    refine mm_el (c := ((xs 1) : Int32) < 0) (d := ¬ ((xs 1) : Int32) < 0) (fun q9 => by simp only [Int32.lt_iff_toInt_lt, Int32.le_iff_toInt_le, ← Int32.toInt_inj, li_0, li_1, li_2, li_3, li_4, li_5, li_6, li_7, li_8, li_9, li_10, li_11, li_12, li_13, li_14, li_15] at *; omega) ?_
    show mm_b _ _ _ _ _ [some (.int (xs 1)), some (.int 0), some (.int 0)] [] ((fun _ => false, 0, 0, true, false, ad), (zI_88 xs), (fun _ _ => 0))
    refine mm_tk (c := (0 : Int32) < (xs 1)) (d := ¬ (0 : Int32) < (xs 1)) (fun q9 => by simp only [Int32.lt_iff_toInt_lt, Int32.le_iff_toInt_le, ← Int32.toInt_inj, li_0, li_1, li_2, li_3, li_4, li_5, li_6, li_7, li_8, li_9, li_10, li_11, li_12, li_13, li_14, li_15] at *; omega) ?_
    show mm_u _ _ _ _ _ _ [some (.int (xs 1)), some (.int 0), some (.int 0)] [] ((fun _ => false, 0, 0, true, false, ad), (zI_88 xs), (fun _ _ => 0))
    refine mm_ob (P := (0 : Int32) = 0 ∨ (0 : Int32) = 1) (by decide) ?_
    refine mm_q1 (r := 0) ⟨rfl, ?_⟩
    show mm_b _ _ _ _ _ [some (.ref 46), some (.int (xs 1)), none] [.int 0] ((fun _ => false, 0, 0, true, false, ad), (zI_88 xs), (fun _ _ => 0))
    refine mm_el (c := ¬ (0 : Int32) = 0) (d := (0 : Int32) = 0) (by decide) ?_
    show mm_b _ _ _ _ _ [some (.ref 46), some (.int (xs 1)), none] [] ((fun _ => false, 0, 0, true, false, ad), (zI_88 xs), (fun _ _ => 0))
    refine mm_iv 600 (by rfl) ?_
    show mm_k _ _ _ _ _ [some (.ref 46), some (.int 2)] [] ((fun _ => false, 0, 0, true, false, ad), (zI_88 xs), (fun _ _ => 0))
    refine mm_q1 (r := (-1)) ⟨rfl, ?_⟩
    show mm_b _ _ _ _ _ [some (.ref 46), some (.int (xs 1)), none] [.int (-1)] ((fun _ => false, 0, 0, true, false, ad), (zI_89 xs), (fun _ _ => 0))
    refine mm_q1 (r := (-1)) ?_
    show mm_b _ _ _ _ _ [some (.ref 68), some (.ref 0), some (.ref 46), some (.ref 65), some (.int 0), none, none] [.int (-1), .int (-1)] ((fun _ => false, 599936, 6869426, true, false, ad), (zI_89 xs), (fun _ _ => 0))
    refine mm_tk (c := ((-1) : Int32) = (-1)) (d := ¬ ((-1) : Int32) = (-1)) (by decide) ?_
    show mm_u _ _ _ _ _ _ [some (.ref 68), some (.ref 0), some (.ref 46), some (.ref 65), some (.int 0), none, none] [] ((fun _ => false, 599936, 6869426, true, false, ad), (zI_89 xs), (fun _ _ => 0))
    refine mm_tk (c := (((nI 6) - 6) : Int32) < 6) (d := ¬ (((nI 6) - 6) : Int32) < 6) (by decide) ?_
    show mm_u _ _ _ _ _ _ [some (.ref 68), some (.ref 0), some (.ref 46), some (.ref 65), some (.int 6), none, none] [] ((fun _ => false, 599936, 6869426, true, false, ad), (zI_89 xs), (fun _ _ => 0))
    refine mm_ob (P := (1 : Int32) = 0 ∨ (1 : Int32) = 1) (by decide) ?_
    exact rfl
def zI_413 (xs : Nat → Int32) : mmI := mm_up (mm_I0 6 xs) 0 7 1
def zI_414 (xs : Nat → Int32) : mmI := mm_up (zI_413 xs) 46 0 0
def zI_415 (xs : Nat → Int32) : mmI := mm_up (zI_414 xs) 46 11 0
def zI_416 (xs : Nat → Int32) : mmI := mm_up (zI_415 xs) 46 11 1
set_option maxRecDepth 20000 in
set_option maxHeartbeats 4000000 in
theorem op_5 (ad : Nat → Nat) (xs : Nat → Int32) : mm_w (fun v _ => v = some (.int 1)) (mm_wc 210) bk_law 385 [some (.ref 68), some (.ref 0), some (.ref 46), some (.ref 65), some (.int 0), none, none] [] (mm_s0 ad 6 xs) := by
  refine mm_go [] 600 ?_
  refine mm_ob (P := vp_in 1 (nI 6).toNatClampNeg) (mm_inl (by decide)) ?_
  show mm_b _ _ _ _ _ [some (.ref 68), some (.ref 0), some (.ref 46), some (.ref 65), some (.int 0), none, none] [.int (xs 1), .ref 0] ((fun _ => false, 599936, 6869426, true, false, ad), (mm_I0 6 xs), (fun _ _ => 0))
  refine mm_e1 ?_
  refine mm_iv 600 (by rfl) ?_
  show mm_k _ _ _ _ _ [some (.ref 0), some (.int (xs 1))] [] ((fun _ => false, 0, 0, true, false, ad), (mm_I0 6 xs), (fun _ _ => 0))
  refine mm_iv 600 (by rfl) ?_
  show mm_k _ _ _ _ _ [some (.ref 0), some (.int (xs 1))] [] ((fun _ => false, 0, 0, true, false, ad), (mm_I0 6 xs), (fun _ _ => 0))
  refine mm_tk (c := (0 : Int32) = 0) (d := ¬ (0 : Int32) = 0) (by decide) ?_
  show mm_u _ _ _ _ _ _ [some (.ref 0), some (.int (xs 1))] [] ((fun _ => false, 0, 0, true, false, ad), (mm_I0 6 xs), (fun _ _ => 0))
  refine mm_ob (P := (0 : Int32) = 0 ∨ (0 : Int32) = 1) (by decide) ?_
  refine mm_q1 (r := 0) ⟨rfl, ?_⟩
  show mm_b _ _ _ _ _ [some (.ref 0), some (.int (xs 1))] [.int 0] ((fun _ => false, 0, 0, true, false, ad), (mm_I0 6 xs), (fun _ _ => 0))
  refine mm_tk (c := (0 : Int32) = 0) (d := ¬ (0 : Int32) = 0) (by decide) ?_
  show mm_u _ _ _ _ _ _ [some (.ref 0), some (.int (xs 1))] [] ((fun _ => false, 0, 0, true, false, ad), (mm_I0 6 xs), (fun _ _ => 0))
  refine mm_iv 600 (by rfl) ?_
  show mm_k _ _ _ _ _ [some (.ref 0), some (.int 1)] [] ((fun _ => false, 0, 0, true, false, ad), (mm_I0 6 xs), (fun _ _ => 0))
  refine mm_q1 (r := (-1)) ⟨rfl, ?_⟩
  show mm_b _ _ _ _ _ [some (.ref 0), none] [.int (-1)] ((fun _ => false, 0, 0, true, false, ad), (zI_413 xs), (fun _ _ => 0))
  refine mm_q1 (r := (-1)) ?_
  show mm_b _ _ _ _ _ [some (.ref 68), some (.ref 0), some (.ref 46), some (.ref 65), some (.int 0), none, none] [.int (-1)] ((fun _ => false, 599936, 6869426, true, false, ad), (zI_413 xs), (fun _ _ => 0))
  refine mm_ob (P := vp_in 1 (nI 6).toNatClampNeg) (mm_inl (by decide)) ?_
  show mm_b _ _ _ _ _ [some (.ref 68), some (.ref 0), some (.ref 46), some (.ref 65), some (.int 0), none, none] [.int (xs 1), .ref 46, .int (-1)] ((fun _ => false, 599936, 6869426, true, false, ad), (zI_413 xs), (fun _ _ => 0))
  refine mm_e1 ?_
  refine mm_iv 600 (by rfl) ?_
  show mm_k _ _ _ _ _ [some (.ref 46), some (.int (xs 1))] [] ((fun _ => false, 0, 0, true, false, ad), (zI_413 xs), (fun _ _ => 0))
  refine mm_iv 600 (by rfl) ?_
  show mm_k _ _ _ _ _ [some (.ref 46)] [] ((fun _ => false, 0, 0, true, false, ad), (zI_413 xs), (fun _ _ => 0))
  refine mm_q0 ⟨rfl, ?_⟩
  show mm_b _ _ _ _ _ [some (.ref 46), some (.int (xs 1))] [] ((fun _ => false, 0, 0, true, false, ad), (zI_415 xs), (fun _ _ => 0))
  refine mm_iv 600 (by rfl) ?_
  show mm_k _ _ _ _ _ [some (.ref 46), some (.int (xs 1))] [] ((fun _ => false, 0, 0, true, false, ad), (zI_415 xs), (fun _ _ => 0))
  refine mm_tk (c := (0 : Int32) = 0) (d := ¬ (0 : Int32) = 0) (by decide) ?_
  show mm_u _ _ _ _ _ _ [some (.ref 46), some (.int (xs 1))] [] ((fun _ => false, 0, 0, true, false, ad), (zI_415 xs), (fun _ _ => 0))
  refine mm_ob (P := (0 : Int32) = 0 ∨ (0 : Int32) = 1) (by decide) ?_
  refine mm_q1 (r := 0) ⟨rfl, ?_⟩
  show mm_b _ _ _ _ _ [some (.ref 46), some (.int (xs 1))] [.int 0] ((fun _ => false, 0, 0, true, false, ad), (zI_415 xs), (fun _ _ => 0))
  refine mm_tk (c := (0 : Int32) = 0) (d := ¬ (0 : Int32) = 0) (by decide) ?_
  show mm_u _ _ _ _ _ _ [some (.ref 46), some (.int (xs 1))] [] ((fun _ => false, 0, 0, true, false, ad), (zI_415 xs), (fun _ _ => 0))
  refine mm_iv 600 (by rfl) ?_
  show mm_k _ _ _ _ _ [some (.ref 46), some (.int 1)] [] ((fun _ => false, 0, 0, true, false, ad), (zI_415 xs), (fun _ _ => 0))
  refine mm_q1 (r := (-1)) ⟨rfl, ?_⟩
  show mm_b _ _ _ _ _ [some (.ref 46), none] [.int (-1)] ((fun _ => false, 0, 0, true, false, ad), (zI_416 xs), (fun _ _ => 0))
  refine mm_q1 (r := (-1)) ?_
  show mm_b _ _ _ _ _ [some (.ref 68), some (.ref 0), some (.ref 46), some (.ref 65), some (.int 0), none, none] [.int (-1), .int (-1)] ((fun _ => false, 599936, 6869426, true, false, ad), (zI_416 xs), (fun _ _ => 0))
  refine mm_tk (c := ((-1) : Int32) = (-1)) (d := ¬ ((-1) : Int32) = (-1)) (by decide) ?_
  show mm_u _ _ _ _ _ _ [some (.ref 68), some (.ref 0), some (.ref 46), some (.ref 65), some (.int 0), none, none] [] ((fun _ => false, 599936, 6869426, true, false, ad), (zI_416 xs), (fun _ _ => 0))
  refine mm_tk (c := (((nI 6) - 6) : Int32) < 6) (d := ¬ (((nI 6) - 6) : Int32) < 6) (by decide) ?_
  show mm_u _ _ _ _ _ _ [some (.ref 68), some (.ref 0), some (.ref 46), some (.ref 65), some (.int 6), none, none] [] ((fun _ => false, 599936, 6869426, true, false, ad), (zI_416 xs), (fun _ _ => 0))
  refine mm_ob (P := (1 : Int32) = 0 ∨ (1 : Int32) = 1) (by decide) ?_
  exact rfl
def zI_429 (xs : Nat → Int32) : mmI := mm_up (mm_I0 6 xs) 0 7 1
def zI_430 (xs : Nat → Int32) : mmI := mm_up (zI_429 xs) 46 0 0
def zI_431 (xs : Nat → Int32) : mmI := mm_up (zI_430 xs) 46 11 0
def zI_432 (xs : Nat → Int32) : mmI := mm_up (zI_431 xs) 46 11 1
set_option maxRecDepth 20000 in
set_option maxHeartbeats 4000000 in
theorem op_9 (ad : Nat → Nat) (xs : Nat → Int32) : mm_w (fun v _ => v = some (.int 1)) (mm_wc 210) bk_law 509 [some (.ref 68), some (.ref 0), some (.ref 46), some (.ref 65), some (.int 0), none, none] [] (mm_s0 ad 6 xs) := by
  refine mm_go [] 600 ?_
  refine mm_e1 ?_
  refine mm_iv 600 (by rfl) ?_
  show mm_k _ _ _ _ _ [some (.ref 0)] [] ((fun _ => false, 0, 0, true, false, ad), (mm_I0 6 xs), (fun _ _ => 0))
  refine mm_tk (c := (0 : Int32) = 0) (d := ¬ (0 : Int32) = 0) (by decide) ?_
  show mm_u _ _ _ _ _ _ [some (.ref 0)] [] ((fun _ => false, 0, 0, true, false, ad), (mm_I0 6 xs), (fun _ _ => 0))
  refine mm_iv 600 (by rfl) ?_
  show mm_k _ _ _ _ _ [some (.ref 0), some (.int 1)] [] ((fun _ => false, 0, 0, true, false, ad), (mm_I0 6 xs), (fun _ _ => 0))
  refine mm_q1 (r := (-1)) ⟨rfl, ?_⟩
  show mm_b _ _ _ _ _ [some (.ref 0)] [.int (-1)] ((fun _ => false, 0, 0, true, false, ad), (zI_429 xs), (fun _ _ => 0))
  refine mm_q1 (r := (-1)) ?_
  show mm_b _ _ _ _ _ [some (.ref 68), some (.ref 0), some (.ref 46), some (.ref 65), some (.int 0), none, none] [.int (-1)] ((fun _ => false, 599936, 6869426, true, false, ad), (zI_429 xs), (fun _ _ => 0))
  refine mm_e1 ?_
  refine mm_iv 600 (by rfl) ?_
  show mm_k _ _ _ _ _ [some (.ref 46), none, none] [] ((fun _ => false, 0, 0, true, false, ad), (zI_429 xs), (fun _ _ => 0))
  refine mm_iv 600 (by rfl) ?_
  show mm_k _ _ _ _ _ [some (.ref 46)] [] ((fun _ => false, 0, 0, true, false, ad), (zI_429 xs), (fun _ _ => 0))
  refine mm_q0 ⟨rfl, ?_⟩
  show mm_b _ _ _ _ _ [some (.ref 46), none, none] [] ((fun _ => false, 0, 0, true, false, ad), (zI_431 xs), (fun _ _ => 0))
  refine mm_el (c := ¬ (0 : Int32) = 0) (d := (0 : Int32) = 0) (by decide) ?_
  show mm_b _ _ _ _ _ [some (.ref 46), none, none] [] ((fun _ => false, 0, 0, true, false, ad), (zI_431 xs), (fun _ _ => 0))
  refine mm_iv 600 (by rfl) ?_
  show mm_k _ _ _ _ _ [some (.ref 46), some (.int 1)] [] ((fun _ => false, 0, 0, true, false, ad), (zI_431 xs), (fun _ _ => 0))
  refine mm_q1 (r := (-1)) ⟨rfl, ?_⟩
  show mm_b _ _ _ _ _ [some (.ref 46), none, none] [.int (-1)] ((fun _ => false, 0, 0, true, false, ad), (zI_432 xs), (fun _ _ => 0))
  refine mm_q1 (r := (-1)) ?_
  show mm_b _ _ _ _ _ [some (.ref 68), some (.ref 0), some (.ref 46), some (.ref 65), some (.int 0), none, none] [.int (-1), .int (-1)] ((fun _ => false, 599936, 6869426, true, false, ad), (zI_432 xs), (fun _ _ => 0))
  refine mm_tk (c := ((-1) : Int32) = (-1)) (d := ¬ ((-1) : Int32) = (-1)) (by decide) ?_
  show mm_u _ _ _ _ _ _ [some (.ref 68), some (.ref 0), some (.ref 46), some (.ref 65), some (.int 0), none, none] [] ((fun _ => false, 599936, 6869426, true, false, ad), (zI_432 xs), (fun _ _ => 0))
  refine mm_tk (c := (((nI 6) - 6) : Int32) < 6) (d := ¬ (((nI 6) - 6) : Int32) < 6) (by decide) ?_
  show mm_u _ _ _ _ _ _ [some (.ref 68), some (.ref 0), some (.ref 46), some (.ref 65), some (.int 6), none, none] [] ((fun _ => false, 599936, 6869426, true, false, ad), (zI_432 xs), (fun _ _ => 0))
  refine mm_ob (P := (1 : Int32) = 0 ∨ (1 : Int32) = 1) (by decide) ?_
  exact rfl
def zI_449 (xs : Nat → Int32) : mmI := mm_up (mm_I0 6 xs) 0 7 1
def zI_450 (xs : Nat → Int32) : mmI := mm_up (zI_449 xs) 46 0 0
def zI_451 (xs : Nat → Int32) : mmI := mm_up (zI_450 xs) 46 11 0
def zI_452 (xs : Nat → Int32) : mmI := mm_up (zI_451 xs) 46 11 1
set_option maxRecDepth 20000 in
set_option maxHeartbeats 4000000 in
theorem op_13 (ad : Nat → Nat) (xs : Nat → Int32) : mm_w (fun v _ => v = some (.int 1)) (mm_wc 210) bk_law 601 [some (.ref 68), some (.ref 0), some (.ref 46), some (.ref 65), some (.int 0), none, none] [] (mm_s0 ad 6 xs) := by
  refine mm_go [] 600 ?_
  refine mm_ob (P := vp_in 1 (nI 6).toNatClampNeg) (mm_inl (by decide)) ?_
  show mm_b _ _ _ _ _ [some (.ref 68), some (.ref 0), some (.ref 46), some (.ref 65), some (.int 0), none, none] [.int (xs 1), .ref 0] ((fun _ => false, 599936, 6869426, true, false, ad), (mm_I0 6 xs), (fun _ _ => 0))
  refine mm_e1 ?_
  refine mm_iv 600 (by rfl) ?_
  show mm_k _ _ _ _ _ [some (.ref 0), some (.int (xs 1))] [] ((fun _ => false, 0, 0, true, false, ad), (mm_I0 6 xs), (fun _ _ => 0))
  refine mm_iv 600 (by rfl) ?_
  show mm_k _ _ _ _ _ [some (.ref 0), some (.int (xs 1))] [] ((fun _ => false, 0, 0, true, false, ad), (mm_I0 6 xs), (fun _ _ => 0))
  refine mm_tk (c := (0 : Int32) = 0) (d := ¬ (0 : Int32) = 0) (by decide) ?_
  show mm_u _ _ _ _ _ _ [some (.ref 0), some (.int (xs 1))] [] ((fun _ => false, 0, 0, true, false, ad), (mm_I0 6 xs), (fun _ _ => 0))
  refine mm_ob (P := (0 : Int32) = 0 ∨ (0 : Int32) = 1) (by decide) ?_
  refine mm_q1 (r := 0) ⟨rfl, ?_⟩
  show mm_b _ _ _ _ _ [some (.ref 0), some (.int (xs 1))] [.int 0] ((fun _ => false, 0, 0, true, false, ad), (mm_I0 6 xs), (fun _ _ => 0))
  refine mm_el (c := ¬ (0 : Int32) = 0) (d := (0 : Int32) = 0) (by decide) ?_
  show mm_b _ _ _ _ _ [some (.ref 0), some (.int (xs 1))] [] ((fun _ => false, 0, 0, true, false, ad), (mm_I0 6 xs), (fun _ _ => 0))
  refine mm_q1 (r := (-100)) ?_
  show mm_b _ _ _ _ _ [some (.ref 68), some (.ref 0), some (.ref 46), some (.ref 65), some (.int 0), none, none] [.int (-100)] ((fun _ => false, 599936, 6869426, true, false, ad), (zI_449 xs), (fun _ _ => 0))
  refine mm_ob (P := vp_in 1 (nI 6).toNatClampNeg) (mm_inl (by decide)) ?_
  show mm_b _ _ _ _ _ [some (.ref 68), some (.ref 0), some (.ref 46), some (.ref 65), some (.int 0), none, none] [.int (xs 1), .ref 46, .int (-100)] ((fun _ => false, 599936, 6869426, true, false, ad), (zI_449 xs), (fun _ _ => 0))
  refine mm_e1 ?_
  refine mm_iv 600 (by rfl) ?_
  show mm_k _ _ _ _ _ [some (.ref 46), some (.int (xs 1))] [] ((fun _ => false, 0, 0, true, false, ad), (zI_449 xs), (fun _ _ => 0))
  refine mm_iv 600 (by rfl) ?_
  show mm_k _ _ _ _ _ [some (.ref 46)] [] ((fun _ => false, 0, 0, true, false, ad), (zI_449 xs), (fun _ _ => 0))
  refine mm_q0 ⟨rfl, ?_⟩
  show mm_b _ _ _ _ _ [some (.ref 46), some (.int (xs 1))] [] ((fun _ => false, 0, 0, true, false, ad), (zI_451 xs), (fun _ _ => 0))
  refine mm_iv 600 (by rfl) ?_
  show mm_k _ _ _ _ _ [some (.ref 46), some (.int (xs 1))] [] ((fun _ => false, 0, 0, true, false, ad), (zI_451 xs), (fun _ _ => 0))
  refine mm_tk (c := (0 : Int32) = 0) (d := ¬ (0 : Int32) = 0) (by decide) ?_
  show mm_u _ _ _ _ _ _ [some (.ref 46), some (.int (xs 1))] [] ((fun _ => false, 0, 0, true, false, ad), (zI_451 xs), (fun _ _ => 0))
  refine mm_ob (P := (0 : Int32) = 0 ∨ (0 : Int32) = 1) (by decide) ?_
  refine mm_q1 (r := 0) ⟨rfl, ?_⟩
  show mm_b _ _ _ _ _ [some (.ref 46), some (.int (xs 1))] [.int 0] ((fun _ => false, 0, 0, true, false, ad), (zI_451 xs), (fun _ _ => 0))
  refine mm_el (c := ¬ (0 : Int32) = 0) (d := (0 : Int32) = 0) (by decide) ?_
  show mm_b _ _ _ _ _ [some (.ref 46), some (.int (xs 1))] [] ((fun _ => false, 0, 0, true, false, ad), (zI_451 xs), (fun _ _ => 0))
  refine mm_q1 (r := (-100)) ?_
  show mm_b _ _ _ _ _ [some (.ref 68), some (.ref 0), some (.ref 46), some (.ref 65), some (.int 0), none, none] [.int (-100), .int (-100)] ((fun _ => false, 599936, 6869426, true, false, ad), (zI_452 xs), (fun _ _ => 0))
  refine mm_tk (c := ((-100) : Int32) = (-100)) (d := ¬ ((-100) : Int32) = (-100)) (by decide) ?_
  show mm_u _ _ _ _ _ _ [some (.ref 68), some (.ref 0), some (.ref 46), some (.ref 65), some (.int 0), none, none] [] ((fun _ => false, 599936, 6869426, true, false, ad), (zI_452 xs), (fun _ _ => 0))
  refine mm_tk (c := (((nI 6) - 6) : Int32) < 6) (d := ¬ (((nI 6) - 6) : Int32) < 6) (by decide) ?_
  show mm_u _ _ _ _ _ _ [some (.ref 68), some (.ref 0), some (.ref 46), some (.ref 65), some (.int 6), none, none] [] ((fun _ => false, 599936, 6869426, true, false, ad), (zI_452 xs), (fun _ _ => 0))
  refine mm_ob (P := (1 : Int32) = 0 ∨ (1 : Int32) = 1) (by decide) ?_
  exact rfl
def zI_465 (xs : Nat → Int32) : mmI := mm_up (mm_I0 6 xs) 0 7 1
def zI_466 (xs : Nat → Int32) : mmI := mm_up (zI_465 xs) 46 0 0
def zI_467 (xs : Nat → Int32) : mmI := mm_up (zI_466 xs) 46 11 0
def zI_468 (xs : Nat → Int32) : mmI := mm_up (zI_467 xs) 46 11 1
set_option maxRecDepth 20000 in
set_option maxHeartbeats 4000000 in
theorem op_17 (ad : Nat → Nat) (xs : Nat → Int32) : mm_w (fun v _ => v = some (.int 1)) (mm_wc 210) bk_law 689 [some (.ref 68), some (.ref 0), some (.ref 46), some (.ref 65), some (.int 0), none, none] [] (mm_s0 ad 6 xs) := by
  refine mm_go [] 600 ?_
  refine mm_e1 ?_
  refine mm_iv 600 (by rfl) ?_
  show mm_k _ _ _ _ _ [some (.ref 0)] [] ((fun _ => false, 0, 0, true, false, ad), (mm_I0 6 xs), (fun _ _ => 0))
  refine mm_el (c := ¬ (0 : Int32) = 0) (d := (0 : Int32) = 0) (by decide) ?_
  show mm_b _ _ _ _ _ [some (.ref 0)] [] ((fun _ => false, 0, 0, true, false, ad), (mm_I0 6 xs), (fun _ _ => 0))
  refine mm_iv 600 (by rfl) ?_
  show mm_k _ _ _ _ _ [some (.ref 0), some (.int 1)] [] ((fun _ => false, 0, 0, true, false, ad), (mm_I0 6 xs), (fun _ _ => 0))
  refine mm_ob (P := (0 : Int32) = 0 ∨ (0 : Int32) = 1) (by decide) ?_
  refine mm_q1 (r := 0) ⟨rfl, ?_⟩
  show mm_b _ _ _ _ _ [some (.ref 0)] [.int 0] ((fun _ => false, 0, 0, true, false, ad), (zI_465 xs), (fun _ _ => 0))
  refine mm_ob (P := (0 : Int32) = 0 ∨ (0 : Int32) = 1) (by decide) ?_
  refine mm_q1 (r := 0) ?_
  show mm_b _ _ _ _ _ [some (.ref 68), some (.ref 0), some (.ref 46), some (.ref 65), some (.int 0), none, none] [.int 0] ((fun _ => false, 599936, 6869426, true, false, ad), (zI_465 xs), (fun _ _ => 0))
  refine mm_e1 ?_
  refine mm_iv 600 (by rfl) ?_
  show mm_k _ _ _ _ _ [some (.ref 46)] [] ((fun _ => false, 0, 0, true, false, ad), (zI_465 xs), (fun _ _ => 0))
  refine mm_iv 600 (by rfl) ?_
  show mm_k _ _ _ _ _ [some (.ref 46)] [] ((fun _ => false, 0, 0, true, false, ad), (zI_465 xs), (fun _ _ => 0))
  refine mm_q0 ⟨rfl, ?_⟩
  show mm_b _ _ _ _ _ [some (.ref 46)] [] ((fun _ => false, 0, 0, true, false, ad), (zI_467 xs), (fun _ _ => 0))
  refine mm_el (c := ¬ (0 : Int32) = 0) (d := (0 : Int32) = 0) (by decide) ?_
  show mm_b _ _ _ _ _ [some (.ref 46)] [] ((fun _ => false, 0, 0, true, false, ad), (zI_467 xs), (fun _ _ => 0))
  refine mm_iv 600 (by rfl) ?_
  show mm_k _ _ _ _ _ [some (.ref 46), some (.int 1)] [] ((fun _ => false, 0, 0, true, false, ad), (zI_467 xs), (fun _ _ => 0))
  refine mm_ob (P := (0 : Int32) = 0 ∨ (0 : Int32) = 1) (by decide) ?_
  refine mm_q1 (r := 0) ⟨rfl, ?_⟩
  show mm_b _ _ _ _ _ [some (.ref 46)] [.int 0] ((fun _ => false, 0, 0, true, false, ad), (zI_468 xs), (fun _ _ => 0))
  refine mm_ob (P := (0 : Int32) = 0 ∨ (0 : Int32) = 1) (by decide) ?_
  refine mm_q1 (r := 0) ?_
  show mm_b _ _ _ _ _ [some (.ref 68), some (.ref 0), some (.ref 46), some (.ref 65), some (.int 0), none, none] [.int 0, .int 0] ((fun _ => false, 599936, 6869426, true, false, ad), (zI_468 xs), (fun _ _ => 0))
  refine mm_tk (c := (0 : Int32) = 0) (d := ¬ (0 : Int32) = 0) (by decide) ?_
  show mm_u _ _ _ _ _ _ [some (.ref 68), some (.ref 0), some (.ref 46), some (.ref 65), some (.int 0), none, none] [] ((fun _ => false, 599936, 6869426, true, false, ad), (zI_468 xs), (fun _ _ => 0))
  refine mm_tk (c := (((nI 6) - 6) : Int32) < 6) (d := ¬ (((nI 6) - 6) : Int32) < 6) (by decide) ?_
  show mm_u _ _ _ _ _ _ [some (.ref 68), some (.ref 0), some (.ref 46), some (.ref 65), some (.int 6), none, none] [] ((fun _ => false, 599936, 6869426, true, false, ad), (zI_468 xs), (fun _ _ => 0))
  refine mm_ob (P := (1 : Int32) = 0 ∨ (1 : Int32) = 1) (by decide) ?_
  exact rfl
def zI_481 (xs : Nat → Int32) : mmI := mm_up (mm_I0 6 xs) 0 7 1
def zI_482 (xs : Nat → Int32) : mmI := mm_up (zI_481 xs) 46 0 0
def zI_483 (xs : Nat → Int32) : mmI := mm_up (zI_482 xs) 46 11 0
def zI_484 (xs : Nat → Int32) : mmI := mm_up (zI_483 xs) 46 11 1
set_option maxRecDepth 20000 in
set_option maxHeartbeats 4000000 in
theorem op_21 (ad : Nat → Nat) (xs : Nat → Int32) : mm_w (fun v _ => v = some (.int 1)) (mm_wc 210) bk_law 753 [some (.ref 68), some (.ref 0), some (.ref 46), some (.ref 65), some (.int 0), none, none] [] (mm_s0 ad 6 xs) := by
  refine mm_go [] 600 ?_
  refine mm_ob (P := vp_in 1 (nI 6).toNatClampNeg) (mm_inl (by decide)) ?_
  show mm_b _ _ _ _ _ [some (.ref 68), some (.ref 0), some (.ref 46), some (.ref 65), some (.int 0), none, none] [.int (xs 1), .ref 0] ((fun _ => false, 599936, 6869426, true, false, ad), (mm_I0 6 xs), (fun _ _ => 0))
  refine mm_e1 ?_
  refine mm_iv 600 (by rfl) ?_
  show mm_k _ _ _ _ _ [some (.ref 0), some (.int (xs 1))] [] ((fun _ => false, 0, 0, true, false, ad), (mm_I0 6 xs), (fun _ _ => 0))
  refine mm_iv 600 (by rfl) ?_
  show mm_k _ _ _ _ _ [some (.ref 0), some (.int (xs 1))] [] ((fun _ => false, 0, 0, true, false, ad), (mm_I0 6 xs), (fun _ _ => 0))
  refine mm_tk (c := (0 : Int32) = 0) (d := ¬ (0 : Int32) = 0) (by decide) ?_
  show mm_u _ _ _ _ _ _ [some (.ref 0), some (.int (xs 1))] [] ((fun _ => false, 0, 0, true, false, ad), (mm_I0 6 xs), (fun _ _ => 0))
  refine mm_ob (P := (0 : Int32) = 0 ∨ (0 : Int32) = 1) (by decide) ?_
  refine mm_q1 (r := 0) ⟨rfl, ?_⟩
  show mm_b _ _ _ _ _ [some (.ref 0), some (.int (xs 1))] [.int 0] ((fun _ => false, 0, 0, true, false, ad), (mm_I0 6 xs), (fun _ _ => 0))
  refine mm_el (c := ¬ (0 : Int32) = 0) (d := (0 : Int32) = 0) (by decide) ?_
  show mm_b _ _ _ _ _ [some (.ref 0), some (.int (xs 1))] [] ((fun _ => false, 0, 0, true, false, ad), (mm_I0 6 xs), (fun _ _ => 0))
  refine mm_iv 600 (by rfl) ?_
  show mm_k _ _ _ _ _ [some (.ref 0), some (.int 1)] [] ((fun _ => false, 0, 0, true, false, ad), (mm_I0 6 xs), (fun _ _ => 0))
  refine mm_q1 (r := (-1)) ⟨rfl, ?_⟩
  show mm_b _ _ _ _ _ [some (.ref 0), some (.int (xs 1))] [.int (-1)] ((fun _ => false, 0, 0, true, false, ad), (zI_481 xs), (fun _ _ => 0))
  refine mm_q1 (r := (-1)) ?_
  show mm_b _ _ _ _ _ [some (.ref 68), some (.ref 0), some (.ref 46), some (.ref 65), some (.int 0), none, none] [.int (-1)] ((fun _ => false, 599936, 6869426, true, false, ad), (zI_481 xs), (fun _ _ => 0))
  refine mm_ob (P := vp_in 1 (nI 6).toNatClampNeg) (mm_inl (by decide)) ?_
  show mm_b _ _ _ _ _ [some (.ref 68), some (.ref 0), some (.ref 46), some (.ref 65), some (.int 0), none, none] [.int (xs 1), .ref 46, .int (-1)] ((fun _ => false, 599936, 6869426, true, false, ad), (zI_481 xs), (fun _ _ => 0))
  refine mm_e1 ?_
  refine mm_iv 600 (by rfl) ?_
  show mm_k _ _ _ _ _ [some (.ref 46), some (.int (xs 1))] [] ((fun _ => false, 0, 0, true, false, ad), (zI_481 xs), (fun _ _ => 0))
  refine mm_iv 600 (by rfl) ?_
  show mm_k _ _ _ _ _ [some (.ref 46)] [] ((fun _ => false, 0, 0, true, false, ad), (zI_481 xs), (fun _ _ => 0))
  refine mm_q0 ⟨rfl, ?_⟩
  show mm_b _ _ _ _ _ [some (.ref 46), some (.int (xs 1))] [] ((fun _ => false, 0, 0, true, false, ad), (zI_483 xs), (fun _ _ => 0))
  refine mm_iv 600 (by rfl) ?_
  show mm_k _ _ _ _ _ [some (.ref 46), some (.int (xs 1))] [] ((fun _ => false, 0, 0, true, false, ad), (zI_483 xs), (fun _ _ => 0))
  refine mm_tk (c := (0 : Int32) = 0) (d := ¬ (0 : Int32) = 0) (by decide) ?_
  show mm_u _ _ _ _ _ _ [some (.ref 46), some (.int (xs 1))] [] ((fun _ => false, 0, 0, true, false, ad), (zI_483 xs), (fun _ _ => 0))
  refine mm_ob (P := (0 : Int32) = 0 ∨ (0 : Int32) = 1) (by decide) ?_
  refine mm_q1 (r := 0) ⟨rfl, ?_⟩
  show mm_b _ _ _ _ _ [some (.ref 46), some (.int (xs 1))] [.int 0] ((fun _ => false, 0, 0, true, false, ad), (zI_483 xs), (fun _ _ => 0))
  refine mm_el (c := ¬ (0 : Int32) = 0) (d := (0 : Int32) = 0) (by decide) ?_
  show mm_b _ _ _ _ _ [some (.ref 46), some (.int (xs 1))] [] ((fun _ => false, 0, 0, true, false, ad), (zI_483 xs), (fun _ _ => 0))
  refine mm_iv 600 (by rfl) ?_
  show mm_k _ _ _ _ _ [some (.ref 46), some (.int 1)] [] ((fun _ => false, 0, 0, true, false, ad), (zI_483 xs), (fun _ _ => 0))
  refine mm_q1 (r := (-1)) ⟨rfl, ?_⟩
  show mm_b _ _ _ _ _ [some (.ref 46), some (.int (xs 1))] [.int (-1)] ((fun _ => false, 0, 0, true, false, ad), (zI_484 xs), (fun _ _ => 0))
  refine mm_q1 (r := (-1)) ?_
  show mm_b _ _ _ _ _ [some (.ref 68), some (.ref 0), some (.ref 46), some (.ref 65), some (.int 0), none, none] [.int (-1), .int (-1)] ((fun _ => false, 599936, 6869426, true, false, ad), (zI_484 xs), (fun _ _ => 0))
  refine mm_tk (c := ((-1) : Int32) = (-1)) (d := ¬ ((-1) : Int32) = (-1)) (by decide) ?_
  show mm_u _ _ _ _ _ _ [some (.ref 68), some (.ref 0), some (.ref 46), some (.ref 65), some (.int 0), none, none] [] ((fun _ => false, 599936, 6869426, true, false, ad), (zI_484 xs), (fun _ _ => 0))
  refine mm_tk (c := (((nI 6) - 6) : Int32) < 6) (d := ¬ (((nI 6) - 6) : Int32) < 6) (by decide) ?_
  show mm_u _ _ _ _ _ _ [some (.ref 68), some (.ref 0), some (.ref 46), some (.ref 65), some (.int 6), none, none] [] ((fun _ => false, 599936, 6869426, true, false, ad), (zI_484 xs), (fun _ _ => 0))
  refine mm_ob (P := (1 : Int32) = 0 ∨ (1 : Int32) = 1) (by decide) ?_
  exact rfl
def zI_497 (xs : Nat → Int32) : mmI := mm_up (mm_I0 6 xs) 0 7 1
def zI_498 (xs : Nat → Int32) : mmI := mm_up (zI_497 xs) 46 0 0
def zI_499 (xs : Nat → Int32) : mmI := mm_up (zI_498 xs) 46 11 0
def zI_500 (xs : Nat → Int32) : mmI := mm_up (zI_499 xs) 46 11 1
set_option maxRecDepth 20000 in
set_option maxHeartbeats 4000000 in
theorem op_25 (ad : Nat → Nat) (xs : Nat → Int32) : mm_w (fun v _ => v = some (.int 1)) (mm_wc 210) bk_law 853 [some (.ref 68), some (.ref 0), some (.ref 46), some (.ref 65), some (.int 0), none, none] [] (mm_s0 ad 6 xs) := by
  refine mm_go [] 600 ?_
  refine mm_e1 ?_
  refine mm_iv 600 (by rfl) ?_
  show mm_k _ _ _ _ _ [some (.ref 0), none] [] ((fun _ => false, 0, 0, true, false, ad), (mm_I0 6 xs), (fun _ _ => 0))
  refine mm_el (c := ¬ (0 : Int32) = 0) (d := (0 : Int32) = 0) (by decide) ?_
  show mm_b _ _ _ _ _ [some (.ref 0), none] [] ((fun _ => false, 0, 0, true, false, ad), (mm_I0 6 xs), (fun _ _ => 0))
  refine mm_iv 600 (by rfl) ?_
  show mm_k _ _ _ _ _ [some (.ref 0), some (.int 1)] [] ((fun _ => false, 0, 0, true, false, ad), (mm_I0 6 xs), (fun _ _ => 0))
  refine mm_q1 (r := (-1)) ⟨rfl, ?_⟩
  show mm_b _ _ _ _ _ [some (.ref 0), none] [.int (-1)] ((fun _ => false, 0, 0, true, false, ad), (zI_497 xs), (fun _ _ => 0))
  refine mm_q1 (r := (-1)) ?_
  show mm_b _ _ _ _ _ [some (.ref 68), some (.ref 0), some (.ref 46), some (.ref 65), some (.int 0), none, none] [.int (-1)] ((fun _ => false, 599936, 6869426, true, false, ad), (zI_497 xs), (fun _ _ => 0))
  refine mm_e1 ?_
  refine mm_iv 600 (by rfl) ?_
  show mm_k _ _ _ _ _ [some (.ref 46), none] [] ((fun _ => false, 0, 0, true, false, ad), (zI_497 xs), (fun _ _ => 0))
  refine mm_iv 600 (by rfl) ?_
  show mm_k _ _ _ _ _ [some (.ref 46)] [] ((fun _ => false, 0, 0, true, false, ad), (zI_497 xs), (fun _ _ => 0))
  refine mm_q0 ⟨rfl, ?_⟩
  show mm_b _ _ _ _ _ [some (.ref 46), none] [] ((fun _ => false, 0, 0, true, false, ad), (zI_499 xs), (fun _ _ => 0))
  refine mm_el (c := ¬ (0 : Int32) = 0) (d := (0 : Int32) = 0) (by decide) ?_
  show mm_b _ _ _ _ _ [some (.ref 46), none] [] ((fun _ => false, 0, 0, true, false, ad), (zI_499 xs), (fun _ _ => 0))
  refine mm_iv 600 (by rfl) ?_
  show mm_k _ _ _ _ _ [some (.ref 46), some (.int 1)] [] ((fun _ => false, 0, 0, true, false, ad), (zI_499 xs), (fun _ _ => 0))
  refine mm_q1 (r := (-1)) ⟨rfl, ?_⟩
  show mm_b _ _ _ _ _ [some (.ref 46), none] [.int (-1)] ((fun _ => false, 0, 0, true, false, ad), (zI_500 xs), (fun _ _ => 0))
  refine mm_q1 (r := (-1)) ?_
  show mm_b _ _ _ _ _ [some (.ref 68), some (.ref 0), some (.ref 46), some (.ref 65), some (.int 0), none, none] [.int (-1), .int (-1)] ((fun _ => false, 599936, 6869426, true, false, ad), (zI_500 xs), (fun _ _ => 0))
  refine mm_tk (c := ((-1) : Int32) = (-1)) (d := ¬ ((-1) : Int32) = (-1)) (by decide) ?_
  show mm_u _ _ _ _ _ _ [some (.ref 68), some (.ref 0), some (.ref 46), some (.ref 65), some (.int 0), none, none] [] ((fun _ => false, 599936, 6869426, true, false, ad), (zI_500 xs), (fun _ _ => 0))
  refine mm_tk (c := (((nI 6) - 6) : Int32) < 6) (d := ¬ (((nI 6) - 6) : Int32) < 6) (by decide) ?_
  show mm_u _ _ _ _ _ _ [some (.ref 68), some (.ref 0), some (.ref 46), some (.ref 65), some (.int 6), none, none] [] ((fun _ => false, 599936, 6869426, true, false, ad), (zI_500 xs), (fun _ _ => 0))
  refine mm_ob (P := (1 : Int32) = 0 ∨ (1 : Int32) = 1) (by decide) ?_
  exact rfl
def zI_513 (xs : Nat → Int32) : mmI := mm_up (mm_I0 6 xs) 0 7 1
def zI_514 (xs : Nat → Int32) : mmI := mm_up (zI_513 xs) 46 0 0
def zI_515 (xs : Nat → Int32) : mmI := mm_up (zI_514 xs) 46 11 0
def zI_516 (xs : Nat → Int32) : mmI := mm_up (zI_515 xs) 46 11 1
set_option maxRecDepth 20000 in
set_option maxHeartbeats 4000000 in
theorem op_29 (ad : Nat → Nat) (xs : Nat → Int32) : mm_w (fun v _ => v = some (.int 1)) (mm_wc 210) bk_law 917 [some (.ref 68), some (.ref 0), some (.ref 46), some (.ref 65), some (.int 0), none, none] [] (mm_s0 ad 6 xs) := by
  refine mm_go [] 600 ?_
  refine mm_ob (P := vp_in 1 (nI 6).toNatClampNeg) (mm_inl (by decide)) ?_
  show mm_b _ _ _ _ _ [some (.ref 68), some (.ref 0), some (.ref 46), some (.ref 65), some (.int 0), none, none] [.int (xs 1), .ref 0] ((fun _ => false, 599936, 6869426, true, false, ad), (mm_I0 6 xs), (fun _ _ => 0))
  refine mm_e1 ?_
  refine mm_iv 600 (by rfl) ?_
  show mm_k _ _ _ _ _ [some (.ref 0), some (.int (xs 1))] [] ((fun _ => false, 0, 0, true, false, ad), (mm_I0 6 xs), (fun _ _ => 0))
  refine mm_el (c := ¬ (0 : Int32) = 0) (d := (0 : Int32) = 0) (by decide) ?_
  show mm_b _ _ _ _ _ [some (.ref 0), some (.int (xs 1))] [] ((fun _ => false, 0, 0, true, false, ad), (mm_I0 6 xs), (fun _ _ => 0))
  refine mm_iv 600 (by rfl) ?_
  show mm_k _ _ _ _ _ [some (.ref 0), some (.int 1)] [] ((fun _ => false, 0, 0, true, false, ad), (mm_I0 6 xs), (fun _ _ => 0))
  refine mm_q1 (r := (-1)) ⟨rfl, ?_⟩
  show mm_b _ _ _ _ _ [some (.ref 0), some (.int (xs 1))] [.int (-1)] ((fun _ => false, 0, 0, true, false, ad), (zI_513 xs), (fun _ _ => 0))
  refine mm_q1 (r := (-1)) ?_
  show mm_b _ _ _ _ _ [some (.ref 68), some (.ref 0), some (.ref 46), some (.ref 65), some (.int 0), none, none] [.int (-1)] ((fun _ => false, 599936, 6869426, true, false, ad), (zI_513 xs), (fun _ _ => 0))
  refine mm_ob (P := vp_in 1 (nI 6).toNatClampNeg) (mm_inl (by decide)) ?_
  show mm_b _ _ _ _ _ [some (.ref 68), some (.ref 0), some (.ref 46), some (.ref 65), some (.int 0), none, none] [.int (xs 1), .ref 46, .int (-1)] ((fun _ => false, 599936, 6869426, true, false, ad), (zI_513 xs), (fun _ _ => 0))
  refine mm_e1 ?_
  refine mm_iv 600 (by rfl) ?_
  show mm_k _ _ _ _ _ [some (.ref 46), some (.int (xs 1)), none, none, none] [] ((fun _ => false, 0, 0, true, false, ad), (zI_513 xs), (fun _ _ => 0))
  refine mm_iv 600 (by rfl) ?_
  show mm_k _ _ _ _ _ [some (.ref 46)] [] ((fun _ => false, 0, 0, true, false, ad), (zI_513 xs), (fun _ _ => 0))
  refine mm_q0 ⟨rfl, ?_⟩
  show mm_b _ _ _ _ _ [some (.ref 46), some (.int (xs 1)), none, none, none] [] ((fun _ => false, 0, 0, true, false, ad), (zI_515 xs), (fun _ _ => 0))
  refine mm_el (c := ¬ (0 : Int32) = 0) (d := (0 : Int32) = 0) (by decide) ?_
  show mm_b _ _ _ _ _ [some (.ref 46), some (.int (xs 1)), none, none, none] [] ((fun _ => false, 0, 0, true, false, ad), (zI_515 xs), (fun _ _ => 0))
  refine mm_iv 600 (by rfl) ?_
  show mm_k _ _ _ _ _ [some (.ref 46), some (.int 1)] [] ((fun _ => false, 0, 0, true, false, ad), (zI_515 xs), (fun _ _ => 0))
  refine mm_q1 (r := (-1)) ⟨rfl, ?_⟩
  show mm_b _ _ _ _ _ [some (.ref 46), some (.int (xs 1)), none, none, none] [.int (-1)] ((fun _ => false, 0, 0, true, false, ad), (zI_516 xs), (fun _ _ => 0))
  refine mm_q1 (r := (-1)) ?_
  show mm_b _ _ _ _ _ [some (.ref 68), some (.ref 0), some (.ref 46), some (.ref 65), some (.int 0), none, none] [.int (-1), .int (-1)] ((fun _ => false, 599936, 6869426, true, false, ad), (zI_516 xs), (fun _ _ => 0))
  refine mm_tk (c := ((-1) : Int32) = (-1)) (d := ¬ ((-1) : Int32) = (-1)) (by decide) ?_
  show mm_u _ _ _ _ _ _ [some (.ref 68), some (.ref 0), some (.ref 46), some (.ref 65), some (.int 0), none, none] [] ((fun _ => false, 599936, 6869426, true, false, ad), (zI_516 xs), (fun _ _ => 0))
  refine mm_tk (c := (((nI 6) - 6) : Int32) < 6) (d := ¬ (((nI 6) - 6) : Int32) < 6) (by decide) ?_
  show mm_u _ _ _ _ _ _ [some (.ref 68), some (.ref 0), some (.ref 46), some (.ref 65), some (.int 6), none, none] [] ((fun _ => false, 599936, 6869426, true, false, ad), (zI_516 xs), (fun _ _ => 0))
  refine mm_ob (P := (1 : Int32) = 0 ∨ (1 : Int32) = 1) (by decide) ?_
  exact rfl
def zI_537 (xs : Nat → Int32) : mmI := mm_up (mm_I0 6 xs) 0 7 1
def zI_538 (xs : Nat → Int32) : mmI := mm_up (zI_537 xs) 46 0 0
def zI_539 (xs : Nat → Int32) : mmI := mm_up (zI_538 xs) 46 11 0
def zI_540 (xs : Nat → Int32) : mmI := mm_up (zI_539 xs) 46 11 1
set_option maxRecDepth 20000 in
set_option maxHeartbeats 4000000 in
theorem op_33 (ad : Nat → Nat) (xs : Nat → Int32) : mm_w (fun v _ => v = some (.int 1)) (mm_wc 210) bk_law 1075 [some (.ref 68), some (.ref 0), some (.ref 46), some (.ref 65), some (.int 0), none, none] [] (mm_s0 ad 6 xs) := by
  refine mm_go [] 600 ?_
  refine mm_ob (P := vp_in 1 (nI 6).toNatClampNeg) (mm_inl (by decide)) ?_
  show mm_b _ _ _ _ _ [some (.ref 68), some (.ref 0), some (.ref 46), some (.ref 65), some (.int 0), none, none] [.int (xs 1), .ref 0] ((fun _ => false, 599936, 6869426, true, false, ad), (mm_I0 6 xs), (fun _ _ => 0))
  refine mm_e1 ?_
  refine mm_iv 600 (by rfl) ?_
  show mm_k _ _ _ _ _ [some (.ref 0), some (.int (xs 1))] [] ((fun _ => false, 0, 0, true, false, ad), (mm_I0 6 xs), (fun _ _ => 0))
  refine mm_iv 600 (by rfl) ?_
  show mm_k _ _ _ _ _ [some (.ref 0), some (.int (xs 1))] [] ((fun _ => false, 0, 0, true, false, ad), (mm_I0 6 xs), (fun _ _ => 0))
  refine mm_iv 600 (by rfl) ?_
  show mm_k _ _ _ _ _ [some (.ref 0), some (.int (xs 1)), some (.int 2)] [] ((fun _ => false, 0, 0, true, false, ad), (mm_I0 6 xs), (fun _ _ => 0))
  refine mm_el (c := ¬ (0 : Int32) = 0) (d := (0 : Int32) = 0) (by decide) ?_
  show mm_b _ _ _ _ _ [some (.ref 0), some (.int (xs 1)), some (.int 2)] [] ((fun _ => false, 0, 0, true, false, ad), (mm_I0 6 xs), (fun _ _ => 0))
  refine mm_ob (P := (1 : Int32) = 0 ∨ (1 : Int32) = 1) (by decide) ?_
  refine mm_q1 (r := 1) ⟨rfl, ?_⟩
  show mm_b _ _ _ _ _ [some (.ref 0), some (.int (xs 1))] [.int 1] ((fun _ => false, 0, 0, true, false, ad), (zI_537 xs), (fun _ _ => 0))
  refine mm_el (c := (1 : Int32) = 0) (d := ¬ (1 : Int32) = 0) (by decide) ?_
  show mm_b _ _ _ _ _ [some (.ref 0), some (.int (xs 1))] [] ((fun _ => false, 0, 0, true, false, ad), (zI_537 xs), (fun _ _ => 0))
  refine mm_ob (P := (1 : Int32) = 0 ∨ (1 : Int32) = 1) (by decide) ?_
  refine mm_q1 (r := 1) ⟨rfl, ?_⟩
  show mm_b _ _ _ _ _ [some (.ref 0), some (.int (xs 1))] [.int 1] ((fun _ => false, 0, 0, true, false, ad), (zI_537 xs), (fun _ _ => 0))
  refine mm_el (c := (1 : Int32) = 0) (d := ¬ (1 : Int32) = 0) (by decide) ?_
  show mm_b _ _ _ _ _ [some (.ref 0), some (.int (xs 1))] [] ((fun _ => false, 0, 0, true, false, ad), (zI_537 xs), (fun _ _ => 0))
  refine mm_q1 (r := (-1)) ?_
  show mm_b _ _ _ _ _ [some (.ref 68), some (.ref 0), some (.ref 46), some (.ref 65), some (.int 0), none, none] [.int (-1)] ((fun _ => false, 599936, 6869426, true, false, ad), (zI_537 xs), (fun _ _ => 0))
  refine mm_ob (P := vp_in 1 (nI 6).toNatClampNeg) (mm_inl (by decide)) ?_
  show mm_b _ _ _ _ _ [some (.ref 68), some (.ref 0), some (.ref 46), some (.ref 65), some (.int 0), none, none] [.int (xs 1), .ref 46, .int (-1)] ((fun _ => false, 599936, 6869426, true, false, ad), (zI_537 xs), (fun _ _ => 0))
  refine mm_e1 ?_
  refine mm_iv 600 (by rfl) ?_
  show mm_k _ _ _ _ _ [some (.ref 46), some (.int (xs 1)), none] [] ((fun _ => false, 0, 0, true, false, ad), (zI_537 xs), (fun _ _ => 0))
  refine mm_iv 600 (by rfl) ?_
  show mm_k _ _ _ _ _ [some (.ref 46)] [] ((fun _ => false, 0, 0, true, false, ad), (zI_537 xs), (fun _ _ => 0))
  refine mm_q0 ⟨rfl, ?_⟩
  show mm_b _ _ _ _ _ [some (.ref 46), some (.int (xs 1)), none] [] ((fun _ => false, 0, 0, true, false, ad), (zI_539 xs), (fun _ _ => 0))
  refine mm_iv 600 (by rfl) ?_
  show mm_k _ _ _ _ _ [some (.ref 46), some (.int (xs 1)), none] [] ((fun _ => false, 0, 0, true, false, ad), (zI_539 xs), (fun _ _ => 0))
  refine mm_iv 600 (by rfl) ?_
  show mm_k _ _ _ _ _ [some (.ref 46), some (.int (xs 1)), some (.int 2)] [] ((fun _ => false, 0, 0, true, false, ad), (zI_539 xs), (fun _ _ => 0))
  refine mm_el (c := ¬ (0 : Int32) = 0) (d := (0 : Int32) = 0) (by decide) ?_
  show mm_b _ _ _ _ _ [some (.ref 46), some (.int (xs 1)), some (.int 2)] [] ((fun _ => false, 0, 0, true, false, ad), (zI_539 xs), (fun _ _ => 0))
  refine mm_q1 (r := 1) ⟨rfl, ?_⟩
  show mm_b _ _ _ _ _ [some (.ref 46), some (.int (xs 1)), none] [.int 1] ((fun _ => false, 0, 0, true, false, ad), (zI_539 xs), (fun _ _ => 0))
  refine mm_tk (c := ¬ (1 : Int32) = 0) (d := (1 : Int32) = 0) (by decide) ?_
  show mm_u _ _ _ _ _ _ [some (.ref 46), some (.int (xs 1)), some (.int 1)] [] ((fun _ => false, 0, 0, true, false, ad), (zI_539 xs), (fun _ _ => 0))
  refine mm_q1 (r := 1) ⟨rfl, ?_⟩
  show mm_b _ _ _ _ _ [some (.ref 46), some (.int (xs 1)), none] [.int 1] ((fun _ => false, 0, 0, true, false, ad), (zI_539 xs), (fun _ _ => 0))
  refine mm_el (c := (1 : Int32) = 0) (d := ¬ (1 : Int32) = 0) (by decide) ?_
  show mm_b _ _ _ _ _ [some (.ref 46), some (.int (xs 1)), some (.int 1)] [] ((fun _ => false, 0, 0, true, false, ad), (zI_539 xs), (fun _ _ => 0))
  refine mm_iv 600 (by rfl) ?_
  show mm_k _ _ _ _ _ [some (.ref 46), some (.int 1)] [] ((fun _ => false, 0, 0, true, false, ad), (zI_539 xs), (fun _ _ => 0))
  refine mm_q1 (r := (-1)) ⟨rfl, ?_⟩
  show mm_b _ _ _ _ _ [some (.ref 46), some (.int (xs 1)), some (.int 1)] [.int (-1)] ((fun _ => false, 0, 0, true, false, ad), (zI_540 xs), (fun _ _ => 0))
  refine mm_q1 (r := (-1)) ?_
  show mm_b _ _ _ _ _ [some (.ref 68), some (.ref 0), some (.ref 46), some (.ref 65), some (.int 0), none, none] [.int (-1), .int (-1)] ((fun _ => false, 599936, 6869426, true, false, ad), (zI_540 xs), (fun _ _ => 0))
  refine mm_tk (c := ((-1) : Int32) = (-1)) (d := ¬ ((-1) : Int32) = (-1)) (by decide) ?_
  show mm_u _ _ _ _ _ _ [some (.ref 68), some (.ref 0), some (.ref 46), some (.ref 65), some (.int 0), none, none] [] ((fun _ => false, 599936, 6869426, true, false, ad), (zI_540 xs), (fun _ _ => 0))
  refine mm_tk (c := (((nI 6) - 6) : Int32) < 6) (d := ¬ (((nI 6) - 6) : Int32) < 6) (by decide) ?_
  show mm_u _ _ _ _ _ _ [some (.ref 68), some (.ref 0), some (.ref 46), some (.ref 65), some (.int 6), none, none] [] ((fun _ => false, 599936, 6869426, true, false, ad), (zI_540 xs), (fun _ _ => 0))
  refine mm_ob (P := (1 : Int32) = 0 ∨ (1 : Int32) = 1) (by decide) ?_
  exact rfl
def zI_565 (xs : Nat → Int32) : mmI := mm_up (mm_I0 6 xs) 0 7 1
def zI_566 (xs : Nat → Int32) : mmI := mm_up (zI_565 xs) 46 0 0
def zI_567 (xs : Nat → Int32) : mmI := mm_up (zI_566 xs) 46 11 0
def zI_568 (xs : Nat → Int32) : mmI := mm_up (zI_567 xs) 46 11 1
set_option maxRecDepth 20000 in
set_option maxHeartbeats 4000000 in
theorem op_37 (ad : Nat → Nat) (xs : Nat → Int32) : mm_w (fun v _ => v = some (.int 1)) (mm_wc 210) bk_law 1199 [some (.ref 68), some (.ref 0), some (.ref 46), some (.ref 65), some (.int 0), none, none] [] (mm_s0 ad 6 xs) := by
  refine mm_go [] 600 ?_
  refine mm_e1 ?_
  refine mm_iv 600 (by rfl) ?_
  show mm_k _ _ _ _ _ [some (.ref 0), none] [] ((fun _ => false, 0, 0, true, false, ad), (mm_I0 6 xs), (fun _ _ => 0))
  refine mm_el (c := ¬ (0 : Int32) = 0) (d := (0 : Int32) = 0) (by decide) ?_
  show mm_b _ _ _ _ _ [some (.ref 0), none] [] ((fun _ => false, 0, 0, true, false, ad), (mm_I0 6 xs), (fun _ _ => 0))
  refine mm_iv 600 (by rfl) ?_
  show mm_k _ _ _ _ _ [some (.ref 0), some (.int 1)] [] ((fun _ => false, 0, 0, true, false, ad), (mm_I0 6 xs), (fun _ _ => 0))
  refine mm_q1 (r := (-1)) ⟨rfl, ?_⟩
  show mm_b _ _ _ _ _ [some (.ref 0), none] [.int (-1)] ((fun _ => false, 0, 0, true, false, ad), (zI_565 xs), (fun _ _ => 0))
  refine mm_q1 (r := (-1)) ?_
  show mm_b _ _ _ _ _ [some (.ref 68), some (.ref 0), some (.ref 46), some (.ref 65), some (.int 0), none, none] [.int (-1)] ((fun _ => false, 599936, 6869426, true, false, ad), (zI_565 xs), (fun _ _ => 0))
  refine mm_e1 ?_
  refine mm_iv 600 (by rfl) ?_
  show mm_k _ _ _ _ _ [some (.ref 46)] [] ((fun _ => false, 0, 0, true, false, ad), (zI_565 xs), (fun _ _ => 0))
  refine mm_iv 600 (by rfl) ?_
  show mm_k _ _ _ _ _ [some (.ref 46)] [] ((fun _ => false, 0, 0, true, false, ad), (zI_565 xs), (fun _ _ => 0))
  refine mm_q0 ⟨rfl, ?_⟩
  show mm_b _ _ _ _ _ [some (.ref 46)] [] ((fun _ => false, 0, 0, true, false, ad), (zI_567 xs), (fun _ _ => 0))
  refine mm_el (c := ¬ (0 : Int32) = 0) (d := (0 : Int32) = 0) (by decide) ?_
  show mm_b _ _ _ _ _ [some (.ref 46)] [] ((fun _ => false, 0, 0, true, false, ad), (zI_567 xs), (fun _ _ => 0))
  refine mm_iv 600 (by rfl) ?_
  show mm_k _ _ _ _ _ [some (.ref 46), some (.int 1)] [] ((fun _ => false, 0, 0, true, false, ad), (zI_567 xs), (fun _ _ => 0))
  refine mm_q1 (r := (-1)) ⟨rfl, ?_⟩
  show mm_b _ _ _ _ _ [some (.ref 46)] [.int (-1)] ((fun _ => false, 0, 0, true, false, ad), (zI_568 xs), (fun _ _ => 0))
  refine mm_q1 (r := (-1)) ?_
  show mm_b _ _ _ _ _ [some (.ref 68), some (.ref 0), some (.ref 46), some (.ref 65), some (.int 0), none, none] [.int (-1), .int (-1)] ((fun _ => false, 599936, 6869426, true, false, ad), (zI_568 xs), (fun _ _ => 0))
  refine mm_tk (c := ((-1) : Int32) = (-1)) (d := ¬ ((-1) : Int32) = (-1)) (by decide) ?_
  show mm_u _ _ _ _ _ _ [some (.ref 68), some (.ref 0), some (.ref 46), some (.ref 65), some (.int 0), none, none] [] ((fun _ => false, 599936, 6869426, true, false, ad), (zI_568 xs), (fun _ _ => 0))
  refine mm_tk (c := (((nI 6) - 6) : Int32) < 6) (d := ¬ (((nI 6) - 6) : Int32) < 6) (by decide) ?_
  show mm_u _ _ _ _ _ _ [some (.ref 68), some (.ref 0), some (.ref 46), some (.ref 65), some (.int 6), none, none] [] ((fun _ => false, 599936, 6869426, true, false, ad), (zI_568 xs), (fun _ _ => 0))
  refine mm_ob (P := (1 : Int32) = 0 ∨ (1 : Int32) = 1) (by decide) ?_
  exact rfl
def zI_591 (xs : Nat → Int32) : mmI := mm_up (mm_I0 6 xs) 46 0 0
set_option maxRecDepth 20000 in
set_option maxHeartbeats 4000000 in
theorem op_41 (ad : Nat → Nat) (xs : Nat → Int32) : mm_w (fun v _ => v = some (.int 1)) (mm_wc 210) bk_law 1318 [some (.ref 68), some (.ref 0), some (.ref 46), some (.ref 65), some (.int 0), none, none] [] (mm_s0 ad 6 xs) := by
  refine mm_go [] 600 ?_
  refine mm_e1 ?_
  refine mm_iv 600 (by rfl) ?_
  show mm_k _ _ _ _ _ [some (.ref 0)] [] ((fun _ => false, 0, 0, true, false, ad), (mm_I0 6 xs), (fun _ _ => 0))
  refine mm_q1 (r := 0) ?_
  show mm_b _ _ _ _ _ [some (.ref 68), some (.ref 0), some (.ref 46), some (.ref 65), some (.int 0), none, none] [.int 0] ((fun _ => false, 599936, 6869426, true, false, ad), (mm_I0 6 xs), (fun _ _ => 0))
  refine mm_e1 ?_
  refine mm_iv 600 (by rfl) ?_
  show mm_k _ _ _ _ _ [some (.ref 46)] [] ((fun _ => false, 0, 0, true, false, ad), (mm_I0 6 xs), (fun _ _ => 0))
  refine mm_q1 (r := 0) ?_
  show mm_b _ _ _ _ _ [some (.ref 68), some (.ref 0), some (.ref 46), some (.ref 65), some (.int 0), none, none] [.int 0, .int 0] ((fun _ => false, 599936, 6869426, true, false, ad), (zI_591 xs), (fun _ _ => 0))
  refine mm_tk (c := (0 : Int32) = 0) (d := ¬ (0 : Int32) = 0) (by decide) ?_
  show mm_u _ _ _ _ _ _ [some (.ref 68), some (.ref 0), some (.ref 46), some (.ref 65), some (.int 0), none, none] [] ((fun _ => false, 599936, 6869426, true, false, ad), (zI_591 xs), (fun _ _ => 0))
  refine mm_tk (c := (((nI 6) - 6) : Int32) < 6) (d := ¬ (((nI 6) - 6) : Int32) < 6) (by decide) ?_
  show mm_u _ _ _ _ _ _ [some (.ref 68), some (.ref 0), some (.ref 46), some (.ref 65), some (.int 6), none, none] [] ((fun _ => false, 599936, 6869426, true, false, ad), (zI_591 xs), (fun _ _ => 0))
  refine mm_ob (P := (1 : Int32) = 0 ∨ (1 : Int32) = 1) (by decide) ?_
  exact rfl
