/-! one call on a fresh object: the calls -/
/- needs: 0 1 20 21 22 23 24 25 26 27 28 29 30 32 40 41 42 50 -/
def zI_407 (xs : Nat → Int32) : mmI := mm_up (mm_I0 6 xs) 46 0 0
set_option maxRecDepth 20000 in
set_option maxHeartbeats 4000000 in
theorem op_2 (ad : Nat → Nat) (xs : Nat → Int32) : mm_w (fun v _ => v = some (.int 1)) (mm_wc 210) bk_law 322 [some (.ref 68), some (.ref 0), some (.ref 46), some (.ref 65), some (.int 0), none, none] [] (mm_s0 ad 6 xs) := by
  refine mm_go [] 600 ?_
  refine mm_e1 ?_
  refine mm_iv 600 (by rfl) ?_
  show mm_k _ _ _ _ _ [some (.ref 0)] [] ((fun _ => false, 0, 0, true, false, ad), (mm_I0 6 xs), (fun _ _ => 0))
  refine mm_q1 (r := 0) ?_
  show mm_b _ _ _ _ _ [some (.ref 68), some (.ref 0), some (.ref 46), some (.ref 65), some (.int 0), none, none] [.int 0] ((fun _ => false, 599936, 6869426, true, false, ad), (mm_I0 6 xs), (fun _ _ => 0))
  refine mm_e1 ?_
  refine mm_iv 600 (by rfl) ?_
  show mm_k _ _ _ _ _ [some (.ref 46)] [] ((fun _ => false, 0, 0, true, false, ad), (mm_I0 6 xs), (fun _ _ => 0))
  refine mm_q1 (r := 0) ?_
  show mm_b _ _ _ _ _ [some (.ref 68), some (.ref 0), some (.ref 46), some (.ref 65), some (.int 0), none, none] [.int 0, .int 0] ((fun _ => false, 599936, 6869426, true, false, ad), (zI_407 xs), (fun _ _ => 0))
  refine mm_tk (c := (0 : Int32) = 0) (d := ¬ (0 : Int32) = 0) (by decide) ?_
  show mm_u _ _ _ _ _ _ [some (.ref 68), some (.ref 0), some (.ref 46), some (.ref 65), some (.int 0), none, none] [] ((fun _ => false, 599936, 6869426, true, false, ad), (zI_407 xs), (fun _ _ => 0))
  refine mm_tk (c := (((nI 6) - 6) : Int32) < 6) (d := ¬ (((nI 6) - 6) : Int32) < 6) (by decide) ?_
  show mm_u _ _ _ _ _ _ [some (.ref 68), some (.ref 0), some (.ref 46), some (.ref 65), some (.int 6), none, none] [] ((fun _ => false, 599936, 6869426, true, false, ad), (zI_407 xs), (fun _ _ => 0))
  refine mm_ob (P := (1 : Int32) = 0 ∨ (1 : Int32) = 1) (by decide) ?_
  exact rfl
def zI_417 (xs : Nat → Int32) : mmI := mm_up (mm_I0 6 xs) 0 7 1
def zI_418 (xs : Nat → Int32) : mmI := mm_up (zI_417 xs) 46 0 0
def zI_419 (xs : Nat → Int32) : mmI := mm_up (zI_418 xs) 46 11 0
def zI_420 (xs : Nat → Int32) : mmI := mm_up (zI_419 xs) 46 11 1
set_option maxRecDepth 20000 in
set_option maxHeartbeats 4000000 in
theorem op_6 (ad : Nat → Nat) (xs : Nat → Int32) : mm_w (fun v _ => v = some (.int 1)) (mm_wc 210) bk_law 410 [some (.ref 68), some (.ref 0), some (.ref 46), some (.ref 65), some (.int 0), none, none] [] (mm_s0 ad 6 xs) := by
  refine mm_go [] 600 ?_
  refine mm_ob (P := vp_in 1 (nI 6).toNatClampNeg) (mm_inl (by decide)) ?_
  show mm_b _ _ _ _ _ [some (.ref 68), some (.ref 0), some (.ref 46), some (.ref 65), some (.int 0), none, none] [.int (xs 1), .ref 0] ((fun _ => false, 599936, 6869426, true, false, ad), (mm_I0 6 xs), (fun _ _ => 0))
  refine mm_ob (P := vp_in 2 (nI 6).toNatClampNeg) (mm_inl (by decide)) ?_
  show mm_b _ _ _ _ _ [some (.ref 68), some (.ref 0), some (.ref 46), some (.ref 65), some (.int 0), none, none] [.int (xs 2), .int (xs 1), .ref 0] ((fun _ => false, 599936, 6869426, true, false, ad), (mm_I0 6 xs), (fun _ _ => 0))
  refine mm_ob (P := vp_in 3 (nI 6).toNatClampNeg) (mm_inl (by decide)) ?_
  show mm_b _ _ _ _ _ [some (.ref 68), some (.ref 0), some (.ref 46), some (.ref 65), some (.int 0), none, none] [.int (xs 3), .int (xs 2), .int (xs 1), .ref 0] ((fun _ => false, 599936, 6869426, true, false, ad), (mm_I0 6 xs), (fun _ _ => 0))
  refine mm_e1 ?_
  refine mm_iv 600 (by rfl) ?_
  show mm_k _ _ _ _ _ [some (.ref 0), some (.int (xs 1)), some (.int (xs 2)), some (.int (xs 3))] [] ((fun _ => false, 0, 0, true, false, ad), (mm_I0 6 xs), (fun _ _ => 0))
  refine mm_iv 600 (by rfl) ?_
  show mm_k _ _ _ _ _ [some (.ref 0), some (.int (xs 1))] [] ((fun _ => false, 0, 0, true, false, ad), (mm_I0 6 xs), (fun _ _ => 0))
  refine mm_tk (c := (0 : Int32) = 0) (d := ¬ (0 : Int32) = 0) (by decide) ?_
  show mm_u _ _ _ _ _ _ [some (.ref 0), some (.int (xs 1))] [] ((fun _ => false, 0, 0, true, false, ad), (mm_I0 6 xs), (fun _ _ => 0))
  refine mm_ob (P := (0 : Int32) = 0 ∨ (0 : Int32) = 1) (by decide) ?_
  refine mm_q1 (r := 0) ⟨rfl, ?_⟩
  show mm_b _ _ _ _ _ [some (.ref 0), some (.int (xs 1)), some (.int (xs 2)), some (.int (xs 3))] [.int 0] ((fun _ => false, 0, 0, true, false, ad), (mm_I0 6 xs), (fun _ _ => 0))
  refine mm_tk (c := (0 : Int32) = 0) (d := ¬ (0 : Int32) = 0) (by decide) ?_
  show mm_u _ _ _ _ _ _ [some (.ref 0), some (.int (xs 1)), some (.int (xs 2)), some (.int (xs 3))] [] ((fun _ => false, 0, 0, true, false, ad), (mm_I0 6 xs), (fun _ _ => 0))
  refine mm_iv 600 (by rfl) ?_
  show mm_k _ _ _ _ _ [some (.ref 0), some (.int 1)] [] ((fun _ => false, 0, 0, true, false, ad), (mm_I0 6 xs), (fun _ _ => 0))
  refine mm_q1 (r := (-1)) ⟨rfl, ?_⟩
  show mm_b _ _ _ _ _ [some (.ref 0), none, none, none] [.int (-1)] ((fun _ => false, 0, 0, true, false, ad), (zI_417 xs), (fun _ _ => 0))
  refine mm_q1 (r := (-1)) ?_
  show mm_b _ _ _ _ _ [some (.ref 68), some (.ref 0), some (.ref 46), some (.ref 65), some (.int 0), none, none] [.int (-1)] ((fun _ => false, 599936, 6869426, true, false, ad), (zI_417 xs), (fun _ _ => 0))
  refine mm_ob (P := vp_in 1 (nI 6).toNatClampNeg) (mm_inl (by decide)) ?_
  show mm_b _ _ _ _ _ [some (.ref 68), some (.ref 0), some (.ref 46), some (.ref 65), some (.int 0), none, none] [.int (xs 1), .ref 46, .int (-1)] ((fun _ => false, 599936, 6869426, true, false, ad), (zI_417 xs), (fun _ _ => 0))
  refine mm_ob (P := vp_in 2 (nI 6).toNatClampNeg) (mm_inl (by decide)) ?_
  show mm_b _ _ _ _ _ [some (.ref 68), some (.ref 0), some (.ref 46), some (.ref 65), some (.int 0), none, none] [.int (xs 2), .int (xs 1), .ref 46, .int (-1)] ((fun _ => false, 599936, 6869426, true, false, ad), (zI_417 xs), (fun _ _ => 0))
  refine mm_ob (P := vp_in 3 (nI 6).toNatClampNeg) (mm_inl (by decide)) ?_
  show mm_b _ _ _ _ _ [some (.ref 68), some (.ref 0), some (.ref 46), some (.ref 65), some (.int 0), none, none] [.int (xs 3), .int (xs 2), .int (xs 1), .ref 46, .int (-1)] ((fun _ => false, 599936, 6869426, true, false, ad), (zI_417 xs), (fun _ _ => 0))
  refine mm_e1 ?_
  refine mm_iv 600 (by rfl) ?_
  show mm_k _ _ _ _ _ [some (.ref 46), some (.int (xs 1)), some (.int (xs 2)), some (.int (xs 3))] [] ((fun _ => false, 0, 0, true, false, ad), (zI_417 xs), (fun _ _ => 0))
  refine mm_iv 600 (by rfl) ?_
  show mm_k _ _ _ _ _ [some (.ref 46)] [] ((fun _ => false, 0, 0, true, false, ad), (zI_417 xs), (fun _ _ => 0))
  refine mm_q0 ⟨rfl, ?_⟩
  show mm_b _ _ _ _ _ [some (.ref 46), some (.int (xs 1)), some (.int (xs 2)), some (.int (xs 3))] [] ((fun _ => false, 0, 0, true, false, ad), (zI_419 xs), (fun _ _ => 0))
  refine mm_iv 600 (by rfl) ?_
  show mm_k _ _ _ _ _ [some (.ref 46), some (.int (xs 1))] [] ((fun _ => false, 0, 0, true, false, ad), (zI_419 xs), (fun _ _ => 0))
  refine mm_tk (c := (0 : Int32) = 0) (d := ¬ (0 : Int32) = 0) (by decide) ?_
  show mm_u _ _ _ _ _ _ [some (.ref 46), some (.int (xs 1))] [] ((fun _ => false, 0, 0, true, false, ad), (zI_419 xs), (fun _ _ => 0))
  refine mm_ob (P := (0 : Int32) = 0 ∨ (0 : Int32) = 1) (by decide) ?_
  refine mm_q1 (r := 0) ⟨rfl, ?_⟩
  show mm_b _ _ _ _ _ [some (.ref 46), some (.int (xs 1)), some (.int (xs 2)), some (.int (xs 3))] [.int 0] ((fun _ => false, 0, 0, true, false, ad), (zI_419 xs), (fun _ _ => 0))
  refine mm_tk (c := (0 : Int32) = 0) (d := ¬ (0 : Int32) = 0) (by decide) ?_
  show mm_u _ _ _ _ _ _ [some (.ref 46), some (.int (xs 1)), some (.int (xs 2)), some (.int (xs 3))] [] ((fun _ => false, 0, 0, true, false, ad), (zI_419 xs), (fun _ _ => 0))
  refine mm_iv 600 (by rfl) ?_
  show mm_k _ _ _ _ _ [some (.ref 46), some (.int 1)] [] ((fun _ => false, 0, 0, true, false, ad), (zI_419 xs), (fun _ _ => 0))
  refine mm_q1 (r := (-1)) ⟨rfl, ?_⟩
  show mm_b _ _ _ _ _ [some (.ref 46), none, none, none] [.int (-1)] ((fun _ => false, 0, 0, true, false, ad), (zI_420 xs), (fun _ _ => 0))
  refine mm_q1 (r := (-1)) ?_
  show mm_b _ _ _ _ _ [some (.ref 68), some (.ref 0), some (.ref 46), some (.ref 65), some (.int 0), none, none] [.int (-1), .int (-1)] ((fun _ => false, 599936, 6869426, true, false, ad), (zI_420 xs), (fun _ _ => 0))
  refine mm_tk (c := ((-1) : Int32) = (-1)) (d := ¬ ((-1) : Int32) = (-1)) (by decide) ?_
  show mm_u _ _ _ _ _ _ [some (.ref 68), some (.ref 0), some (.ref 46), some (.ref 65), some (.int 0), none, none] [] ((fun _ => false, 599936, 6869426, true, false, ad), (zI_420 xs), (fun _ _ => 0))
  refine mm_tk (c := (((nI 6) - 6) : Int32) < 6) (d := ¬ (((nI 6) - 6) : Int32) < 6) (by decide) ?_
  show mm_u _ _ _ _ _ _ [some (.ref 68), some (.ref 0), some (.ref 46), some (.ref 65), some (.int 6), none, none] [] ((fun _ => false, 599936, 6869426, true, false, ad), (zI_420 xs), (fun _ _ => 0))
  refine mm_ob (P := (1 : Int32) = 0 ∨ (1 : Int32) = 1) (by decide) ?_
  exact rfl
def zI_433 (xs : Nat → Int32) : mmI := mm_up (mm_I0 6 xs) 0 7 1
def zI_434 (xs : Nat → Int32) : mmI := mm_up (zI_433 xs) 46 0 0
def zI_435 (xs : Nat → Int32) : mmI := mm_up (zI_434 xs) 46 11 0
def zI_436 (xs : Nat → Int32) : mmI := mm_up (zI_435 xs) 46 11 1
def zI_437 (xs : Nat → Int32) : mmI := mm_up (mm_I0 6 xs) 0 7 1
def zI_438 (xs : Nat → Int32) : mmI := mm_up (zI_437 xs) 46 0 0
def zI_439 (xs : Nat → Int32) : mmI := mm_up (zI_438 xs) 46 11 0
def zI_440 (xs : Nat → Int32) : mmI := mm_up (zI_439 xs) 46 11 1
set_option maxRecDepth 20000 in
set_option maxHeartbeats 4000000 in
theorem op_10 (ad : Nat → Nat) (xs : Nat → Int32) : mm_w (fun v _ => v = some (.int 1)) (mm_wc 210) bk_law 522 [some (.ref 68), some (.ref 0), some (.ref 46), some (.ref 65), some (.int 0), none, none] [] (mm_s0 ad 6 xs) := by
  refine mm_go [] 600 ?_
  refine mm_ob (P := vp_in 1 (nI 6).toNatClampNeg) (mm_inl (by decide)) ?_
  show mm_b _ _ _ _ _ [some (.ref 68), some (.ref 0), some (.ref 46), some (.ref 65), some (.int 0), none, none] [.int (xs 1), .ref 0] ((fun _ => false, 599936, 6869426, true, false, ad), (mm_I0 6 xs), (fun _ _ => 0))
  refine mm_ob (P := vp_in 2 (nI 6).toNatClampNeg) (mm_inl (by decide)) ?_
  show mm_b _ _ _ _ _ [some (.ref 68), some (.ref 0), some (.ref 46), some (.ref 65), some (.int 0), none, none] [.int (xs 2), .int (xs 1), .ref 0] ((fun _ => false, 599936, 6869426, true, false, ad), (mm_I0 6 xs), (fun _ _ => 0))
  refine mm_both (c := ((xs 2) : Int32) = 0) (d := ¬ ((xs 2) : Int32) = 0) (fun c0 => ?_) (fun c0 => ?_)
  · show mm_u _ _ _ _ _ _ [some (.ref 68), some (.ref 0), some (.ref 46), some (.ref 65), some (.int 0), none, none] [.int (xs 1), .ref 0] ((fun _ => false, 599936, 6869426, true, false, ad), (mm_I0 6 xs), (fun _ _ => 0))
    refine mm_e1 ?_
    refine mm_iv 600 (by rfl) ?_
    show mm_k _ _ _ _ _ [some (.ref 0), some (.int (xs 1)), some (.int 0)] [] ((fun _ => false, 0, 0, true, false, ad), (mm_I0 6 xs), (fun _ _ => 0))
    refine mm_iv 600 (by rfl) ?_
    show mm_k _ _ _ _ _ [some (.ref 0), some (.int (xs 1))] [] ((fun _ => false, 0, 0, true, false, ad), (mm_I0 6 xs), (fun _ _ => 0))
    refine mm_tk (c := (0 : Int32) = 0) (d := ¬ (0 : Int32) = 0) (by decide) ?_
    show mm_u _ _ _ _ _ _ [some (.ref 0), some (.int (xs 1))] [] ((fun _ => false, 0, 0, true, false, ad), (mm_I0 6 xs), (fun _ _ => 0))
    refine mm_ob (P := (0 : Int32) = 0 ∨ (0 : Int32) = 1) (by decide) ?_
    refine mm_q1 (r := 0) ⟨rfl, ?_⟩
    show mm_b _ _ _ _ _ [some (.ref 0), some (.int (xs 1)), some (.int 0)] [.int 0] ((fun _ => false, 0, 0, true, false, ad), (mm_I0 6 xs), (fun _ _ => 0))
    refine mm_el (c := ¬ (0 : Int32) = 0) (d := (0 : Int32) = 0) (by decide) ?_
    show mm_b _ _ _ _ _ [some (.ref 0), some (.int (xs 1)), some (.int 0)] [] ((fun _ => false, 0, 0, true, false, ad), (mm_I0 6 xs), (fun _ _ => 0))
    refine mm_iv 600 (by rfl) ?_
    show mm_k _ _ _ _ _ [some (.ref 0), some (.int 1)] [] ((fun _ => false, 0, 0, true, false, ad), (mm_I0 6 xs), (fun _ _ => 0))
    refine mm_q1 (r := (-1)) ⟨rfl, ?_⟩
    show mm_b _ _ _ _ _ [some (.ref 0), some (.int (xs 1)), some (.int 0)] [.int (-1)] ((fun _ => false, 0, 0, true, false, ad), (zI_433 xs), (fun _ _ => 0))
    refine mm_q1 (r := (-1)) ?_
    show mm_b _ _ _ _ _ [some (.ref 68), some (.ref 0), some (.ref 46), some (.ref 65), some (.int 0), none, none] [.int (-1)] ((fun _ => false, 599936, 6869426, true, false, ad), (zI_433 xs), (fun _ _ => 0))
    refine mm_ob (P := vp_in 1 (nI 6).toNatClampNeg) (mm_inl (by decide)) ?_
    show mm_b _ _ _ _ _ [some (.ref 68), some (.ref 0), some (.ref 46), some (.ref 65), some (.int 0), none, none] [.int (xs 1), .ref 46, .int (-1)] ((fun _ => false, 599936, 6869426, true, false, ad), (zI_433 xs), (fun _ _ => 0))
    refine mm_ob (P := vp_in 2 (nI 6).toNatClampNeg) (mm_inl (by decide)) ?_
    show mm_b _ _ _ _ _ [some (.ref 68), some (.ref 0), some (.ref 46), some (.ref 65), some (.int 0), none, none] [.int (xs 2), .int (xs 1), .ref 46, .int (-1)] ((fun _ => false, 599936, 6869426, true, false, ad), (zI_433 xs), (fun _ _ => 0))
    refine mm_tk (c := ((xs 2) : Int32) = 0) (d := ¬ ((xs 2) : Int32) = 0) (fun q9 => by simp only [Int32.lt_iff_toInt_lt, Int32.le_iff_toInt_le, ← Int32.toInt_inj, li_0, li_1, li_2, li_3, li_4, li_5, li_6, li_7, li_8, li_9, li_10, li_11, li_12, li_13, li_14, li_15] at *; omega) ?_
    show mm_u _ _ _ _ _ _ [some (.ref 68), some (.ref 0), some (.ref 46), some (.ref 65), some (.int 0), none, none] [.int (xs 1), .ref 46, .int (-1)] ((fun _ => false, 599936, 6869426, true, false, ad), (zI_433 xs), (fun _ _ => 0))
    refine mm_e1 ?_
    refine mm_iv 600 (by rfl) ?_
    show mm_k _ _ _ _ _ [some (.ref 46), some (.int (xs 1)), some (.int 0)] [] ((fun _ => false, 0, 0, true, false, ad), (zI_433 xs), (fun _ _ => 0))
    refine mm_iv 600 (by rfl) ?_
    show mm_k _ _ _ _ _ [some (.ref 46)] [] ((fun _ => false, 0, 0, true, false, ad), (zI_433 xs), (fun _ _ => 0))
    refine mm_q0 ⟨rfl, ?_⟩
    show mm_b _ _ _ _ _ [some (.ref 46), some (.int (xs 1)), some (.int 0)] [] ((fun _ => false, 0, 0, true, false, ad), (zI_435 xs), (fun _ _ => 0))
    refine mm_iv 600 (by rfl) ?_
    show mm_k _ _ _ _ _ [some (.ref 46), some (.int (xs 1))] [] ((fun _ => false, 0, 0, true, false, ad), (zI_435 xs), (fun _ _ => 0))
    refine mm_tk (c := (0 : Int32) = 0) (d := ¬ (0 : Int32) = 0) (by decide) ?_
    show mm_u _ _ _ _ _ _ [some (.ref 46), some (.int (xs 1))] [] ((fun _ => false, 0, 0, true, false, ad), (zI_435 xs), (fun _ _ => 0))
    refine mm_ob (P := (0 : Int32) = 0 ∨ (0 : Int32) = 1) (by decide) ?_
    refine mm_q1 (r := 0) ⟨rfl, ?_⟩
    show mm_b _ _ _ _ _ [some (.ref 46), some (.int (xs 1)), some (.int 0)] [.int 0] ((fun _ => false, 0, 0, true, false, ad), (zI_435 xs), (fun _ _ => 0))
    refine mm_el (c := ¬ (0 : Int32) = 0) (d := (0 : Int32) = 0) (by decide) ?_
    show mm_b _ _ _ _ _ [some (.ref 46), some (.int (xs 1)), some (.int 0)] [] ((fun _ => false, 0, 0, true, false, ad), (zI_435 xs), (fun _ _ => 0))
    refine mm_iv 600 (by rfl) ?_
    show mm_k _ _ _ _ _ [some (.ref 46), some (.int 1)] [] ((fun _ => false, 0, 0, true, false, ad), (zI_435 xs), (fun _ _ => 0))
    refine mm_q1 (r := (-1)) ⟨rfl, ?_⟩
    show mm_b _ _ _ _ _ [some (.ref 46), some (.int (xs 1)), some (.int 0)] [.int (-1)] ((fun _ => false, 0, 0, true, false, ad), (zI_436 xs), (fun _ _ => 0))
    refine mm_q1 (r := (-1)) ?_
    show mm_b _ _ _ _ _ [some (.ref 68), some (.ref 0), some (.ref 46), some (.ref 65), some (.int 0), none, none] [.int (-1), .int (-1)] ((fun _ => false, 599936, 6869426, true, false, ad), (zI_436 xs), (fun _ _ => 0))
    refine mm_tk (c := ((-1) : Int32) = (-1)) (d := ¬ ((-1) : Int32) = (-1)) (by decide) ?_
    show mm_u _ _ _ _ _ _ [some (.ref 68), some (.ref 0), some (.ref 46), some (.ref 65), some (.int 0), none, none] [] ((fun _ => false, 599936, 6869426, true, false, ad), (zI_436 xs), (fun _ _ => 0))
    refine mm_tk (c := (((nI 6) - 6) : Int32) < 6) (d := ¬ (((nI 6) - 6) : Int32) < 6) (by decide) ?_
    show mm_u _ _ _ _ _ _ [some (.ref 68), some (.ref 0), some (.ref 46), some (.ref 65), some (.int 6), none, none] [] ((fun _ => false, 599936, 6869426, true, false, ad), (zI_436 xs), (fun _ _ => 0))
    refine mm_ob (P := (1 : Int32) = 0 ∨ (1 : Int32) = 1) (by decide) ?_
    exact rfl
  · show mm_b _ _ _ _ _ [some (.ref 68), some (.ref 0), some (.ref 46), some (.ref 65), some (.int 0), none, none] [.int (xs 1), .ref 0] ((fun _ => false, 599936, 6869426, true, false, ad), (mm_I0 6 xs), (fun _ _ => 0))
    refine mm_e1 ?_
    refine mm_iv 600 (by rfl) ?_
    show mm_k _ _ _ _ _ [some (.ref 0), some (.int (xs 1)), some (.int 1)] [] ((fun _ => false, 0, 0, true, false, ad), (mm_I0 6 xs), (fun _ _ => 0))
    refine mm_iv 600 (by rfl) ?_
    show mm_k _ _ _ _ _ [some (.ref 0), some (.int (xs 1))] [] ((fun _ => false, 0, 0, true, false, ad), (mm_I0 6 xs), (fun _ _ => 0))
    refine mm_tk (c := (0 : Int32) = 0) (d := ¬ (0 : Int32) = 0) (by decide) ?_
    show mm_u _ _ _ _ _ _ [some (.ref 0), some (.int (xs 1))] [] ((fun _ => false, 0, 0, true, false, ad), (mm_I0 6 xs), (fun _ _ => 0))
    refine mm_ob (P := (0 : Int32) = 0 ∨ (0 : Int32) = 1) (by decide) ?_
    refine mm_q1 (r := 0) ⟨rfl, ?_⟩
    show mm_b _ _ _ _ _ [some (.ref 0), some (.int (xs 1)), some (.int 1)] [.int 0] ((fun _ => false, 0, 0, true, false, ad), (mm_I0 6 xs), (fun _ _ => 0))
    refine mm_el (c := ¬ (0 : Int32) = 0) (d := (0 : Int32) = 0) (by decide) ?_
    show mm_b _ _ _ _ _ [some (.ref 0), some (.int (xs 1)), some (.int 1)] [] ((fun _ => false, 0, 0, true, false, ad), (mm_I0 6 xs), (fun _ _ => 0))
    refine mm_iv 600 (by rfl) ?_
    show mm_k _ _ _ _ _ [some (.ref 0), some (.int 1)] [] ((fun _ => false, 0, 0, true, false, ad), (mm_I0 6 xs), (fun _ _ => 0))
    refine mm_q1 (r := (-1)) ⟨rfl, ?_⟩
    show mm_b _ _ _ _ _ [some (.ref 0), some (.int (xs 1)), some (.int 1)] [.int (-1)] ((fun _ => false, 0, 0, true, false, ad), (zI_437 xs), (fun _ _ => 0))
    refine mm_q1 (r := (-1)) ?_
    show mm_b _ _ _ _ _ [some (.ref 68), some (.ref 0), some (.ref 46), some (.ref 65), some (.int 0), none, none] [.int (-1)] ((fun _ => false, 599936, 6869426, true, false, ad), (zI_437 xs), (fun _ _ => 0))
    refine mm_ob (P := vp_in 1 (nI 6).toNatClampNeg) (mm_inl (by decide)) ?_
    show mm_b _ _ _ _ _ [some (.ref 68), some (.ref 0), some (.ref 46), some (.ref 65), some (.int 0), none, none] [.int (xs 1), .ref 46, .int (-1)] ((fun _ => false, 599936, 6869426, true, false, ad), (zI_437 xs), (fun _ _ => 0))
    refine mm_ob (P := vp_in 2 (nI 6).toNatClampNeg) (mm_inl (by decide)) ?_
    show mm_b _ _ _ _ _ [some (.ref 68), some (.ref 0), some (.ref 46), some (.ref 65), some (.int 0), none, none] [.int (xs 2), .int (xs 1), .ref 46, .int (-1)] ((fun _ => false, 599936, 6869426, true, false, ad), (zI_437 xs), (fun _ _ => 0))
    refine mm_el (c := ((xs 2) : Int32) = 0) (d := ¬ ((xs 2) : Int32) = 0) (fun q9 => by simp only [Int32.lt_iff_toInt_lt, Int32.le_iff_toInt_le, ← Int32.toInt_inj, li_0, li_1, li_2, li_3, li_4, li_5, li_6, li_7, li_8, li_9, li_10, li_11, li_12, li_13, li_14, li_15] at *; omega) ?_
    show mm_b _ _ _ _ _ [some (.ref 68), some (.ref 0), some (.ref 46), some (.ref 65), some (.int 0), none, none] [.int (xs 1), .ref 46, .int (-1)] ((fun _ => false, 599936, 6869426, true, false, ad), (zI_437 xs), (fun _ _ => 0))
    refine mm_e1 ?_
    refine mm_iv 600 (by rfl) ?_
    show mm_k _ _ _ _ _ [some (.ref 46), some (.int (xs 1)), some (.int 1)] [] ((fun _ => false, 0, 0, true, false, ad), (zI_437 xs), (fun _ _ => 0))
    refine mm_iv 600 (by rfl) ?_
    show mm_k _ _ _ _ _ [some (.ref 46)] [] ((fun _ => false, 0, 0, true, false, ad), (zI_437 xs), (fun _ _ => 0))
    refine mm_q0 ⟨rfl, ?_⟩
    show mm_b _ _ _ _ _ [some (.ref 46), some (.int (xs 1)), some (.int 1)] [] ((fun _ => false, 0, 0, true, false, ad), (zI_439 xs), (fun _ _ => 0))
    refine mm_iv 600 (by rfl) ?_
    show mm_k _ _ _ _ _ [some (.ref 46), some (.int (xs 1))] [] ((fun _ => false, 0, 0, true, false, ad), (zI_439 xs), (fun _ _ => 0))
    refine mm_tk (c := (0 : Int32) = 0) (d := ¬ (0 : Int32) = 0) (by decide) ?_
    show mm_u _ _ _ _ _ _ [some (.ref 46), some (.int (xs 1))] [] ((fun _ => false, 0, 0, true, false, ad), (zI_439 xs), (fun _ _ => 0))
    refine mm_ob (P := (0 : Int32) = 0 ∨ (0 : Int32) = 1) (by decide) ?_
    refine mm_q1 (r := 0) ⟨rfl, ?_⟩
    show mm_b _ _ _ _ _ [some (.ref 46), some (.int (xs 1)), some (.int 1)] [.int 0] ((fun _ => false, 0, 0, true, false, ad), (zI_439 xs), (fun _ _ => 0))
    refine mm_el (c := ¬ (0 : Int32) = 0) (d := (0 : Int32) = 0) (by decide) ?_
    show mm_b _ _ _ _ _ [some (.ref 46), some (.int (xs 1)), some (.int 1)] [] ((fun _ => false, 0, 0, true, false, ad), (zI_439 xs), (fun _ _ => 0))
    refine mm_iv 600 (by rfl) ?_
    show mm_k _ _ _ _ _ [some (.ref 46), some (.int 1)] [] ((fun _ => false, 0, 0, true, false, ad), (zI_439 xs), (fun _ _ => 0))
    refine mm_q1 (r := (-1)) ⟨rfl, ?_⟩
    show mm_b _ _ _ _ _ [some (.ref 46), some (.int (xs 1)), some (.int 1)] [.int (-1)] ((fun _ => false, 0, 0, true, false, ad), (zI_440 xs), (fun _ _ => 0))
    refine mm_q1 (r := (-1)) ?_
    show mm_b _ _ _ _ _ [some (.ref 68), some (.ref 0), some (.ref 46), some (.ref 65), some (.int 0), none, none] [.int (-1), .int (-1)] ((fun _ => false, 599936, 6869426, true, false, ad), (zI_440 xs), (fun _ _ => 0))
    refine mm_tk (c := ((-1) : Int32) = (-1)) (d := ¬ ((-1) : Int32) = (-1)) (by decide) ?_
    show mm_u _ _ _ _ _ _ [some (.ref 68), some (.ref 0), some (.ref 46), some (.ref 65), some (.int 0), none, none] [] ((fun _ => false, 599936, 6869426, true, false, ad), (zI_440 xs), (fun _ _ => 0))
    refine mm_tk (c := (((nI 6) - 6) : Int32) < 6) (d := ¬ (((nI 6) - 6) : Int32) < 6) (by decide) ?_
    show mm_u _ _ _ _ _ _ [some (.ref 68), some (.ref 0), some (.ref 46), some (.ref 65), some (.int 6), none, none] [] ((fun _ => false, 599936, 6869426, true, false, ad), (zI_440 xs), (fun _ _ => 0))
    refine mm_ob (P := (1 : Int32) = 0 ∨ (1 : Int32) = 1) (by decide) ?_
    exact rfl
def zI_453 (xs : Nat → Int32) : mmI := mm_up (mm_I0 6 xs) 0 7 1
def zI_454 (xs : Nat → Int32) : mmI := mm_up (zI_453 xs) 46 0 0
def zI_455 (xs : Nat → Int32) : mmI := mm_up (zI_454 xs) 46 11 0
def zI_456 (xs : Nat → Int32) : mmI := mm_up (zI_455 xs) 46 11 1
set_option maxRecDepth 20000 in
set_option maxHeartbeats 4000000 in
theorem op_14 (ad : Nat → Nat) (xs : Nat → Int32) : mm_w (fun v _ => v = some (.int 1)) (mm_wc 210) bk_law 626 [some (.ref 68), some (.ref 0), some (.ref 46), some (.ref 65), some (.int 0), none, none] [] (mm_s0 ad 6 xs) := by
  refine mm_go [] 600 ?_
  refine mm_e1 ?_
  refine mm_iv 600 (by rfl) ?_
  show mm_k _ _ _ _ _ [some (.ref 0)] [] ((fun _ => false, 0, 0, true, false, ad), (mm_I0 6 xs), (fun _ _ => 0))
  refine mm_tk (c := (0 : Int32) = 0) (d := ¬ (0 : Int32) = 0) (by decide) ?_
  show mm_u _ _ _ _ _ _ [some (.ref 0)] [] ((fun _ => false, 0, 0, true, false, ad), (mm_I0 6 xs), (fun _ _ => 0))
  refine mm_iv 600 (by rfl) ?_
  show mm_k _ _ _ _ _ [some (.ref 0), some (.int 1)] [] ((fun _ => false, 0, 0, true, false, ad), (mm_I0 6 xs), (fun _ _ => 0))
  refine mm_q1 (r := (-1)) ⟨rfl, ?_⟩
  show mm_b _ _ _ _ _ [some (.ref 0)] [.int (-1)] ((fun _ => false, 0, 0, true, false, ad), (zI_453 xs), (fun _ _ => 0))
  refine mm_q1 (r := (-1)) ?_
  show mm_b _ _ _ _ _ [some (.ref 68), some (.ref 0), some (.ref 46), some (.ref 65), some (.int 0), none, none] [.int (-1)] ((fun _ => false, 599936, 6869426, true, false, ad), (zI_453 xs), (fun _ _ => 0))
  refine mm_e1 ?_
  refine mm_iv 600 (by rfl) ?_
  show mm_k _ _ _ _ _ [some (.ref 46)] [] ((fun _ => false, 0, 0, true, false, ad), (zI_453 xs), (fun _ _ => 0))
  refine mm_iv 600 (by rfl) ?_
  show mm_k _ _ _ _ _ [some (.ref 46)] [] ((fun _ => false, 0, 0, true, false, ad), (zI_453 xs), (fun _ _ => 0))
  refine mm_q0 ⟨rfl, ?_⟩
  show mm_b _ _ _ _ _ [some (.ref 46)] [] ((fun _ => false, 0, 0, true, false, ad), (zI_455 xs), (fun _ _ => 0))
  refine mm_tk (c := (0 : Int32) = 0) (d := ¬ (0 : Int32) = 0) (by decide) ?_
  show mm_u _ _ _ _ _ _ [some (.ref 46)] [] ((fun _ => false, 0, 0, true, false, ad), (zI_455 xs), (fun _ _ => 0))
  refine mm_iv 600 (by rfl) ?_
  show mm_k _ _ _ _ _ [some (.ref 46), some (.int 1)] [] ((fun _ => false, 0, 0, true, false, ad), (zI_455 xs), (fun _ _ => 0))
  refine mm_q1 (r := (-1)) ⟨rfl, ?_⟩
  show mm_b _ _ _ _ _ [some (.ref 46)] [.int (-1)] ((fun _ => false, 0, 0, true, false, ad), (zI_456 xs), (fun _ _ => 0))
  refine mm_q1 (r := (-1)) ?_
  show mm_b _ _ _ _ _ [some (.ref 68), some (.ref 0), some (.ref 46), some (.ref 65), some (.int 0), none, none] [.int (-1), .int (-1)] ((fun _ => false, 599936, 6869426, true, false, ad), (zI_456 xs), (fun _ _ => 0))
  refine mm_tk (c := ((-1) : Int32) = (-1)) (d := ¬ ((-1) : Int32) = (-1)) (by decide) ?_
  show mm_u _ _ _ _ _ _ [some (.ref 68), some (.ref 0), some (.ref 46), some (.ref 65), some (.int 0), none, none] [] ((fun _ => false, 599936, 6869426, true, false, ad), (zI_456 xs), (fun _ _ => 0))
  refine mm_tk (c := (((nI 6) - 6) : Int32) < 6) (d := ¬ (((nI 6) - 6) : Int32) < 6) (by decide) ?_
  show mm_u _ _ _ _ _ _ [some (.ref 68), some (.ref 0), some (.ref 46), some (.ref 65), some (.int 6), none, none] [] ((fun _ => false, 599936, 6869426, true, false, ad), (zI_456 xs), (fun _ _ => 0))
  refine mm_ob (P := (1 : Int32) = 0 ∨ (1 : Int32) = 1) (by decide) ?_
  exact rfl
def zI_469 (xs : Nat → Int32) : mmI := mm_up (mm_I0 6 xs) 0 7 6
def zI_470 (xs : Nat → Int32) : mmI := mm_up (zI_469 xs) 46 0 0
def zI_471 (xs : Nat → Int32) : mmI := mm_up (zI_470 xs) 46 11 0
def zI_472 (xs : Nat → Int32) : mmI := mm_up (zI_471 xs) 46 11 6
set_option maxRecDepth 20000 in
set_option maxHeartbeats 4000000 in
theorem op_18 (ad : Nat → Nat) (xs : Nat → Int32) : mm_w (fun v _ => v = some (.int 1)) (mm_wc 210) bk_law 702 [some (.ref 68), some (.ref 0), some (.ref 46), some (.ref 65), some (.int 0), none, none] [] (mm_s0 ad 6 xs) := by
  refine mm_go [] 600 ?_
  refine mm_e1 ?_
  refine mm_iv 600 (by rfl) ?_
  show mm_k _ _ _ _ _ [some (.ref 0)] [] ((fun _ => false, 0, 0, true, false, ad), (mm_I0 6 xs), (fun _ _ => 0))
  refine mm_iv 600 (by rfl) ?_
  show mm_k _ _ _ _ _ [some (.ref 15)] [] ((fun _ => false, 0, 0, true, false, ad), (mm_I0 6 xs), (fun _ _ => 0))
  refine mm_el (c := (0 : Int32) < 0) (d := ¬ (0 : Int32) < 0) (by decide) ?_
  show mm_b _ _ _ _ _ [some (.ref 15)] [] ((fun _ => false, 0, 0, true, false, ad), (mm_I0 6 xs), (fun _ _ => 0))
  refine mm_ob (P := (0 : Int32) = 0 ∨ (0 : Int32) = 1) (by decide) ?_
  refine mm_q1 (r := 0) ⟨rfl, ?_⟩
  show mm_b _ _ _ _ _ [some (.ref 0)] [.int 0] ((fun _ => false, 0, 0, true, false, ad), (mm_I0 6 xs), (fun _ _ => 0))
  refine mm_tk (c := (0 : Int32) = 0) (d := ¬ (0 : Int32) = 0) (by decide) ?_
  show mm_u _ _ _ _ _ _ [some (.ref 0)] [] ((fun _ => false, 0, 0, true, false, ad), (mm_I0 6 xs), (fun _ _ => 0))
  refine mm_iv 600 (by rfl) ?_
  show mm_k _ _ _ _ _ [some (.ref 0), some (.int 6)] [] ((fun _ => false, 0, 0, true, false, ad), (mm_I0 6 xs), (fun _ _ => 0))
  refine mm_ob (P := (0 : Int32) = 0 ∨ (0 : Int32) = 1) (by decide) ?_
  refine mm_q1 (r := 0) ⟨rfl, ?_⟩
  show mm_b _ _ _ _ _ [some (.ref 0)] [.int 0] ((fun _ => false, 0, 0, true, false, ad), (zI_469 xs), (fun _ _ => 0))
  refine mm_ob (P := (0 : Int32) = 0 ∨ (0 : Int32) = 1) (by decide) ?_
  refine mm_q1 (r := 0) ?_
  show mm_b _ _ _ _ _ [some (.ref 68), some (.ref 0), some (.ref 46), some (.ref 65), some (.int 0), none, none] [.int 0] ((fun _ => false, 599936, 6869426, true, false, ad), (zI_469 xs), (fun _ _ => 0))
  refine mm_e1 ?_
  refine mm_iv 600 (by rfl) ?_
  show mm_k _ _ _ _ _ [some (.ref 46)] [] ((fun _ => false, 0, 0, true, false, ad), (zI_469 xs), (fun _ _ => 0))
  refine mm_iv 600 (by rfl) ?_
  show mm_k _ _ _ _ _ [some (.ref 46)] [] ((fun _ => false, 0, 0, true, false, ad), (zI_469 xs), (fun _ _ => 0))
  refine mm_q0 ⟨rfl, ?_⟩
  show mm_b _ _ _ _ _ [some (.ref 46)] [] ((fun _ => false, 0, 0, true, false, ad), (zI_471 xs), (fun _ _ => 0))
  refine mm_el (c := ¬ (0 : Int32) = 0) (d := (0 : Int32) = 0) (by decide) ?_
  show mm_b _ _ _ _ _ [some (.ref 46)] [] ((fun _ => false, 0, 0, true, false, ad), (zI_471 xs), (fun _ _ => 0))
  refine mm_iv 600 (by rfl) ?_
  show mm_k _ _ _ _ _ [some (.ref 46), some (.int 6)] [] ((fun _ => false, 0, 0, true, false, ad), (zI_471 xs), (fun _ _ => 0))
  refine mm_ob (P := (0 : Int32) = 0 ∨ (0 : Int32) = 1) (by decide) ?_
  refine mm_q1 (r := 0) ⟨rfl, ?_⟩
  show mm_b _ _ _ _ _ [some (.ref 46)] [.int 0] ((fun _ => false, 0, 0, true, false, ad), (zI_472 xs), (fun _ _ => 0))
  refine mm_ob (P := (0 : Int32) = 0 ∨ (0 : Int32) = 1) (by decide) ?_
  refine mm_q1 (r := 0) ?_
  show mm_b _ _ _ _ _ [some (.ref 68), some (.ref 0), some (.ref 46), some (.ref 65), some (.int 0), none, none] [.int 0, .int 0] ((fun _ => false, 599936, 6869426, true, false, ad), (zI_472 xs), (fun _ _ => 0))
  refine mm_tk (c := (0 : Int32) = 0) (d := ¬ (0 : Int32) = 0) (by decide) ?_
  show mm_u _ _ _ _ _ _ [some (.ref 68), some (.ref 0), some (.ref 46), some (.ref 65), some (.int 0), none, none] [] ((fun _ => false, 599936, 6869426, true, false, ad), (zI_472 xs), (fun _ _ => 0))
  refine mm_tk (c := (((nI 6) - 6) : Int32) < 6) (d := ¬ (((nI 6) - 6) : Int32) < 6) (by decide) ?_
  show mm_u _ _ _ _ _ _ [some (.ref 68), some (.ref 0), some (.ref 46), some (.ref 65), some (.int 6), none, none] [] ((fun _ => false, 599936, 6869426, true, false, ad), (zI_472 xs), (fun _ _ => 0))
  refine mm_ob (P := (1 : Int32) = 0 ∨ (1 : Int32) = 1) (by decide) ?_
  exact rfl
def zI_485 (xs : Nat → Int32) : mmI := mm_up (mm_I0 6 xs) 0 7 1
def zI_486 (xs : Nat → Int32) : mmI := mm_up (zI_485 xs) 46 0 0
def zI_487 (xs : Nat → Int32) : mmI := mm_up (zI_486 xs) 46 11 0
def zI_488 (xs : Nat → Int32) : mmI := mm_up (zI_487 xs) 46 11 1
set_option maxRecDepth 20000 in
set_option maxHeartbeats 4000000 in
theorem op_22 (ad : Nat → Nat) (xs : Nat → Int32) : mm_w (fun v _ => v = some (.int 1)) (mm_wc 210) bk_law 778 [some (.ref 68), some (.ref 0), some (.ref 46), some (.ref 65), some (.int 0), none, none] [] (mm_s0 ad 6 xs) := by
  refine mm_go [] 600 ?_
  refine mm_ob (P := vp_in 1 (nI 6).toNatClampNeg) (mm_inl (by decide)) ?_
  show mm_b _ _ _ _ _ [some (.ref 68), some (.ref 0), some (.ref 46), some (.ref 65), some (.int 0), none, none] [.int (xs 1), .ref 0] ((fun _ => false, 599936, 6869426, true, false, ad), (mm_I0 6 xs), (fun _ _ => 0))
  refine mm_e1 ?_
  refine mm_iv 600 (by rfl) ?_
  show mm_k _ _ _ _ _ [some (.ref 0), some (.int (xs 1))] [] ((fun _ => false, 0, 0, true, false, ad), (mm_I0 6 xs), (fun _ _ => 0))
  refine mm_iv 600 (by rfl) ?_
  show mm_k _ _ _ _ _ [some (.ref 0), some (.int (xs 1))] [] ((fun _ => false, 0, 0, true, false, ad), (mm_I0 6 xs), (fun _ _ => 0))
  refine mm_tk (c := (0 : Int32) = 0) (d := ¬ (0 : Int32) = 0) (by decide) ?_
  show mm_u _ _ _ _ _ _ [some (.ref 0), some (.int (xs 1))] [] ((fun _ => false, 0, 0, true, false, ad), (mm_I0 6 xs), (fun _ _ => 0))
  refine mm_ob (P := (0 : Int32) = 0 ∨ (0 : Int32) = 1) (by decide) ?_
  refine mm_q1 (r := 0) ⟨rfl, ?_⟩
  show mm_b _ _ _ _ _ [some (.ref 0), some (.int (xs 1))] [.int 0] ((fun _ => false, 0, 0, true, false, ad), (mm_I0 6 xs), (fun _ _ => 0))
  refine mm_el (c := ¬ (0 : Int32) = 0) (d := (0 : Int32) = 0) (by decide) ?_
  show mm_b _ _ _ _ _ [some (.ref 0), some (.int (xs 1))] [] ((fun _ => false, 0, 0, true, false, ad), (mm_I0 6 xs), (fun _ _ => 0))
  refine mm_iv 600 (by rfl) ?_
  show mm_k _ _ _ _ _ [some (.ref 0), some (.int 1)] [] ((fun _ => false, 0, 0, true, false, ad), (mm_I0 6 xs), (fun _ _ => 0))
  refine mm_q1 (r := (-1)) ⟨rfl, ?_⟩
  show mm_b _ _ _ _ _ [some (.ref 0), some (.int (xs 1))] [.int (-1)] ((fun _ => false, 0, 0, true, false, ad), (zI_485 xs), (fun _ _ => 0))
  refine mm_q1 (r := (-1)) ?_
  show mm_b _ _ _ _ _ [some (.ref 68), some (.ref 0), some (.ref 46), some (.ref 65), some (.int 0), none, none] [.int (-1)] ((fun _ => false, 599936, 6869426, true, false, ad), (zI_485 xs), (fun _ _ => 0))
  refine mm_ob (P := vp_in 1 (nI 6).toNatClampNeg) (mm_inl (by decide)) ?_
  show mm_b _ _ _ _ _ [some (.ref 68), some (.ref 0), some (.ref 46), some (.ref 65), some (.int 0), none, none] [.int (xs 1), .ref 46, .int (-1)] ((fun _ => false, 599936, 6869426, true, false, ad), (zI_485 xs), (fun _ _ => 0))
  refine mm_e1 ?_
  refine mm_iv 600 (by rfl) ?_
  show mm_k _ _ _ _ _ [some (.ref 46), some (.int (xs 1))] [] ((fun _ => false, 0, 0, true, false, ad), (zI_485 xs), (fun _ _ => 0))
  refine mm_iv 600 (by rfl) ?_
  show mm_k _ _ _ _ _ [some (.ref 46)] [] ((fun _ => false, 0, 0, true, false, ad), (zI_485 xs), (fun _ _ => 0))
  refine mm_q0 ⟨rfl, ?_⟩
  show mm_b _ _ _ _ _ [some (.ref 46), some (.int (xs 1))] [] ((fun _ => false, 0, 0, true, false, ad), (zI_487 xs), (fun _ _ => 0))
  refine mm_iv 600 (by rfl) ?_
  show mm_k _ _ _ _ _ [some (.ref 46), some (.int (xs 1))] [] ((fun _ => false, 0, 0, true, false, ad), (zI_487 xs), (fun _ _ => 0))
  refine mm_tk (c := (0 : Int32) = 0) (d := ¬ (0 : Int32) = 0) (by decide) ?_
  show mm_u _ _ _ _ _ _ [some (.ref 46), some (.int (xs 1))] [] ((fun _ => false, 0, 0, true, false, ad), (zI_487 xs), (fun _ _ => 0))
  refine mm_ob (P := (0 : Int32) = 0 ∨ (0 : Int32) = 1) (by decide) ?_
  refine mm_q1 (r := 0) ⟨rfl, ?_⟩
  show mm_b _ _ _ _ _ [some (.ref 46), some (.int (xs 1))] [.int 0] ((fun _ => false, 0, 0, true, false, ad), (zI_487 xs), (fun _ _ => 0))
  refine mm_el (c := ¬ (0 : Int32) = 0) (d := (0 : Int32) = 0) (by decide) ?_
  show mm_b _ _ _ _ _ [some (.ref 46), some (.int (xs 1))] [] ((fun _ => false, 0, 0, true, false, ad), (zI_487 xs), (fun _ _ => 0))
  refine mm_iv 600 (by rfl) ?_
  show mm_k _ _ _ _ _ [some (.ref 46), some (.int 1)] [] ((fun _ => false, 0, 0, true, false, ad), (zI_487 xs), (fun _ _ => 0))
  refine mm_q1 (r := (-1)) ⟨rfl, ?_⟩
  show mm_b _ _ _ _ _ [some (.ref 46), some (.int (xs 1))] [.int (-1)] ((fun _ => false, 0, 0, true, false, ad), (zI_488 xs), (fun _ _ => 0))
  refine mm_q1 (r := (-1)) ?_
  show mm_b _ _ _ _ _ [some (.ref 68), some (.ref 0), some (.ref 46), some (.ref 65), some (.int 0), none, none] [.int (-1), .int (-1)] ((fun _ => false, 599936, 6869426, true, false, ad), (zI_488 xs), (fun _ _ => 0))
  refine mm_tk (c := ((-1) : Int32) = (-1)) (d := ¬ ((-1) : Int32) = (-1)) (by decide) ?_
  show mm_u _ _ _ _ _ _ [some (.ref 68), some (.ref 0), some (.ref 46), some (.ref 65), some (.int 0), none, none] [] ((fun _ => false, 599936, 6869426, true, false, ad), (zI_488 xs), (fun _ _ => 0))
  refine mm_tk (c := (((nI 6) - 6) : Int32) < 6) (d := ¬ (((nI 6) - 6) : Int32) < 6) (by decide) ?_
  show mm_u _ _ _ _ _ _ [some (.ref 68), some (.ref 0), some (.ref 46), some (.ref 65), some (.int 6), none, none] [] ((fun _ => false, 599936, 6869426, true, false, ad), (zI_488 xs), (fun _ _ => 0))
  refine mm_ob (P := (1 : Int32) = 0 ∨ (1 : Int32) = 1) (by decide) ?_
  exact rfl
def zI_501 (xs : Nat → Int32) : mmI := mm_up (mm_I0 6 xs) 0 7 1
def zI_502 (xs : Nat → Int32) : mmI := mm_up (zI_501 xs) 46 0 0
def zI_503 (xs : Nat → Int32) : mmI := mm_up (zI_502 xs) 46 11 0
def zI_504 (xs : Nat → Int32) : mmI := mm_up (zI_503 xs) 46 11 1
set_option maxRecDepth 20000 in
set_option maxHeartbeats 4000000 in
theorem op_26 (ad : Nat → Nat) (xs : Nat → Int32) : mm_w (fun v _ => v = some (.int 1)) (mm_wc 210) bk_law 866 [some (.ref 68), some (.ref 0), some (.ref 46), some (.ref 65), some (.int 0), none, none] [] (mm_s0 ad 6 xs) := by
  refine mm_go [] 600 ?_
  refine mm_e1 ?_
  refine mm_iv 600 (by rfl) ?_
  show mm_k _ _ _ _ _ [some (.ref 0)] [] ((fun _ => false, 0, 0, true, false, ad), (mm_I0 6 xs), (fun _ _ => 0))
  refine mm_tk (c := (0 : Int32) = 0) (d := ¬ (0 : Int32) = 0) (by decide) ?_
  show mm_u _ _ _ _ _ _ [some (.ref 0)] [] ((fun _ => false, 0, 0, true, false, ad), (mm_I0 6 xs), (fun _ _ => 0))
  refine mm_iv 600 (by rfl) ?_
  show mm_k _ _ _ _ _ [some (.ref 0), some (.int 1)] [] ((fun _ => false, 0, 0, true, false, ad), (mm_I0 6 xs), (fun _ _ => 0))
  refine mm_q1 (r := (-1)) ⟨rfl, ?_⟩
  show mm_b _ _ _ _ _ [some (.ref 0)] [.int (-1)] ((fun _ => false, 0, 0, true, false, ad), (zI_501 xs), (fun _ _ => 0))
  refine mm_q1 (r := (-1)) ?_
  show mm_b _ _ _ _ _ [some (.ref 68), some (.ref 0), some (.ref 46), some (.ref 65), some (.int 0), none, none] [.int (-1)] ((fun _ => false, 599936, 6869426, true, false, ad), (zI_501 xs), (fun _ _ => 0))
  refine mm_e1 ?_
  refine mm_iv 600 (by rfl) ?_
  show mm_k _ _ _ _ _ [some (.ref 46)] [] ((fun _ => false, 0, 0, true, false, ad), (zI_501 xs), (fun _ _ => 0))
  refine mm_iv 600 (by rfl) ?_
  show mm_k _ _ _ _ _ [some (.ref 46)] [] ((fun _ => false, 0, 0, true, false, ad), (zI_501 xs), (fun _ _ => 0))
  refine mm_q0 ⟨rfl, ?_⟩
  show mm_b _ _ _ _ _ [some (.ref 46)] [] ((fun _ => false, 0, 0, true, false, ad), (zI_503 xs), (fun _ _ => 0))
  refine mm_tk (c := (0 : Int32) = 0) (d := ¬ (0 : Int32) = 0) (by decide) ?_
  show mm_u _ _ _ _ _ _ [some (.ref 46)] [] ((fun _ => false, 0, 0, true, false, ad), (zI_503 xs), (fun _ _ => 0))
  refine mm_iv 600 (by rfl) ?_
  show mm_k _ _ _ _ _ [some (.ref 46), some (.int 1)] [] ((fun _ => false, 0, 0, true, false, ad), (zI_503 xs), (fun _ _ => 0))
  refine mm_q1 (r := (-1)) ⟨rfl, ?_⟩
  show mm_b _ _ _ _ _ [some (.ref 46)] [.int (-1)] ((fun _ => false, 0, 0, true, false, ad), (zI_504 xs), (fun _ _ => 0))
  refine mm_q1 (r := (-1)) ?_
  show mm_b _ _ _ _ _ [some (.ref 68), some (.ref 0), some (.ref 46), some (.ref 65), some (.int 0), none, none] [.int (-1), .int (-1)] ((fun _ => false, 599936, 6869426, true, false, ad), (zI_504 xs), (fun _ _ => 0))
  refine mm_tk (c := ((-1) : Int32) = (-1)) (d := ¬ ((-1) : Int32) = (-1)) (by decide) ?_
  show mm_u _ _ _ _ _ _ [some (.ref 68), some (.ref 0), some (.ref 46), some (.ref 65), some (.int 0), none, none] [] ((fun _ => false, 599936, 6869426, true, false, ad), (zI_504 xs), (fun _ _ => 0))
  refine mm_tk (c := (((nI 6) - 6) : Int32) < 6) (d := ¬ (((nI 6) - 6) : Int32) < 6) (by decide) ?_
  show mm_u _ _ _ _ _ _ [some (.ref 68), some (.ref 0), some (.ref 46), some (.ref 65), some (.int 6), none, none] [] ((fun _ => false, 599936, 6869426, true, false, ad), (zI_504 xs), (fun _ _ => 0))
  refine mm_ob (P := (1 : Int32) = 0 ∨ (1 : Int32) = 1) (by decide) ?_
  exact rfl
def zI_517 (xs : Nat → Int32) : mmI := mm_up (mm_I0 6 xs) 0 7 1
def zI_518 (xs : Nat → Int32) : mmI := mm_up (zI_517 xs) 46 0 0
def zI_519 (xs : Nat → Int32) : mmI := mm_up (zI_518 xs) 46 11 0
def zI_520 (xs : Nat → Int32) : mmI := mm_up (zI_519 xs) 46 11 1
def zI_521 (xs : Nat → Int32) : mmI := mm_up (mm_I0 6 xs) 0 7 1
def zI_522 (xs : Nat → Int32) : mmI := mm_up (zI_521 xs) 46 0 0
def zI_523 (xs : Nat → Int32) : mmI := mm_up (zI_522 xs) 46 11 0
def zI_524 (xs : Nat → Int32) : mmI := mm_up (zI_523 xs) 46 11 1
set_option maxRecDepth 20000 in
set_option maxHeartbeats 4000000 in
theorem op_30 (ad : Nat → Nat) (xs : Nat → Int32) : mm_w (fun v _ => v = some (.int 1)) (mm_wc 210) bk_law 942 [some (.ref 68), some (.ref 0), some (.ref 46), some (.ref 65), some (.int 0), none, none] [] (mm_s0 ad 6 xs) := by
  refine mm_go [] 600 ?_
  refine mm_ob (P := vp_in 1 (nI 6).toNatClampNeg) (mm_inl (by decide)) ?_
  show mm_b _ _ _ _ _ [some (.ref 68), some (.ref 0), some (.ref 46), some (.ref 65), some (.int 0), none, none] [.int (xs 1), .ref 0] ((fun _ => false, 599936, 6869426, true, false, ad), (mm_I0 6 xs), (fun _ _ => 0))
  refine mm_ob (P := vp_in 2 (nI 6).toNatClampNeg) (mm_inl (by decide)) ?_
  show mm_b _ _ _ _ _ [some (.ref 68), some (.ref 0), some (.ref 46), some (.ref 65), some (.int 0), none, none] [.int (xs 2), .int (xs 1), .ref 0] ((fun _ => false, 599936, 6869426, true, false, ad), (mm_I0 6 xs), (fun _ _ => 0))
  refine mm_both (c := ((xs 2) : Int32) = 0) (d := ¬ ((xs 2) : Int32) = 0) (fun c0 => ?_) (fun c0 => ?_)
  · show mm_u _ _ _ _ _ _ [some (.ref 68), some (.ref 0), some (.ref 46), some (.ref 65), some (.int 0), none, none] [.int (xs 1), .ref 0] ((fun _ => false, 599936, 6869426, true, false, ad), (mm_I0 6 xs), (fun _ _ => 0))
    refine mm_e1 ?_
    refine mm_iv 600 (by rfl) ?_
    show mm_k _ _ _ _ _ [some (.ref 0), some (.int (xs 1)), some (.int 0)] [] ((fun _ => false, 0, 0, true, false, ad), (mm_I0 6 xs), (fun _ _ => 0))
    refine mm_iv 600 (by rfl) ?_
    show mm_k _ _ _ _ _ [some (.ref 0), some (.int (xs 1)), some (.int 3)] [] ((fun _ => false, 0, 0, true, false, ad), (mm_I0 6 xs), (fun _ _ => 0))
    refine mm_el (c := ¬ (0 : Int32) = 0) (d := (0 : Int32) = 0) (by decide) ?_
    show mm_b _ _ _ _ _ [some (.ref 0), some (.int (xs 1)), some (.int 3)] [] ((fun _ => false, 0, 0, true, false, ad), (mm_I0 6 xs), (fun _ _ => 0))
    refine mm_ob (P := (1 : Int32) = 0 ∨ (1 : Int32) = 1) (by decide) ?_
    refine mm_q1 (r := 1) ⟨rfl, ?_⟩
    show mm_b _ _ _ _ _ [some (.ref 0), some (.int (xs 1)), some (.int 0)] [.int 1] ((fun _ => false, 0, 0, true, false, ad), (zI_517 xs), (fun _ _ => 0))
    refine mm_el (c := (1 : Int32) = 0) (d := ¬ (1 : Int32) = 0) (by decide) ?_
    show mm_b _ _ _ _ _ [some (.ref 0), some (.int (xs 1)), some (.int 0)] [] ((fun _ => false, 0, 0, true, false, ad), (zI_517 xs), (fun _ _ => 0))
    refine mm_q2 (r := (-1)) ?_
    show mm_b _ _ _ _ _ [some (.ref 68), some (.ref 0), some (.ref 46), some (.ref 65), some (.int 0), none, none] [.long (-1)] ((fun _ => false, 599936, 6869426, true, false, ad), (zI_517 xs), (fun _ _ => 0))
    refine mm_ob (P := vp_in 1 (nI 6).toNatClampNeg) (mm_inl (by decide)) ?_
    show mm_b _ _ _ _ _ [some (.ref 68), some (.ref 0), some (.ref 46), some (.ref 65), some (.int 0), none, none] [.int (xs 1), .ref 46, .long (-1)] ((fun _ => false, 599936, 6869426, true, false, ad), (zI_517 xs), (fun _ _ => 0))
    refine mm_ob (P := vp_in 2 (nI 6).toNatClampNeg) (mm_inl (by decide)) ?_
    show mm_b _ _ _ _ _ [some (.ref 68), some (.ref 0), some (.ref 46), some (.ref 65), some (.int 0), none, none] [.int (xs 2), .int (xs 1), .ref 46, .long (-1)] ((fun _ => false, 599936, 6869426, true, false, ad), (zI_517 xs), (fun _ _ => 0))
    refine mm_tk (c := ((xs 2) : Int32) = 0) (d := ¬ ((xs 2) : Int32) = 0) (fun q9 => by simp only [Int32.lt_iff_toInt_lt, Int32.le_iff_toInt_le, ← Int32.toInt_inj, li_0, li_1, li_2, li_3, li_4, li_5, li_6, li_7, li_8, li_9, li_10, li_11, li_12, li_13, li_14, li_15] at *; omega) ?_
    show mm_u _ _ _ _ _ _ [some (.ref 68), some (.ref 0), some (.ref 46), some (.ref 65), some (.int 0), none, none] [.int (xs 1), .ref 46, .long (-1)] ((fun _ => false, 599936, 6869426, true, false, ad), (zI_517 xs), (fun _ _ => 0))
    refine mm_e1 ?_
    refine mm_iv 600 (by rfl) ?_
    show mm_k _ _ _ _ _ [some (.ref 46), some (.int (xs 1)), some (.int 0), none, none, none, none, none] [] ((fun _ => false, 0, 0, true, false, ad), (zI_517 xs), (fun _ _ => 0))
    refine mm_iv 600 (by rfl) ?_
    show mm_k _ _ _ _ _ [some (.ref 46)] [] ((fun _ => false, 0, 0, true, false, ad), (zI_517 xs), (fun _ _ => 0))
    refine mm_q0 ⟨rfl, ?_⟩
    show mm_b _ _ _ _ _ [some (.ref 46), some (.int (xs 1)), some (.int 0), none, none, none, none, none] [] ((fun _ => false, 0, 0, true, false, ad), (zI_519 xs), (fun _ _ => 0))
    refine mm_iv 600 (by rfl) ?_
    show mm_k _ _ _ _ _ [some (.ref 46), some (.int (xs 1)), some (.int 3)] [] ((fun _ => false, 0, 0, true, false, ad), (zI_519 xs), (fun _ _ => 0))
    refine mm_el (c := ¬ (0 : Int32) = 0) (d := (0 : Int32) = 0) (by decide) ?_
    show mm_b _ _ _ _ _ [some (.ref 46), some (.int (xs 1)), some (.int 3)] [] ((fun _ => false, 0, 0, true, false, ad), (zI_519 xs), (fun _ _ => 0))
    refine mm_q1 (r := 1) ⟨rfl, ?_⟩
    show mm_b _ _ _ _ _ [some (.ref 46), some (.int (xs 1)), some (.int 0), none, none, none, none, none] [.int 1] ((fun _ => false, 0, 0, true, false, ad), (zI_519 xs), (fun _ _ => 0))
    refine mm_el (c := (1 : Int32) = 0) (d := ¬ (1 : Int32) = 0) (by decide) ?_
    show mm_b _ _ _ _ _ [some (.ref 46), some (.int (xs 1)), some (.int 0), some (.int 1), none, none, none, none] [] ((fun _ => false, 0, 0, true, false, ad), (zI_519 xs), (fun _ _ => 0))
    refine mm_iv 600 (by rfl) ?_
    show mm_k _ _ _ _ _ [some (.ref 46), some (.int 1)] [] ((fun _ => false, 0, 0, true, false, ad), (zI_519 xs), (fun _ _ => 0))
    refine mm_q1 (r := (-1)) ⟨rfl, ?_⟩
    show mm_b _ _ _ _ _ [some (.ref 46), some (.int (xs 1)), some (.int 0), some (.int 1), none, none, none, none] [.int (-1)] ((fun _ => false, 0, 0, true, false, ad), (zI_520 xs), (fun _ _ => 0))
    refine mm_q2 (r := (Int32.toInt64 (-1))) ?_
    show mm_b _ _ _ _ _ [some (.ref 68), some (.ref 0), some (.ref 46), some (.ref 65), some (.int 0), none, none] [.long (Int32.toInt64 (-1)), .long (-1)] ((fun _ => false, 599936, 6869426, true, false, ad), (zI_520 xs), (fun _ _ => 0))
    refine mm_tk (c := ((lg_cmp (-1) (Int32.toInt64 (-1))) : Int32) = 0) (d := ¬ ((lg_cmp (-1) (Int32.toInt64 (-1))) : Int32) = 0) (by decide) ?_
    show mm_u _ _ _ _ _ _ [some (.ref 68), some (.ref 0), some (.ref 46), some (.ref 65), some (.int 0), none, none] [] ((fun _ => false, 599936, 6869426, true, false, ad), (zI_520 xs), (fun _ _ => 0))
    refine mm_tk (c := (((nI 6) - 6) : Int32) < 6) (d := ¬ (((nI 6) - 6) : Int32) < 6) (by decide) ?_
    show mm_u _ _ _ _ _ _ [some (.ref 68), some (.ref 0), some (.ref 46), some (.ref 65), some (.int 6), none, none] [] ((fun _ => false, 599936, 6869426, true, false, ad), (zI_520 xs), (fun _ _ => 0))
    refine mm_ob (P := (1 : Int32) = 0 ∨ (1 : Int32) = 1) (by decide) ?_
    exact rfl
  · show mm_b _ _ _ _ _ [some (.ref 68), some (.ref 0), some (.ref 46), some (.ref 65), some (.int 0), none, none] [.int (xs 1), .ref 0] ((fun _ => false, 599936, 6869426, true, false, ad), (mm_I0 6 xs), (fun _ _ => 0))
    refine mm_e1 ?_
    refine mm_iv 600 (by rfl) ?_
    show mm_k _ _ _ _ _ [some (.ref 0), some (.int (xs 1)), some (.int 1)] [] ((fun _ => false, 0, 0, true, false, ad), (mm_I0 6 xs), (fun _ _ => 0))
    refine mm_iv 600 (by rfl) ?_
    show mm_k _ _ _ _ _ [some (.ref 0), some (.int (xs 1)), some (.int 3)] [] ((fun _ => false, 0, 0, true, false, ad), (mm_I0 6 xs), (fun _ _ => 0))
    refine mm_el (c := ¬ (0 : Int32) = 0) (d := (0 : Int32) = 0) (by decide) ?_
    show mm_b _ _ _ _ _ [some (.ref 0), some (.int (xs 1)), some (.int 3)] [] ((fun _ => false, 0, 0, true, false, ad), (mm_I0 6 xs), (fun _ _ => 0))
    refine mm_ob (P := (1 : Int32) = 0 ∨ (1 : Int32) = 1) (by decide) ?_
    refine mm_q1 (r := 1) ⟨rfl, ?_⟩
    show mm_b _ _ _ _ _ [some (.ref 0), some (.int (xs 1)), some (.int 1)] [.int 1] ((fun _ => false, 0, 0, true, false, ad), (zI_521 xs), (fun _ _ => 0))
    refine mm_el (c := (1 : Int32) = 0) (d := ¬ (1 : Int32) = 0) (by decide) ?_
    show mm_b _ _ _ _ _ [some (.ref 0), some (.int (xs 1)), some (.int 1)] [] ((fun _ => false, 0, 0, true, false, ad), (zI_521 xs), (fun _ _ => 0))
    refine mm_q2 (r := (-1)) ?_
    show mm_b _ _ _ _ _ [some (.ref 68), some (.ref 0), some (.ref 46), some (.ref 65), some (.int 0), none, none] [.long (-1)] ((fun _ => false, 599936, 6869426, true, false, ad), (zI_521 xs), (fun _ _ => 0))
    refine mm_ob (P := vp_in 1 (nI 6).toNatClampNeg) (mm_inl (by decide)) ?_
    show mm_b _ _ _ _ _ [some (.ref 68), some (.ref 0), some (.ref 46), some (.ref 65), some (.int 0), none, none] [.int (xs 1), .ref 46, .long (-1)] ((fun _ => false, 599936, 6869426, true, false, ad), (zI_521 xs), (fun _ _ => 0))
    refine mm_ob (P := vp_in 2 (nI 6).toNatClampNeg) (mm_inl (by decide)) ?_
    show mm_b _ _ _ _ _ [some (.ref 68), some (.ref 0), some (.ref 46), some (.ref 65), some (.int 0), none, none] [.int (xs 2), .int (xs 1), .ref 46, .long (-1)] ((fun _ => false, 599936, 6869426, true, false, ad), (zI_521 xs), (fun _ _ => 0))
    refine mm_el (c := ((xs 2) : Int32) = 0) (d := ¬ ((xs 2) : Int32) = 0) (fun q9 => by simp only [Int32.lt_iff_toInt_lt, Int32.le_iff_toInt_le, ← Int32.toInt_inj, li_0, li_1, li_2, li_3, li_4, li_5, li_6, li_7, li_8, li_9, li_10, li_11, li_12, li_13, li_14, li_15] at *; omega) ?_
    show mm_b _ _ _ _ _ [some (.ref 68), some (.ref 0), some (.ref 46), some (.ref 65), some (.int 0), none, none] [.int (xs 1), .ref 46, .long (-1)] ((fun _ => false, 599936, 6869426, true, false, ad), (zI_521 xs), (fun _ _ => 0))
    refine mm_e1 ?_
    refine mm_iv 600 (by rfl) ?_
    show mm_k _ _ _ _ _ [some (.ref 46), some (.int (xs 1)), some (.int 1), none, none, none, none, none] [] ((fun _ => false, 0, 0, true, false, ad), (zI_521 xs), (fun _ _ => 0))
    refine mm_iv 600 (by rfl) ?_
    show mm_k _ _ _ _ _ [some (.ref 46)] [] ((fun _ => false, 0, 0, true, false, ad), (zI_521 xs), (fun _ _ => 0))
    refine mm_q0 ⟨rfl, ?_⟩
    show mm_b _ _ _ _ _ [some (.ref 46), some (.int (xs 1)), some (.int 1), none, none, none, none, none] [] ((fun _ => false, 0, 0, true, false, ad), (zI_523 xs), (fun _ _ => 0))
    refine mm_iv 600 (by rfl) ?_
    show mm_k _ _ _ _ _ [some (.ref 46), some (.int (xs 1)), some (.int 3)] [] ((fun _ => false, 0, 0, true, false, ad), (zI_523 xs), (fun _ _ => 0))
    refine mm_el (c := ¬ (0 : Int32) = 0) (d := (0 : Int32) = 0) (by decide) ?_
    show mm_b _ _ _ _ _ [some (.ref 46), some (.int (xs 1)), some (.int 3)] [] ((fun _ => false, 0, 0, true, false, ad), (zI_523 xs), (fun _ _ => 0))
    refine mm_q1 (r := 1) ⟨rfl, ?_⟩
    show mm_b _ _ _ _ _ [some (.ref 46), some (.int (xs 1)), some (.int 1), none, none, none, none, none] [.int 1] ((fun _ => false, 0, 0, true, false, ad), (zI_523 xs), (fun _ _ => 0))
    refine mm_el (c := (1 : Int32) = 0) (d := ¬ (1 : Int32) = 0) (by decide) ?_
    show mm_b _ _ _ _ _ [some (.ref 46), some (.int (xs 1)), some (.int 1), some (.int 1), none, none, none, none] [] ((fun _ => false, 0, 0, true, false, ad), (zI_523 xs), (fun _ _ => 0))
    refine mm_iv 600 (by rfl) ?_
    show mm_k _ _ _ _ _ [some (.ref 46), some (.int 1)] [] ((fun _ => false, 0, 0, true, false, ad), (zI_523 xs), (fun _ _ => 0))
    refine mm_q1 (r := (-1)) ⟨rfl, ?_⟩
    show mm_b _ _ _ _ _ [some (.ref 46), some (.int (xs 1)), some (.int 1), some (.int 1), none, none, none, none] [.int (-1)] ((fun _ => false, 0, 0, true, false, ad), (zI_524 xs), (fun _ _ => 0))
    refine mm_q2 (r := (Int32.toInt64 (-1))) ?_
    show mm_b _ _ _ _ _ [some (.ref 68), some (.ref 0), some (.ref 46), some (.ref 65), some (.int 0), none, none] [.long (Int32.toInt64 (-1)), .long (-1)] ((fun _ => false, 599936, 6869426, true, false, ad), (zI_524 xs), (fun _ _ => 0))
    refine mm_tk (c := ((lg_cmp (-1) (Int32.toInt64 (-1))) : Int32) = 0) (d := ¬ ((lg_cmp (-1) (Int32.toInt64 (-1))) : Int32) = 0) (by decide) ?_
    show mm_u _ _ _ _ _ _ [some (.ref 68), some (.ref 0), some (.ref 46), some (.ref 65), some (.int 0), none, none] [] ((fun _ => false, 599936, 6869426, true, false, ad), (zI_524 xs), (fun _ _ => 0))
    refine mm_tk (c := (((nI 6) - 6) : Int32) < 6) (d := ¬ (((nI 6) - 6) : Int32) < 6) (by decide) ?_
    show mm_u _ _ _ _ _ _ [some (.ref 68), some (.ref 0), some (.ref 46), some (.ref 65), some (.int 6), none, none] [] ((fun _ => false, 599936, 6869426, true, false, ad), (zI_524 xs), (fun _ _ => 0))
    refine mm_ob (P := (1 : Int32) = 0 ∨ (1 : Int32) = 1) (by decide) ?_
    exact rfl
def zI_541 (xs : Nat → Int32) : mmI := mm_up (mm_I0 6 xs) 0 7 1
def zI_542 (xs : Nat → Int32) : mmI := mm_up (zI_541 xs) 46 0 0
def zI_543 (xs : Nat → Int32) : mmI := mm_up (zI_542 xs) 46 11 0
def zI_544 (xs : Nat → Int32) : mmI := mm_up (zI_543 xs) 46 11 1
set_option maxRecDepth 20000 in
set_option maxHeartbeats 4000000 in
theorem op_34 (ad : Nat → Nat) (xs : Nat → Int32) : mm_w (fun v _ => v = some (.int 1)) (mm_wc 210) bk_law 1100 [some (.ref 68), some (.ref 0), some (.ref 46), some (.ref 65), some (.int 0), none, none] [] (mm_s0 ad 6 xs) := by
  refine mm_go [] 600 ?_
  refine mm_ob (P := vp_in 1 (nI 6).toNatClampNeg) (mm_inl (by decide)) ?_
  show mm_b _ _ _ _ _ [some (.ref 68), some (.ref 0), some (.ref 46), some (.ref 65), some (.int 0), none, none] [.int (xs 1), .ref 0] ((fun _ => false, 599936, 6869426, true, false, ad), (mm_I0 6 xs), (fun _ _ => 0))
  refine mm_ob (P := vp_in 2 (nI 6).toNatClampNeg) (mm_inl (by decide)) ?_
  show mm_b _ _ _ _ _ [some (.ref 68), some (.ref 0), some (.ref 46), some (.ref 65), some (.int 0), none, none] [.int (xs 2), .int (xs 1), .ref 0] ((fun _ => false, 599936, 6869426, true, false, ad), (mm_I0 6 xs), (fun _ _ => 0))
  refine mm_e1 ?_
  refine mm_iv 600 (by rfl) ?_
  show mm_k _ _ _ _ _ [some (.ref 0), some (.int (xs 1)), some (.int (xs 2)), none] [] ((fun _ => false, 0, 0, true, false, ad), (mm_I0 6 xs), (fun _ _ => 0))
  refine mm_iv 600 (by rfl) ?_
  show mm_k _ _ _ _ _ [some (.ref 0), some (.int (xs 1))] [] ((fun _ => false, 0, 0, true, false, ad), (mm_I0 6 xs), (fun _ _ => 0))
  refine mm_iv 600 (by rfl) ?_
  show mm_k _ _ _ _ _ [some (.ref 0), some (.int (xs 1)), some (.int 2)] [] ((fun _ => false, 0, 0, true, false, ad), (mm_I0 6 xs), (fun _ _ => 0))
  refine mm_el (c := ¬ (0 : Int32) = 0) (d := (0 : Int32) = 0) (by decide) ?_
  show mm_b _ _ _ _ _ [some (.ref 0), some (.int (xs 1)), some (.int 2)] [] ((fun _ => false, 0, 0, true, false, ad), (mm_I0 6 xs), (fun _ _ => 0))
  refine mm_ob (P := (1 : Int32) = 0 ∨ (1 : Int32) = 1) (by decide) ?_
  refine mm_q1 (r := 1) ⟨rfl, ?_⟩
  show mm_b _ _ _ _ _ [some (.ref 0), some (.int (xs 1))] [.int 1] ((fun _ => false, 0, 0, true, false, ad), (zI_541 xs), (fun _ _ => 0))
  refine mm_el (c := (1 : Int32) = 0) (d := ¬ (1 : Int32) = 0) (by decide) ?_
  show mm_b _ _ _ _ _ [some (.ref 0), some (.int (xs 1))] [] ((fun _ => false, 0, 0, true, false, ad), (zI_541 xs), (fun _ _ => 0))
  refine mm_ob (P := (1 : Int32) = 0 ∨ (1 : Int32) = 1) (by decide) ?_
  refine mm_q1 (r := 1) ⟨rfl, ?_⟩
  show mm_b _ _ _ _ _ [some (.ref 0), some (.int (xs 1)), some (.int (xs 2)), none] [.int 1] ((fun _ => false, 0, 0, true, false, ad), (zI_541 xs), (fun _ _ => 0))
  refine mm_el (c := (1 : Int32) = 0) (d := ¬ (1 : Int32) = 0) (by decide) ?_
  show mm_b _ _ _ _ _ [some (.ref 0), some (.int (xs 1)), some (.int (xs 2)), none] [] ((fun _ => false, 0, 0, true, false, ad), (zI_541 xs), (fun _ _ => 0))
  refine mm_q1 (r := (-1)) ?_
  show mm_b _ _ _ _ _ [some (.ref 68), some (.ref 0), some (.ref 46), some (.ref 65), some (.int 0), none, none] [.int (-1)] ((fun _ => false, 599936, 6869426, true, false, ad), (zI_541 xs), (fun _ _ => 0))
  refine mm_ob (P := vp_in 1 (nI 6).toNatClampNeg) (mm_inl (by decide)) ?_
  show mm_b _ _ _ _ _ [some (.ref 68), some (.ref 0), some (.ref 46), some (.ref 65), some (.int 0), none, none] [.int (xs 1), .ref 46, .int (-1)] ((fun _ => false, 599936, 6869426, true, false, ad), (zI_541 xs), (fun _ _ => 0))
  refine mm_ob (P := vp_in 2 (nI 6).toNatClampNeg) (mm_inl (by decide)) ?_
  show mm_b _ _ _ _ _ [some (.ref 68), some (.ref 0), some (.ref 46), some (.ref 65), some (.int 0), none, none] [.int (xs 2), .int (xs 1), .ref 46, .int (-1)] ((fun _ => false, 599936, 6869426, true, false, ad), (zI_541 xs), (fun _ _ => 0))
  refine mm_e1 ?_
  refine mm_iv 600 (by rfl) ?_
  show mm_k _ _ _ _ _ [some (.ref 46), some (.int (xs 1)), some (.int (xs 2)), none, none] [] ((fun _ => false, 0, 0, true, false, ad), (zI_541 xs), (fun _ _ => 0))
  refine mm_iv 600 (by rfl) ?_
  show mm_k _ _ _ _ _ [some (.ref 46)] [] ((fun _ => false, 0, 0, true, false, ad), (zI_541 xs), (fun _ _ => 0))
  refine mm_q0 ⟨rfl, ?_⟩
  show mm_b _ _ _ _ _ [some (.ref 46), some (.int (xs 1)), some (.int (xs 2)), none, none] [] ((fun _ => false, 0, 0, true, false, ad), (zI_543 xs), (fun _ _ => 0))
  refine mm_iv 600 (by rfl) ?_
  show mm_k _ _ _ _ _ [some (.ref 46), some (.int (xs 1)), none] [] ((fun _ => false, 0, 0, true, false, ad), (zI_543 xs), (fun _ _ => 0))
  refine mm_iv 600 (by rfl) ?_
  show mm_k _ _ _ _ _ [some (.ref 46), some (.int (xs 1)), some (.int 2)] [] ((fun _ => false, 0, 0, true, false, ad), (zI_543 xs), (fun _ _ => 0))
  refine mm_el (c := ¬ (0 : Int32) = 0) (d := (0 : Int32) = 0) (by decide) ?_
  show mm_b _ _ _ _ _ [some (.ref 46), some (.int (xs 1)), some (.int 2)] [] ((fun _ => false, 0, 0, true, false, ad), (zI_543 xs), (fun _ _ => 0))
  refine mm_q1 (r := 1) ⟨rfl, ?_⟩
  show mm_b _ _ _ _ _ [some (.ref 46), some (.int (xs 1)), none] [.int 1] ((fun _ => false, 0, 0, true, false, ad), (zI_543 xs), (fun _ _ => 0))
  refine mm_tk (c := ¬ (1 : Int32) = 0) (d := (1 : Int32) = 0) (by decide) ?_
  show mm_u _ _ _ _ _ _ [some (.ref 46), some (.int (xs 1)), some (.int 1)] [] ((fun _ => false, 0, 0, true, false, ad), (zI_543 xs), (fun _ _ => 0))
  refine mm_q1 (r := 1) ⟨rfl, ?_⟩
  show mm_b _ _ _ _ _ [some (.ref 46), some (.int (xs 1)), some (.int (xs 2)), none, none] [.int 1] ((fun _ => false, 0, 0, true, false, ad), (zI_543 xs), (fun _ _ => 0))
  refine mm_el (c := (1 : Int32) = 0) (d := ¬ (1 : Int32) = 0) (by decide) ?_
  show mm_b _ _ _ _ _ [some (.ref 46), some (.int (xs 1)), some (.int (xs 2)), some (.int 1), none] [] ((fun _ => false, 0, 0, true, false, ad), (zI_543 xs), (fun _ _ => 0))
  refine mm_iv 600 (by rfl) ?_
  show mm_k _ _ _ _ _ [some (.ref 46), some (.int 1)] [] ((fun _ => false, 0, 0, true, false, ad), (zI_543 xs), (fun _ _ => 0))
  refine mm_q1 (r := (-1)) ⟨rfl, ?_⟩
  show mm_b _ _ _ _ _ [some (.ref 46), some (.int (xs 1)), some (.int (xs 2)), some (.int 1), none] [.int (-1)] ((fun _ => false, 0, 0, true, false, ad), (zI_544 xs), (fun _ _ => 0))
  refine mm_q1 (r := (-1)) ?_
  show mm_b _ _ _ _ _ [some (.ref 68), some (.ref 0), some (.ref 46), some (.ref 65), some (.int 0), none, none] [.int (-1), .int (-1)] ((fun _ => false, 599936, 6869426, true, false, ad), (zI_544 xs), (fun _ _ => 0))
  refine mm_tk (c := ((-1) : Int32) = (-1)) (d := ¬ ((-1) : Int32) = (-1)) (by decide) ?_
  show mm_u _ _ _ _ _ _ [some (.ref 68), some (.ref 0), some (.ref 46), some (.ref 65), some (.int 0), none, none] [] ((fun _ => false, 599936, 6869426, true, false, ad), (zI_544 xs), (fun _ _ => 0))
  refine mm_tk (c := (((nI 6) - 6) : Int32) < 6) (d := ¬ (((nI 6) - 6) : Int32) < 6) (by decide) ?_
  show mm_u _ _ _ _ _ _ [some (.ref 68), some (.ref 0), some (.ref 46), some (.ref 65), some (.int 6), none, none] [] ((fun _ => false, 599936, 6869426, true, false, ad), (zI_544 xs), (fun _ _ => 0))
  refine mm_ob (P := (1 : Int32) = 0 ∨ (1 : Int32) = 1) (by decide) ?_
  exact rfl
def zI_569 (xs : Nat → Int32) : mmI := mm_up (mm_I0 6 xs) 0 7 1
def zI_570 (xs : Nat → Int32) : mmI := mm_up (zI_569 xs) 46 0 0
def zI_571 (xs : Nat → Int32) : mmI := mm_up (zI_570 xs) 46 11 0
def zI_572 (xs : Nat → Int32) : mmI := mm_up (zI_571 xs) 46 11 1
def zI_573 (xs : Nat → Int32) : mmI := mm_up (mm_I0 6 xs) 0 7 1
def zI_574 (xs : Nat → Int32) : mmI := mm_up (zI_573 xs) 46 0 0
def zI_575 (xs : Nat → Int32) : mmI := mm_up (zI_574 xs) 46 11 0
def zI_576 (xs : Nat → Int32) : mmI := mm_up (zI_575 xs) 46 11 1
set_option maxRecDepth 20000 in
set_option maxHeartbeats 4000000 in
theorem op_38 (ad : Nat → Nat) (xs : Nat → Int32) : mm_w (fun v _ => v = some (.int 1)) (mm_wc 210) bk_law 1212 [some (.ref 68), some (.ref 0), some (.ref 46), some (.ref 65), some (.int 0), none, none] [] (mm_s0 ad 6 xs) := by
  refine mm_go [] 600 ?_
  refine mm_ob (P := vp_in 1 (nI 6).toNatClampNeg) (mm_inl (by decide)) ?_
  show mm_b _ _ _ _ _ [some (.ref 68), some (.ref 0), some (.ref 46), some (.ref 65), some (.int 0), none, none] [.int (xs 1), .ref 0] ((fun _ => false, 599936, 6869426, true, false, ad), (mm_I0 6 xs), (fun _ _ => 0))
  refine mm_e1 ?_
  refine mm_iv 600 (by rfl) ?_
  show mm_k _ _ _ _ _ [some (.ref 0), some (.int (xs 1))] [] ((fun _ => false, 0, 0, true, false, ad), (mm_I0 6 xs), (fun _ _ => 0))
  refine mm_iv 600 (by rfl) ?_
  show mm_k _ _ _ _ _ [some (.ref 15), some (.int (xs 1))] [] ((fun _ => false, 0, 0, true, false, ad), (mm_I0 6 xs), (fun _ _ => 0))
  refine mm_both (c := ((xs 1) : Int32) < 0) (d := ¬ ((xs 1) : Int32) < 0) (fun c0 => ?_) (fun c0 => ?_)
  · show mm_u _ _ _ _ _ _ [some (.ref 15), some (.int (xs 1))] [] ((fun _ => false, 0, 0, true, false, ad), (mm_I0 6 xs), (fun _ _ => 0))
    refine mm_ob (P := (0 : Int32) = 0 ∨ (0 : Int32) = 1) (by decide) ?_
    refine mm_q1 (r := 0) ⟨rfl, ?_⟩
    show mm_b _ _ _ _ _ [some (.ref 0), some (.int (xs 1))] [.int 0] ((fun _ => false, 0, 0, true, false, ad), (mm_I0 6 xs), (fun _ _ => 0))
    refine mm_tk (c := (0 : Int32) = 0) (d := ¬ (0 : Int32) = 0) (by decide) ?_
    show mm_u _ _ _ _ _ _ [some (.ref 0), some (.int (xs 1))] [] ((fun _ => false, 0, 0, true, false, ad), (mm_I0 6 xs), (fun _ _ => 0))
    refine mm_iv 600 (by rfl) ?_
    show mm_k _ _ _ _ _ [some (.ref 0), some (.int 1)] [] ((fun _ => false, 0, 0, true, false, ad), (mm_I0 6 xs), (fun _ _ => 0))
    refine mm_ob (P := (0 : Int32) = 0 ∨ (0 : Int32) = 1) (by decide) ?_
    refine mm_q1 (r := 0) ⟨rfl, ?_⟩
    show mm_b _ _ _ _ _ [some (.ref 0), none] [.int 0] ((fun _ => false, 0, 0, true, false, ad), (zI_569 xs), (fun _ _ => 0))
    refine mm_ob (P := (0 : Int32) = 0 ∨ (0 : Int32) = 1) (by decide) ?_
    refine mm_q1 (r := 0) ?_
    show mm_b _ _ _ _ _ [some (.ref 68), some (.ref 0), some (.ref 46), some (.ref 65), some (.int 0), none, none] [.int 0] ((fun _ => false, 599936, 6869426, true, false, ad), (zI_569 xs), (fun _ _ => 0))
    refine mm_ob (P := vp_in 1 (nI 6).toNatClampNeg) (mm_inl (by decide)) ?_
    show mm_b _ _ _ _ _ [some (.ref 68), some (.ref 0), some (.ref 46), some (.ref 65), some (.int 0), none, none] [.int (xs 1), .ref 46, .int 0] ((fun _ => false, 599936, 6869426, true, false, ad), (zI_569 xs), (fun _ _ => 0))
    refine mm_e1 ?_
    refine mm_iv 600 (by rfl) ?_
    show mm_k _ _ _ _ _ [some (.ref 46), some (.int (xs 1))] [] ((fun _ => false, 0, 0, true, false, ad), (zI_569 xs), (fun _ _ => 0))
    refine mm_iv 600 (by rfl) ?_
    show mm_k _ _ _ _ _ [some (.ref 46)] [] ((fun _ => false, 0, 0, true, false, ad), (zI_569 xs), (fun _ _ => 0))
    refine mm_q0 ⟨rfl, ?_⟩
    show mm_b _ _ _ _ _ [some (.ref 46), some (.int (xs 1))] [] ((fun _ => false, 0, 0, true, false, ad), (zI_571 xs), (fun _ _ => 0))
    refine mm_iv 600 (by rfl) ?_
    show mm_k _ _ _ _ _ [some (.int (xs 1)), some (.int 0), some (.int (-1))] [] ((fun _ => false, 0, 0, true, false, ad), (zI_571 xs), (fun _ _ => 0))
    refine mm_tk (c := ((xs 1) : Int32) < 0) (d := ¬ ((xs 1) : Int32) < 0) (fun q9 => by simp only [Int32.lt_iff_toInt_lt, Int32.le_iff_toInt_le, ← Int32.toInt_inj, li_0, li_1, li_2, li_3, li_4, li_5, li_6, li_7, li_8, li_9, li_10, li_11, li_12, li_13, li_14, li_15] at *; omega) ?_
    show mm_u _ _ _ _ _ _ [some (.int (xs 1)), some (.int 0), some (.int (-1))] [] ((fun _ => false, 0, 0, true, false, ad), (zI_571 xs), (fun _ _ => 0))
    refine mm_ob (P := (0 : Int32) = 0 ∨ (0 : Int32) = 1) (by decide) ?_
    refine mm_q1 (r := 0) ⟨rfl, ?_⟩
    show mm_b _ _ _ _ _ [some (.ref 46), some (.int (xs 1))] [.int 0] ((fun _ => false, 0, 0, true, false, ad), (zI_571 xs), (fun _ _ => 0))
    refine mm_el (c := ¬ (0 : Int32) = 0) (d := (0 : Int32) = 0) (by decide) ?_
    show mm_b _ _ _ _ _ [some (.ref 46), some (.int (xs 1))] [] ((fun _ => false, 0, 0, true, false, ad), (zI_571 xs), (fun _ _ => 0))
    refine mm_iv 600 (by rfl) ?_
    show mm_k _ _ _ _ _ [some (.ref 46), some (.int 1)] [] ((fun _ => false, 0, 0, true, false, ad), (zI_571 xs), (fun _ _ => 0))
    refine mm_ob (P := (0 : Int32) = 0 ∨ (0 : Int32) = 1) (by decide) ?_
    refine mm_q1 (r := 0) ⟨rfl, ?_⟩
    show mm_b _ _ _ _ _ [some (.ref 46), some (.int (xs 1))] [.int 0] ((fun _ => false, 0, 0, true, false, ad), (zI_572 xs), (fun _ _ => 0))
    refine mm_ob (P := (0 : Int32) = 0 ∨ (0 : Int32) = 1) (by decide) ?_
    refine mm_q1 (r := 0) ?_
    show mm_b _ _ _ _ _ [some (.ref 68), some (.ref 0), some (.ref 46), some (.ref 65), some (.int 0), none, none] [.int 0, .int 0] ((fun _ => false, 599936, 6869426, true, false, ad), (zI_572 xs), (fun _ _ => 0))
    refine mm_tk (c := (0 : Int32) = 0) (d := ¬ (0 : Int32) = 0) (by decide) ?_
    show mm_u _ _ _ _ _ _ [some (.ref 68), some (.ref 0), some (.ref 46), some (.ref 65), some (.int 0), none, none] [] ((fun _ => false, 599936, 6869426, true, false, ad), (zI_572 xs), (fun _ _ => 0))
    refine mm_tk (c := (((nI 6) - 6) : Int32) < 6) (d := ¬ (((nI 6) - 6) : Int32) < 6) (by decide) ?_
    show mm_u _ _ _ _ _ _ [some (.ref 68), some (.ref 0), some (.ref 46), some (.ref 65), some (.int 6), none, none] [] ((fun _ => false, 599936, 6869426, true, false, ad), (zI_572 xs), (fun _ _ => 0))
    refine mm_ob (P := (1 : Int32) = 0 ∨ (1 : Int32) = 1) (by decide) ?_
    exact rfl
  · show mm_b _ _ _ _ _ [some (.ref 15), some (.int (xs 1))] [] ((fun _ => false, 0, 0, true, false, ad), (mm_I0 6 xs), (fun _ _ => 0))
    refine mm_el (c := ((xs 1) : Int32) < 0) (d := ¬ ((xs 1) : Int32) < 0) (fun q9 => by simp only [Int32.lt_iff_toInt_lt, Int32.le_iff_toInt_le, ← Int32.toInt_inj, li_0, li_1, li_2, li_3, li_4, li_5, li_6, li_7, li_8, li_9, li_10, li_11, li_12, li_13, li_14, li_15] at *; omega) ?_
    show mm_b _ _ _ _ _ [some (.ref 15), some (.int (xs 1))] [] ((fun _ => false, 0, 0, true, false, ad), (mm_I0 6 xs), (fun _ _ => 0))
    refine mm_ob (P := (0 : Int32) = 0 ∨ (0 : Int32) = 1) (by decide) ?_
    refine mm_q1 (r := 0) ⟨rfl, ?_⟩
    show mm_b _ _ _ _ _ [some (.ref 0), some (.int (xs 1))] [.int 0] ((fun _ => false, 0, 0, true, false, ad), (mm_I0 6 xs), (fun _ _ => 0))
    refine mm_tk (c := (0 : Int32) = 0) (d := ¬ (0 : Int32) = 0) (by decide) ?_
    show mm_u _ _ _ _ _ _ [some (.ref 0), some (.int (xs 1))] [] ((fun _ => false, 0, 0, true, false, ad), (mm_I0 6 xs), (fun _ _ => 0))
    refine mm_iv 600 (by rfl) ?_
    show mm_k _ _ _ _ _ [some (.ref 0), some (.int 1)] [] ((fun _ => false, 0, 0, true, false, ad), (mm_I0 6 xs), (fun _ _ => 0))
    refine mm_ob (P := (0 : Int32) = 0 ∨ (0 : Int32) = 1) (by decide) ?_
    refine mm_q1 (r := 0) ⟨rfl, ?_⟩
    show mm_b _ _ _ _ _ [some (.ref 0), none] [.int 0] ((fun _ => false, 0, 0, true, false, ad), (zI_573 xs), (fun _ _ => 0))
    refine mm_ob (P := (0 : Int32) = 0 ∨ (0 : Int32) = 1) (by decide) ?_
    refine mm_q1 (r := 0) ?_
    show mm_b _ _ _ _ _ [some (.ref 68), some (.ref 0), some (.ref 46), some (.ref 65), some (.int 0), none, none] [.int 0] ((fun _ => false, 599936, 6869426, true, false, ad), (zI_573 xs), (fun _ _ => 0))
    refine mm_ob (P := vp_in 1 (nI 6).toNatClampNeg) (mm_inl (by decide)) ?_
    show mm_b _ _ _ _ _ [some (.ref 68), some (.ref 0), some (.ref 46), some (.ref 65), some (.int 0), none, none] [.int (xs 1), .ref 46, .int 0] ((fun _ => false, 599936, 6869426, true, false, ad), (zI_573 xs), (fun _ _ => 0))
    refine mm_e1 ?_
    refine mm_iv 600 (by rfl) ?_
    show mm_k _ _ _ _ _ [some (.ref 46), some (.int (xs 1))] [] ((fun _ => false, 0, 0, true, false, ad), (zI_573 xs), (fun _ _ => 0))
    refine mm_iv 600 (by rfl) ?_
    show mm_k _ _ _ _ _ [some (.ref 46)] [] ((fun _ => false, 0, 0, true, false, ad), (zI_573 xs), (fun _ _ => 0))
    refine mm_q0 ⟨rfl, ?_⟩
    show mm_b _ _ _ _ _ [some (.ref 46), some (.int (xs 1))] [] ((fun _ => false, 0, 0, true, false, ad), (zI_575 xs), (fun _ _ => 0))
    refine mm_iv 600 (by rfl) ?_
    show mm_k _ _ _ _ _ [some (.int (xs 1)), some (.int 0), some (.int (-1))] [] ((fun _ => false, 0, 0, true, false, ad), (zI_575 xs), (fun _ _ => 0))
    refine mm_el (c := ((xs 1) : Int32) < 0) (d := ¬ ((xs 1) : Int32) < 0) (fun q9 => by simp only [Int32.lt_iff_toInt_lt, Int32.le_iff_toInt_le, ← Int32.toInt_inj, li_0, li_1, li_2, li_3, li_4, li_5, li_6, li_7, li_8, li_9, li_10, li_11, li_12, li_13, li_14, li_15] at *; omega) ?_
    show mm_b _ _ _ _ _ [some (.int (xs 1)), some (.int 0), some (.int (-1))] [] ((fun _ => false, 0, 0, true, false, ad), (zI_575 xs), (fun _ _ => 0))
    refine mm_tk (c := ((-1) : Int32) < (xs 1)) (d := ¬ ((-1) : Int32) < (xs 1)) (fun q9 => by simp only [Int32.lt_iff_toInt_lt, Int32.le_iff_toInt_le, ← Int32.toInt_inj, li_0, li_1, li_2, li_3, li_4, li_5, li_6, li_7, li_8, li_9, li_10, li_11, li_12, li_13, li_14, li_15] at *; omega) ?_
    show mm_u _ _ _ _ _ _ [some (.int (xs 1)), some (.int 0), some (.int (-1))] [] ((fun _ => false, 0, 0, true, false, ad), (zI_575 xs), (fun _ _ => 0))
    refine mm_ob (P := (0 : Int32) = 0 ∨ (0 : Int32) = 1) (by decide) ?_
    refine mm_q1 (r := 0) ⟨rfl, ?_⟩
    show mm_b _ _ _ _ _ [some (.ref 46), some (.int (xs 1))] [.int 0] ((fun _ => false, 0, 0, true, false, ad), (zI_575 xs), (fun _ _ => 0))
    refine mm_el (c := ¬ (0 : Int32) = 0) (d := (0 : Int32) = 0) (by decide) ?_
    show mm_b _ _ _ _ _ [some (.ref 46), some (.int (xs 1))] [] ((fun _ => false, 0, 0, true, false, ad), (zI_575 xs), (fun _ _ => 0))
    refine mm_iv 600 (by rfl) ?_
    show mm_k _ _ _ _ _ [some (.ref 46), some (.int 1)] [] ((fun _ => false, 0, 0, true, false, ad), (zI_575 xs), (fun _ _ => 0))
    refine mm_ob (P := (0 : Int32) = 0 ∨ (0 : Int32) = 1) (by decide) ?_
    refine mm_q1 (r := 0) ⟨rfl, ?_⟩
    show mm_b _ _ _ _ _ [some (.ref 46), some (.int (xs 1))] [.int 0] ((fun _ => false, 0, 0, true, false, ad), (zI_576 xs), (fun _ _ => 0))
    refine mm_ob (P := (0 : Int32) = 0 ∨ (0 : Int32) = 1) (by decide) ?_
    refine mm_q1 (r := 0) ?_
    show mm_b _ _ _ _ _ [some (.ref 68), some (.ref 0), some (.ref 46), some (.ref 65), some (.int 0), none, none] [.int 0, .int 0] ((fun _ => false, 599936, 6869426, true, false, ad), (zI_576 xs), (fun _ _ => 0))
    refine mm_tk (c := (0 : Int32) = 0) (d := ¬ (0 : Int32) = 0) (by decide) ?_
    show mm_u _ _ _ _ _ _ [some (.ref 68), some (.ref 0), some (.ref 46), some (.ref 65), some (.int 0), none, none] [] ((fun _ => false, 599936, 6869426, true, false, ad), (zI_576 xs), (fun _ _ => 0))
    refine mm_tk (c := (((nI 6) - 6) : Int32) < 6) (d := ¬ (((nI 6) - 6) : Int32) < 6) (by decide) ?_
    show mm_u _ _ _ _ _ _ [some (.ref 68), some (.ref 0), some (.ref 46), some (.ref 65), some (.int 6), none, none] [] ((fun _ => false, 599936, 6869426, true, false, ad), (zI_576 xs), (fun _ _ => 0))
    refine mm_ob (P := (1 : Int32) = 0 ∨ (1 : Int32) = 1) (by decide) ?_
    exact rfl
