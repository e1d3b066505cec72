/-! one call on a fresh object: the calls -/
/- needs: 0 1 20 21 22 23 24 25 26 27 28 29 30 32 40 41 42 50 -/
def zI_409 (xs : Nat → Int32) : mmI := mm_up (mm_I0 6 xs) 0 7 1
def zI_410 (xs : Nat → Int32) : mmI := mm_up (zI_409 xs) 46 0 0
def zI_411 (xs : Nat → Int32) : mmI := mm_up (zI_410 xs) 46 11 0
def zI_412 (xs : Nat → Int32) : mmI := mm_up (zI_411 xs) 46 11 1
set_option maxRecDepth 20000 in
set_option maxHeartbeats 4000000 in
theorem op_4 (ad : Nat → Nat) (xs : Nat → Int32) : mm_w (fun v _ => v = some (.int 1)) (mm_wc 210) bk_law 348 [some (.ref 68), some (.ref 0), some (.ref 46), some (.ref 65), some (.int 0), none, none] [] (mm_s0 ad 6 xs) := by
  refine mm_go [] 600 ?_
  refine mm_ob (P := vp_in 1 (nI 6).toNatClampNeg) (mm_inl (by decide)) ?_
  show mm_b _ _ _ _ _ [some (.ref 68), some (.ref 0), some (.ref 46), some (.ref 65), some (.int 0), none, none] [.int (xs 1), .ref 0] ((fun _ => false, 599936, 6869426, true, false, ad), (mm_I0 6 xs), (fun _ _ => 0))
  refine mm_ob (P := vp_in 2 (nI 6).toNatClampNeg) (mm_inl (by decide)) ?_
  show mm_b _ _ _ _ _ [some (.ref 68), some (.ref 0), some (.ref 46), some (.ref 65), some (.int 0), none, none] [.int (xs 2), .int (xs 1), .ref 0] ((fun _ => false, 599936, 6869426, true, false, ad), (mm_I0 6 xs), (fun _ _ => 0))
  refine mm_e1 ?_
  refine mm_iv 600 (by rfl) ?_
  show mm_k _ _ _ _ _ [some (.ref 0), some (.int (xs 1)), some (.int (xs 2))] [] ((fun _ => false, 0, 0, true, false, ad), (mm_I0 6 xs), (fun _ _ => 0))
  refine mm_iv 600 (by rfl) ?_
  show mm_k _ _ _ _ _ [some (.ref 0), some (.int (xs 1))] [] ((fun _ => false, 0, 0, true, false, ad), (mm_I0 6 xs), (fun _ _ => 0))
  refine mm_tk (c := (0 : Int32) = 0) (d := ¬ (0 : Int32) = 0) (by decide) ?_
  show mm_u _ _ _ _ _ _ [some (.ref 0), some (.int (xs 1))] [] ((fun _ => false, 0, 0, true, false, ad), (mm_I0 6 xs), (fun _ _ => 0))
  refine mm_ob (P := (0 : Int32) = 0 ∨ (0 : Int32) = 1) (by decide) ?_
  refine mm_q1 (r := 0) ⟨rfl, ?_⟩
  show mm_b _ _ _ _ _ [some (.ref 0), some (.int (xs 1)), some (.int (xs 2))] [.int 0] ((fun _ => false, 0, 0, true, false, ad), (mm_I0 6 xs), (fun _ _ => 0))
  refine mm_tk (c := (0 : Int32) = 0) (d := ¬ (0 : Int32) = 0) (by decide) ?_
  show mm_u _ _ _ _ _ _ [some (.ref 0), some (.int (xs 1)), some (.int (xs 2))] [] ((fun _ => false, 0, 0, true, false, ad), (mm_I0 6 xs), (fun _ _ => 0))
  refine mm_iv 600 (by rfl) ?_
  show mm_k _ _ _ _ _ [some (.ref 0), some (.int 1)] [] ((fun _ => false, 0, 0, true, false, ad), (mm_I0 6 xs), (fun _ _ => 0))
  refine mm_q1 (r := (-1)) ⟨rfl, ?_⟩
  show mm_b _ _ _ _ _ [some (.ref 0), none, none] [.int (-1)] ((fun _ => false, 0, 0, true, false, ad), (zI_409 xs), (fun _ _ => 0))
  refine mm_q1 (r := (-1)) ?_
  show mm_b _ _ _ _ _ [some (.ref 68), some (.ref 0), some (.ref 46), some (.ref 65), some (.int 0), none, none] [.int (-1)] ((fun _ => false, 599936, 6869426, true, false, ad), (zI_409 xs), (fun _ _ => 0))
  refine mm_ob (P := vp_in 1 (nI 6).toNatClampNeg) (mm_inl (by decide)) ?_
  show mm_b _ _ _ _ _ [some (.ref 68), some (.ref 0), some (.ref 46), some (.ref 65), some (.int 0), none, none] [.int (xs 1), .ref 46, .int (-1)] ((fun _ => false, 599936, 6869426, true, false, ad), (zI_409 xs), (fun _ _ => 0))
  refine mm_ob (P := vp_in 2 (nI 6).toNatClampNeg) (mm_inl (by decide)) ?_
  show mm_b _ _ _ _ _ [some (.ref 68), some (.ref 0), some (.ref 46), some (.ref 65), some (.int 0), none, none] [.int (xs 2), .int (xs 1), .ref 46, .int (-1)] ((fun _ => false, 599936, 6869426, true, false, ad), (zI_409 xs), (fun _ _ => 0))
  refine mm_e1 ?_
  refine mm_iv 600 (by rfl) ?_
  show mm_k _ _ _ _ _ [some (.ref 46), some (.int (xs 1)), some (.int (xs 2))] [] ((fun _ => false, 0, 0, true, false, ad), (zI_409 xs), (fun _ _ => 0))
  refine mm_iv 600 (by rfl) ?_
  show mm_k _ _ _ _ _ [some (.ref 46)] [] ((fun _ => false, 0, 0, true, false, ad), (zI_409 xs), (fun _ _ => 0))
  refine mm_q0 ⟨rfl, ?_⟩
  show mm_b _ _ _ _ _ [some (.ref 46), some (.int (xs 1)), some (.int (xs 2))] [] ((fun _ => false, 0, 0, true, false, ad), (zI_411 xs), (fun _ _ => 0))
  refine mm_iv 600 (by rfl) ?_
  show mm_k _ _ _ _ _ [some (.ref 46), some (.int (xs 1))] [] ((fun _ => false, 0, 0, true, false, ad), (zI_411 xs), (fun _ _ => 0))
  refine mm_tk (c := (0 : Int32) = 0) (d := ¬ (0 : Int32) = 0) (by decide) ?_
  show mm_u _ _ _ _ _ _ [some (.ref 46), some (.int (xs 1))] [] ((fun _ => false, 0, 0, true, false, ad), (zI_411 xs), (fun _ _ => 0))
  refine mm_ob (P := (0 : Int32) = 0 ∨ (0 : Int32) = 1) (by decide) ?_
  refine mm_q1 (r := 0) ⟨rfl, ?_⟩
  show mm_b _ _ _ _ _ [some (.ref 46), some (.int (xs 1)), some (.int (xs 2))] [.int 0] ((fun _ => false, 0, 0, true, false, ad), (zI_411 xs), (fun _ _ => 0))
  refine mm_tk (c := (0 : Int32) = 0) (d := ¬ (0 : Int32) = 0) (by decide) ?_
  show mm_u _ _ _ _ _ _ [some (.ref 46), some (.int (xs 1)), some (.int (xs 2))] [] ((fun _ => false, 0, 0, true, false, ad), (zI_411 xs), (fun _ _ => 0))
  refine mm_iv 600 (by rfl) ?_
  show mm_k _ _ _ _ _ [some (.ref 46), some (.int 1)] [] ((fun _ => false, 0, 0, true, false, ad), (zI_411 xs), (fun _ _ => 0))
  refine mm_q1 (r := (-1)) ⟨rfl, ?_⟩
  show mm_b _ _ _ _ _ [some (.ref 46), none, none] [.int (-1)] ((fun _ => false, 0, 0, true, false, ad), (zI_412 xs), (fun _ _ => 0))
  refine mm_q1 (r := (-1)) ?_
  show mm_b _ _ _ _ _ [some (.ref 68), some (.ref 0), some (.ref 46), some (.ref 65), some (.int 0), none, none] [.int (-1), .int (-1)] ((fun _ => false, 599936, 6869426, true, false, ad), (zI_412 xs), (fun _ _ => 0))
  refine mm_tk (c := ((-1) : Int32) = (-1)) (d := ¬ ((-1) : Int32) = (-1)) (by decide) ?_
  show mm_u _ _ _ _ _ _ [some (.ref 68), some (.ref 0), some (.ref 46), some (.ref 65), some (.int 0), none, none] [] ((fun _ => false, 599936, 6869426, true, false, ad), (zI_412 xs), (fun _ _ => 0))
  refine mm_tk (c := (((nI 6) - 6) : Int32) < 6) (d := ¬ (((nI 6) - 6) : Int32) < 6) (by decide) ?_
  show mm_u _ _ _ _ _ _ [some (.ref 68), some (.ref 0), some (.ref 46), some (.ref 65), some (.int 6), none, none] [] ((fun _ => false, 599936, 6869426, true, false, ad), (zI_412 xs), (fun _ _ => 0))
  refine mm_ob (P := (1 : Int32) = 0 ∨ (1 : Int32) = 1) (by decide) ?_
  exact rfl
def zI_425 (xs : Nat → Int32) : mmI := mm_up (mm_I0 6 xs) 0 7 1
def zI_426 (xs : Nat → Int32) : mmI := mm_up (zI_425 xs) 46 0 0
def zI_427 (xs : Nat → Int32) : mmI := mm_up (zI_426 xs) 46 11 0
def zI_428 (xs : Nat → Int32) : mmI := mm_up (zI_427 xs) 46 11 1
set_option maxRecDepth 20000 in
set_option maxHeartbeats 4000000 in
theorem op_8 (ad : Nat → Nat) (xs : Nat → Int32) : mm_w (fun v _ => v = some (.int 1)) (mm_wc 210) bk_law 496 [some (.ref 68), some (.ref 0), some (.ref 46), some (.ref 65), some (.int 0), none, none] [] (mm_s0 ad 6 xs) := by
  refine mm_go [] 600 ?_
  refine mm_e1 ?_
  refine mm_iv 600 (by rfl) ?_
  show mm_k _ _ _ _ _ [some (.ref 0)] [] ((fun _ => false, 0, 0, true, false, ad), (mm_I0 6 xs), (fun _ _ => 0))
  refine mm_tk (c := (0 : Int32) = 0) (d := ¬ (0 : Int32) = 0) (by decide) ?_
  show mm_u _ _ _ _ _ _ [some (.ref 0)] [] ((fun _ => false, 0, 0, true, false, ad), (mm_I0 6 xs), (fun _ _ => 0))
  refine mm_iv 600 (by rfl) ?_
  show mm_k _ _ _ _ _ [some (.ref 0), some (.int 1)] [] ((fun _ => false, 0, 0, true, false, ad), (mm_I0 6 xs), (fun _ _ => 0))
  refine mm_q1 (r := (-1)) ⟨rfl, ?_⟩
  show mm_b _ _ _ _ _ [some (.ref 0)] [.int (-1)] ((fun _ => false, 0, 0, true, false, ad), (zI_425 xs), (fun _ _ => 0))
  refine mm_q1 (r := (-1)) ?_
  show mm_b _ _ _ _ _ [some (.ref 68), some (.ref 0), some (.ref 46), some (.ref 65), some (.int 0), none, none] [.int (-1)] ((fun _ => false, 599936, 6869426, true, false, ad), (zI_425 xs), (fun _ _ => 0))
  refine mm_e1 ?_
  refine mm_iv 600 (by rfl) ?_
  show mm_k _ _ _ _ _ [some (.ref 46), none, none, none, none, none] [] ((fun _ => false, 0, 0, true, false, ad), (zI_425 xs), (fun _ _ => 0))
  refine mm_iv 600 (by rfl) ?_
  show mm_k _ _ _ _ _ [some (.ref 46)] [] ((fun _ => false, 0, 0, true, false, ad), (zI_425 xs), (fun _ _ => 0))
  refine mm_q0 ⟨rfl, ?_⟩
  show mm_b _ _ _ _ _ [some (.ref 46), none, none, none, none, none] [] ((fun _ => false, 0, 0, true, false, ad), (zI_427 xs), (fun _ _ => 0))
  refine mm_el (c := ¬ (0 : Int32) = 0) (d := (0 : Int32) = 0) (by decide) ?_
  show mm_b _ _ _ _ _ [some (.ref 46), none, none, none, none, none] [] ((fun _ => false, 0, 0, true, false, ad), (zI_427 xs), (fun _ _ => 0))
  refine mm_iv 600 (by rfl) ?_
  show mm_k _ _ _ _ _ [some (.ref 46), some (.int 1)] [] ((fun _ => false, 0, 0, true, false, ad), (zI_427 xs), (fun _ _ => 0))
  refine mm_q1 (r := (-1)) ⟨rfl, ?_⟩
  show mm_b _ _ _ _ _ [some (.ref 46), none, none, none, none, none] [.int (-1)] ((fun _ => false, 0, 0, true, false, ad), (zI_428 xs), (fun _ _ => 0))
  refine mm_q1 (r := (-1)) ?_
  show mm_b _ _ _ _ _ [some (.ref 68), some (.ref 0), some (.ref 46), some (.ref 65), some (.int 0), none, none] [.int (-1), .int (-1)] ((fun _ => false, 599936, 6869426, true, false, ad), (zI_428 xs), (fun _ _ => 0))
  refine mm_tk (c := ((-1) : Int32) = (-1)) (d := ¬ ((-1) : Int32) = (-1)) (by decide) ?_
  show mm_u _ _ _ _ _ _ [some (.ref 68), some (.ref 0), some (.ref 46), some (.ref 65), some (.int 0), none, none] [] ((fun _ => false, 599936, 6869426, true, false, ad), (zI_428 xs), (fun _ _ => 0))
  refine mm_tk (c := (((nI 6) - 6) : Int32) < 6) (d := ¬ (((nI 6) - 6) : Int32) < 6) (by decide) ?_
  show mm_u _ _ _ _ _ _ [some (.ref 68), some (.ref 0), some (.ref 46), some (.ref 65), some (.int 6), none, none] [] ((fun _ => false, 599936, 6869426, true, false, ad), (zI_428 xs), (fun _ _ => 0))
  refine mm_ob (P := (1 : Int32) = 0 ∨ (1 : Int32) = 1) (by decide) ?_
  exact rfl
def zI_445 (xs : Nat → Int32) : mmI := mm_up (mm_I0 6 xs) 0 7 1
def zI_446 (xs : Nat → Int32) : mmI := mm_up (zI_445 xs) 46 0 0
def zI_447 (xs : Nat → Int32) : mmI := mm_up (zI_446 xs) 46 11 0
def zI_448 (xs : Nat → Int32) : mmI := mm_up (zI_447 xs) 46 11 1
set_option maxRecDepth 20000 in
set_option maxHeartbeats 4000000 in
theorem op_12 (ad : Nat → Nat) (xs : Nat → Int32) : mm_w (fun v _ => v = some (.int 1)) (mm_wc 210) bk_law 588 [some (.ref 68), some (.ref 0), some (.ref 46), some (.ref 65), some (.int 0), none, none] [] (mm_s0 ad 6 xs) := by
  refine mm_go [] 600 ?_
  refine mm_e1 ?_
  refine mm_iv 600 (by rfl) ?_
  show mm_k _ _ _ _ _ [some (.ref 0)] [] ((fun _ => false, 0, 0, true, false, ad), (mm_I0 6 xs), (fun _ _ => 0))
  refine mm_tk (c := (0 : Int32) = 0) (d := ¬ (0 : Int32) = 0) (by decide) ?_
  show mm_u _ _ _ _ _ _ [some (.ref 0)] [] ((fun _ => false, 0, 0, true, false, ad), (mm_I0 6 xs), (fun _ _ => 0))
  refine mm_iv 600 (by rfl) ?_
  show mm_k _ _ _ _ _ [some (.ref 0), some (.int 1)] [] ((fun _ => false, 0, 0, true, false, ad), (mm_I0 6 xs), (fun _ _ => 0))
  refine mm_q1 (r := (-1)) ⟨rfl, ?_⟩
  show mm_b _ _ _ _ _ [some (.ref 0)] [.int (-1)] ((fun _ => false, 0, 0, true, false, ad), (zI_445 xs), (fun _ _ => 0))
  refine mm_q1 (r := (-1)) ?_
  show mm_b _ _ _ _ _ [some (.ref 68), some (.ref 0), some (.ref 46), some (.ref 65), some (.int 0), none, none] [.int (-1)] ((fun _ => false, 599936, 6869426, true, false, ad), (zI_445 xs), (fun _ _ => 0))
  refine mm_e1 ?_
  refine mm_iv 600 (by rfl) ?_
  show mm_k _ _ _ _ _ [some (.ref 46)] [] ((fun _ => false, 0, 0, true, false, ad), (zI_445 xs), (fun _ _ => 0))
  refine mm_iv 600 (by rfl) ?_
  show mm_k _ _ _ _ _ [some (.ref 46)] [] ((fun _ => false, 0, 0, true, false, ad), (zI_445 xs), (fun _ _ => 0))
  refine mm_q0 ⟨rfl, ?_⟩
  show mm_b _ _ _ _ _ [some (.ref 46)] [] ((fun _ => false, 0, 0, true, false, ad), (zI_447 xs), (fun _ _ => 0))
  refine mm_tk (c := (0 : Int32) = 0) (d := ¬ (0 : Int32) = 0) (by decide) ?_
  show mm_u _ _ _ _ _ _ [some (.ref 46)] [] ((fun _ => false, 0, 0, true, false, ad), (zI_447 xs), (fun _ _ => 0))
  refine mm_iv 600 (by rfl) ?_
  show mm_k _ _ _ _ _ [some (.ref 46), some (.int 1)] [] ((fun _ => false, 0, 0, true, false, ad), (zI_447 xs), (fun _ _ => 0))
  refine mm_q1 (r := (-1)) ⟨rfl, ?_⟩
  show mm_b _ _ _ _ _ [some (.ref 46)] [.int (-1)] ((fun _ => false, 0, 0, true, false, ad), (zI_448 xs), (fun _ _ => 0))
  refine mm_q1 (r := (-1)) ?_
  show mm_b _ _ _ _ _ [some (.ref 68), some (.ref 0), some (.ref 46), some (.ref 65), some (.int 0), none, none] [.int (-1), .int (-1)] ((fun _ => false, 599936, 6869426, true, false, ad), (zI_448 xs), (fun _ _ => 0))
  refine mm_tk (c := ((-1) : Int32) = (-1)) (d := ¬ ((-1) : Int32) = (-1)) (by decide) ?_
  show mm_u _ _ _ _ _ _ [some (.ref 68), some (.ref 0), some (.ref 46), some (.ref 65), some (.int 0), none, none] [] ((fun _ => false, 599936, 6869426, true, false, ad), (zI_448 xs), (fun _ _ => 0))
  refine mm_tk (c := (((nI 6) - 6) : Int32) < 6) (d := ¬ (((nI 6) - 6) : Int32) < 6) (by decide) ?_
  show mm_u _ _ _ _ _ _ [some (.ref 68), some (.ref 0), some (.ref 46), some (.ref 65), some (.int 6), none, none] [] ((fun _ => false, 599936, 6869426, true, false, ad), (zI_448 xs), (fun _ _ => 0))
  refine mm_ob (P := (1 : Int32) = 0 ∨ (1 : Int32) = 1) (by decide) ?_
  exact rfl
def zI_461 (xs : Nat → Int32) : mmI := mm_up (mm_I0 6 xs) 0 7 1
def zI_462 (xs : Nat → Int32) : mmI := mm_up (zI_461 xs) 46 0 0
def zI_463 (xs : Nat → Int32) : mmI := mm_up (zI_462 xs) 46 11 0
def zI_464 (xs : Nat → Int32) : mmI := mm_up (zI_463 xs) 46 11 1
set_option maxRecDepth 20000 in
set_option maxHeartbeats 4000000 in
theorem op_16 (ad : Nat → Nat) (xs : Nat → Int32) : mm_w (fun v _ => v = some (.int 1)) (mm_wc 210) bk_law 664 [some (.ref 68), some (.ref 0), some (.ref 46), some (.ref 65), some (.int 0), none, none] [] (mm_s0 ad 6 xs) := by
  refine mm_go [] 600 ?_
  refine mm_ob (P := vp_in 1 (nI 6).toNatClampNeg) (mm_inl (by decide)) ?_
  show mm_b _ _ _ _ _ [some (.ref 68), some (.ref 0), some (.ref 46), some (.ref 65), some (.int 0), none, none] [.int (xs 1), .ref 0] ((fun _ => false, 599936, 6869426, true, false, ad), (mm_I0 6 xs), (fun _ _ => 0))
  refine mm_e1 ?_
  refine mm_iv 600 (by rfl) ?_
  show mm_k _ _ _ _ _ [some (.ref 0), some (.int (xs 1))] [] ((fun _ => false, 0, 0, true, false, ad), (mm_I0 6 xs), (fun _ _ => 0))
  refine mm_iv 600 (by rfl) ?_
  show mm_k _ _ _ _ _ [some (.ref 0), some (.int (xs 1))] [] ((fun _ => false, 0, 0, true, false, ad), (mm_I0 6 xs), (fun _ _ => 0))
  refine mm_tk (c := (0 : Int32) = 0) (d := ¬ (0 : Int32) = 0) (by decide) ?_
  show mm_u _ _ _ _ _ _ [some (.ref 0), some (.int (xs 1))] [] ((fun _ => false, 0, 0, true, false, ad), (mm_I0 6 xs), (fun _ _ => 0))
  refine mm_ob (P := (0 : Int32) = 0 ∨ (0 : Int32) = 1) (by decide) ?_
  refine mm_q1 (r := 0) ⟨rfl, ?_⟩
  show mm_b _ _ _ _ _ [some (.ref 0), some (.int (xs 1))] [.int 0] ((fun _ => false, 0, 0, true, false, ad), (mm_I0 6 xs), (fun _ _ => 0))
  refine mm_el (c := ¬ (0 : Int32) = 0) (d := (0 : Int32) = 0) (by decide) ?_
  show mm_b _ _ _ _ _ [some (.ref 0), some (.int (xs 1))] [] ((fun _ => false, 0, 0, true, false, ad), (mm_I0 6 xs), (fun _ _ => 0))
  refine mm_iv 600 (by rfl) ?_
  show mm_k _ _ _ _ _ [some (.ref 0), some (.int 1)] [] ((fun _ => false, 0, 0, true, false, ad), (mm_I0 6 xs), (fun _ _ => 0))
  refine mm_ob (P := (0 : Int32) = 0 ∨ (0 : Int32) = 1) (by decide) ?_
  refine mm_q1 (r := 0) ⟨rfl, ?_⟩
  show mm_b _ _ _ _ _ [some (.ref 0), some (.int (xs 1))] [.int 0] ((fun _ => false, 0, 0, true, false, ad), (zI_461 xs), (fun _ _ => 0))
  refine mm_ob (P := (0 : Int32) = 0 ∨ (0 : Int32) = 1) (by decide) ?_
  refine mm_q1 (r := 0) ?_
  show mm_b _ _ _ _ _ [some (.ref 68), some (.ref 0), some (.ref 46), some (.ref 65), some (.int 0), none, none] [.int 0] ((fun _ => false, 599936, 6869426, true, false, ad), (zI_461 xs), (fun _ _ => 0))
  refine mm_ob (P := vp_in 1 (nI 6).toNatClampNeg) (mm_inl (by decide)) ?_
  show mm_b _ _ _ _ _ [some (.ref 68), some (.ref 0), some (.ref 46), some (.ref 65), some (.int 0), none, none] [.int (xs 1), .ref 46, .int 0] ((fun _ => false, 599936, 6869426, true, false, ad), (zI_461 xs), (fun _ _ => 0))
  refine mm_e1 ?_
  refine mm_iv 600 (by rfl) ?_
  show mm_k _ _ _ _ _ [some (.ref 46), some (.int (xs 1))] [] ((fun _ => false, 0, 0, true, false, ad), (zI_461 xs), (fun _ _ => 0))
  refine mm_iv 600 (by rfl) ?_
  show mm_k _ _ _ _ _ [some (.ref 46)] [] ((fun _ => false, 0, 0, true, false, ad), (zI_461 xs), (fun _ _ => 0))
  refine mm_q0 ⟨rfl, ?_⟩
  show mm_b _ _ _ _ _ [some (.ref 46), some (.int (xs 1))] [] ((fun _ => false, 0, 0, true, false, ad), (zI_463 xs), (fun _ _ => 0))
  refine mm_iv 600 (by rfl) ?_
  show mm_k _ _ _ _ _ [some (.ref 46), some (.int (xs 1))] [] ((fun _ => false, 0, 0, true, false, ad), (zI_463 xs), (fun _ _ => 0))
  refine mm_tk (c := (0 : Int32) = 0) (d := ¬ (0 : Int32) = 0) (by decide) ?_
  show mm_u _ _ _ _ _ _ [some (.ref 46), some (.int (xs 1))] [] ((fun _ => false, 0, 0, true, false, ad), (zI_463 xs), (fun _ _ => 0))
  refine mm_ob (P := (0 : Int32) = 0 ∨ (0 : Int32) = 1) (by decide) ?_
  refine mm_q1 (r := 0) ⟨rfl, ?_⟩
  show mm_b _ _ _ _ _ [some (.ref 46), some (.int (xs 1))] [.int 0] ((fun _ => false, 0, 0, true, false, ad), (zI_463 xs), (fun _ _ => 0))
  refine mm_el (c := ¬ (0 : Int32) = 0) (d := (0 : Int32) = 0) (by decide) ?_
  show mm_b _ _ _ _ _ [some (.ref 46), some (.int (xs 1))] [] ((fun _ => false, 0, 0, true, false, ad), (zI_463 xs), (fun _ _ => 0))
  refine mm_iv 600 (by rfl) ?_
  show mm_k _ _ _ _ _ [some (.ref 46), some (.int 1)] [] ((fun _ => false, 0, 0, true, false, ad), (zI_463 xs), (fun _ _ => 0))
  refine mm_ob (P := (0 : Int32) = 0 ∨ (0 : Int32) = 1) (by decide) ?_
  refine mm_q1 (r := 0) ⟨rfl, ?_⟩
  show mm_b _ _ _ _ _ [some (.ref 46), some (.int (xs 1))] [.int 0] ((fun _ => false, 0, 0, true, false, ad), (zI_464 xs), (fun _ _ => 0))
  refine mm_ob (P := (0 : Int32) = 0 ∨ (0 : Int32) = 1) (by decide) ?_
  refine mm_q1 (r := 0) ?_
  show mm_b _ _ _ _ _ [some (.ref 68), some (.ref 0), some (.ref 46), some (.ref 65), some (.int 0), none, none] [.int 0, .int 0] ((fun _ => false, 599936, 6869426, true, false, ad), (zI_464 xs), (fun _ _ => 0))
  refine mm_tk (c := (0 : Int32) = 0) (d := ¬ (0 : Int32) = 0) (by decide) ?_
  show mm_u _ _ _ _ _ _ [some (.ref 68), some (.ref 0), some (.ref 46), some (.ref 65), some (.int 0), none, none] [] ((fun _ => false, 599936, 6869426, true, false, ad), (zI_464 xs), (fun _ _ => 0))
  refine mm_tk (c := (((nI 6) - 6) : Int32) < 6) (d := ¬ (((nI 6) - 6) : Int32) < 6) (by decide) ?_
  show mm_u _ _ _ _ _ _ [some (.ref 68), some (.ref 0), some (.ref 46), some (.ref 65), some (.int 6), none, none] [] ((fun _ => false, 599936, 6869426, true, false, ad), (zI_464 xs), (fun _ _ => 0))
  refine mm_ob (P := (1 : Int32) = 0 ∨ (1 : Int32) = 1) (by decide) ?_
  exact rfl
def zI_477 (xs : Nat → Int32) : mmI := mm_up (mm_I0 6 xs) 0 7 1
def zI_478 (xs : Nat → Int32) : mmI := mm_up (zI_477 xs) 46 0 0
def zI_479 (xs : Nat → Int32) : mmI := mm_up (zI_478 xs) 46 11 0
def zI_480 (xs : Nat → Int32) : mmI := mm_up (zI_479 xs) 46 11 1
set_option maxRecDepth 20000 in
set_option maxHeartbeats 4000000 in
theorem op_20 (ad : Nat → Nat) (xs : Nat → Int32) : mm_w (fun v _ => v = some (.int 1)) (mm_wc 210) bk_law 728 [some (.ref 68), some (.ref 0), some (.ref 46), some (.ref 65), some (.int 0), none, none] [] (mm_s0 ad 6 xs) := by
  refine mm_go [] 600 ?_
  refine mm_ob (P := vp_in 1 (nI 6).toNatClampNeg) (mm_inl (by decide)) ?_
  show mm_b _ _ _ _ _ [some (.ref 68), some (.ref 0), some (.ref 46), some (.ref 65), some (.int 0), none, none] [.int (xs 1), .ref 0] ((fun _ => false, 599936, 6869426, true, false, ad), (mm_I0 6 xs), (fun _ _ => 0))
  refine mm_e1 ?_
  refine mm_iv 600 (by rfl) ?_
  show mm_k _ _ _ _ _ [some (.ref 0), some (.int (xs 1)), none] [] ((fun _ => false, 0, 0, true, false, ad), (mm_I0 6 xs), (fun _ _ => 0))
  refine mm_tk (c := (0 : Int32) = 0) (d := ¬ (0 : Int32) = 0) (by decide) ?_
  show mm_u _ _ _ _ _ _ [some (.ref 0), some (.int (xs 1)), none] [] ((fun _ => false, 0, 0, true, false, ad), (mm_I0 6 xs), (fun _ _ => 0))
  refine mm_iv 600 (by rfl) ?_
  show mm_k _ _ _ _ _ [some (.ref 0), some (.int 1)] [] ((fun _ => false, 0, 0, true, false, ad), (mm_I0 6 xs), (fun _ _ => 0))
  refine mm_q1 (r := (-1)) ⟨rfl, ?_⟩
  show mm_b _ _ _ _ _ [some (.ref 0), none, none] [.int (-1)] ((fun _ => false, 0, 0, true, false, ad), (zI_477 xs), (fun _ _ => 0))
  refine mm_q1 (r := (-1)) ?_
  show mm_b _ _ _ _ _ [some (.ref 68), some (.ref 0), some (.ref 46), some (.ref 65), some (.int 0), none, none] [.int (-1)] ((fun _ => false, 599936, 6869426, true, false, ad), (zI_477 xs), (fun _ _ => 0))
  refine mm_ob (P := vp_in 1 (nI 6).toNatClampNeg) (mm_inl (by decide)) ?_
  show mm_b _ _ _ _ _ [some (.ref 68), some (.ref 0), some (.ref 46), some (.ref 65), some (.int 0), none, none] [.int (xs 1), .ref 46, .int (-1)] ((fun _ => false, 599936, 6869426, true, false, ad), (zI_477 xs), (fun _ _ => 0))
  refine mm_e1 ?_
  refine mm_iv 600 (by rfl) ?_
  show mm_k _ _ _ _ _ [some (.ref 46), some (.int (xs 1)), none, none, none] [] ((fun _ => false, 0, 0, true, false, ad), (zI_477 xs), (fun _ _ => 0))
  refine mm_iv 600 (by rfl) ?_
  show mm_k _ _ _ _ _ [some (.ref 46)] [] ((fun _ => false, 0, 0, true, false, ad), (zI_477 xs), (fun _ _ => 0))
  refine mm_q0 ⟨rfl, ?_⟩
  show mm_b _ _ _ _ _ [some (.ref 46), some (.int (xs 1)), none, none, none] [] ((fun _ => false, 0, 0, true, false, ad), (zI_479 xs), (fun _ _ => 0))
  refine mm_tk (c := (0 : Int32) = 0) (d := ¬ (0 : Int32) = 0) (by decide) ?_
  show mm_u _ _ _ _ _ _ [some (.ref 46), some (.int (xs 1)), none, none, none] [] ((fun _ => false, 0, 0, true, false, ad), (zI_479 xs), (fun _ _ => 0))
  refine mm_iv 600 (by rfl) ?_
  show mm_k _ _ _ _ _ [some (.ref 46), some (.int 1)] [] ((fun _ => false, 0, 0, true, false, ad), (zI_479 xs), (fun _ _ => 0))
  refine mm_q1 (r := (-1)) ⟨rfl, ?_⟩
  show mm_b _ _ _ _ _ [some (.ref 46), none, none, none, none] [.int (-1)] ((fun _ => false, 0, 0, true, false, ad), (zI_480 xs), (fun _ _ => 0))
  refine mm_q1 (r := (-1)) ?_
  show mm_b _ _ _ _ _ [some (.ref 68), some (.ref 0), some (.ref 46), some (.ref 65), some (.int 0), none, none] [.int (-1), .int (-1)] ((fun _ => false, 599936, 6869426, true, false, ad), (zI_480 xs), (fun _ _ => 0))
  refine mm_tk (c := ((-1) : Int32) = (-1)) (d := ¬ ((-1) : Int32) = (-1)) (by decide) ?_
  show mm_u _ _ _ _ _ _ [some (.ref 68), some (.ref 0), some (.ref 46), some (.ref 65), some (.int 0), none, none] [] ((fun _ => false, 599936, 6869426, true, false, ad), (zI_480 xs), (fun _ _ => 0))
  refine mm_tk (c := (((nI 6) - 6) : Int32) < 6) (d := ¬ (((nI 6) - 6) : Int32) < 6) (by decide) ?_
  show mm_u _ _ _ _ _ _ [some (.ref 68), some (.ref 0), some (.ref 46), some (.ref 65), some (.int 6), none, none] [] ((fun _ => false, 599936, 6869426, true, false, ad), (zI_480 xs), (fun _ _ => 0))
  refine mm_ob (P := (1 : Int32) = 0 ∨ (1 : Int32) = 1) (by decide) ?_
  exact rfl
def zI_493 (xs : Nat → Int32) : mmI := mm_up (mm_I0 6 xs) 0 7 1
def zI_494 (xs : Nat → Int32) : mmI := mm_up (zI_493 xs) 46 0 0
def zI_495 (xs : Nat → Int32) : mmI := mm_up (zI_494 xs) 46 11 0
def zI_496 (xs : Nat → Int32) : mmI := mm_up (zI_495 xs) 46 11 1
set_option maxRecDepth 20000 in
set_option maxHeartbeats 4000000 in
theorem op_24 (ad : Nat → Nat) (xs : Nat → Int32) : mm_w (fun v _ => v = some (.int 1)) (mm_wc 210) bk_law 816 [some (.ref 68), some (.ref 0), some (.ref 46), some (.ref 65), some (.int 0), none, none] [] (mm_s0 ad 6 xs) := by
  refine mm_go [] 600 ?_
  refine mm_ob (P := vp_in 1 (nI 6).toNatClampNeg) (mm_inl (by decide)) ?_
  show mm_b _ _ _ _ _ [some (.ref 68), some (.ref 0), some (.ref 46), some (.ref 65), some (.int 0), none, none] [.int (xs 1), .ref 0] ((fun _ => false, 599936, 6869426, true, false, ad), (mm_I0 6 xs), (fun _ _ => 0))
  refine mm_ob (P := vp_in 2 (nI 6).toNatClampNeg) (mm_inl (by decide)) ?_
  show mm_b _ _ _ _ _ [some (.ref 68), some (.ref 0), some (.ref 46), some (.ref 65), some (.int 0), none, none] [.int (xs 2), .int (xs 1), .ref 0] ((fun _ => false, 599936, 6869426, true, false, ad), (mm_I0 6 xs), (fun _ _ => 0))
  refine mm_e1 ?_
  refine mm_iv 600 (by rfl) ?_
  show mm_k _ _ _ _ _ [some (.ref 0), some (.int (xs 1)), some (.int (xs 2))] [] ((fun _ => false, 0, 0, true, false, ad), (mm_I0 6 xs), (fun _ _ => 0))
  refine mm_iv 600 (by rfl) ?_
  show mm_k _ _ _ _ _ [some (.ref 0), some (.int (xs 1))] [] ((fun _ => false, 0, 0, true, false, ad), (mm_I0 6 xs), (fun _ _ => 0))
  refine mm_tk (c := (0 : Int32) = 0) (d := ¬ (0 : Int32) = 0) (by decide) ?_
  show mm_u _ _ _ _ _ _ [some (.ref 0), some (.int (xs 1))] [] ((fun _ => false, 0, 0, true, false, ad), (mm_I0 6 xs), (fun _ _ => 0))
  refine mm_ob (P := (0 : Int32) = 0 ∨ (0 : Int32) = 1) (by decide) ?_
  refine mm_q1 (r := 0) ⟨rfl, ?_⟩
  show mm_b _ _ _ _ _ [some (.ref 0), some (.int (xs 1)), some (.int (xs 2))] [.int 0] ((fun _ => false, 0, 0, true, false, ad), (mm_I0 6 xs), (fun _ _ => 0))
  refine mm_tk (c := (0 : Int32) = 0) (d := ¬ (0 : Int32) = 0) (by decide) ?_
  show mm_u _ _ _ _ _ _ [some (.ref 0), some (.int (xs 1)), some (.int (xs 2))] [] ((fun _ => false, 0, 0, true, false, ad), (mm_I0 6 xs), (fun _ _ => 0))
  refine mm_iv 600 (by rfl) ?_
  show mm_k _ _ _ _ _ [some (.ref 0), some (.int 1)] [] ((fun _ => false, 0, 0, true, false, ad), (mm_I0 6 xs), (fun _ _ => 0))
  refine mm_q1 (r := (-1)) ⟨rfl, ?_⟩
  show mm_b _ _ _ _ _ [some (.ref 0), none, none] [.int (-1)] ((fun _ => false, 0, 0, true, false, ad), (zI_493 xs), (fun _ _ => 0))
  refine mm_q1 (r := (-1)) ?_
  show mm_b _ _ _ _ _ [some (.ref 68), some (.ref 0), some (.ref 46), some (.ref 65), some (.int 0), none, none] [.int (-1)] ((fun _ => false, 599936, 6869426, true, false, ad), (zI_493 xs), (fun _ _ => 0))
  refine mm_ob (P := vp_in 1 (nI 6).toNatClampNeg) (mm_inl (by decide)) ?_
  show mm_b _ _ _ _ _ [some (.ref 68), some (.ref 0), some (.ref 46), some (.ref 65), some (.int 0), none, none] [.int (xs 1), .ref 46, .int (-1)] ((fun _ => false, 599936, 6869426, true, false, ad), (zI_493 xs), (fun _ _ => 0))
  refine mm_ob (P := vp_in 2 (nI 6).toNatClampNeg) (mm_inl (by decide)) ?_
  show mm_b _ _ _ _ _ [some (.ref 68), some (.ref 0), some (.ref 46), some (.ref 65), some (.int 0), none, none] [.int (xs 2), .int (xs 1), .ref 46, .int (-1)] ((fun _ => false, 599936, 6869426, true, false, ad), (zI_493 xs), (fun _ _ => 0))
  refine mm_e1 ?_
  refine mm_iv 600 (by rfl) ?_
  show mm_k _ _ _ _ _ [some (.ref 46), some (.int (xs 1)), some (.int (xs 2)), none, none, none, none, none, none, none, none, none, none] [] ((fun _ => false, 0, 0, true, false, ad), (zI_493 xs), (fun _ _ => 0))
  refine mm_iv 600 (by rfl) ?_
  show mm_k _ _ _ _ _ [some (.ref 46)] [] ((fun _ => false, 0, 0, true, false, ad), (zI_493 xs), (fun _ _ => 0))
  refine mm_q0 ⟨rfl, ?_⟩
  show mm_b _ _ _ _ _ [some (.ref 46), some (.int (xs 1)), some (.int (xs 2)), none, none, none, none, none, none, none, none, none, none] [] ((fun _ => false, 0, 0, true, false, ad), (zI_495 xs), (fun _ _ => 0))
  refine mm_iv 600 (by rfl) ?_
  show mm_k _ _ _ _ _ [some (.ref 46), some (.int (xs 1))] [] ((fun _ => false, 0, 0, true, false, ad), (zI_495 xs), (fun _ _ => 0))
  refine mm_tk (c := (0 : Int32) = 0) (d := ¬ (0 : Int32) = 0) (by decide) ?_
  show mm_u _ _ _ _ _ _ [some (.ref 46), some (.int (xs 1))] [] ((fun _ => false, 0, 0, true, false, ad), (zI_495 xs), (fun _ _ => 0))
  refine mm_ob (P := (0 : Int32) = 0 ∨ (0 : Int32) = 1) (by decide) ?_
  refine mm_q1 (r := 0) ⟨rfl, ?_⟩
  show mm_b _ _ _ _ _ [some (.ref 46), some (.int (xs 1)), some (.int (xs 2)), none, none, none, none, none, none, none, none, none, none] [.int 0] ((fun _ => false, 0, 0, true, false, ad), (zI_495 xs), (fun _ _ => 0))
  refine mm_tk (c := (0 : Int32) = 0) (d := ¬ (0 : Int32) = 0) (by decide) ?_
  show mm_u _ _ _ _ _ _ [some (.ref 46), some (.int (xs 1)), some (.int (xs 2)), none, none, none, none, none, none, none, none, none, none] [] ((fun _ => false, 0, 0, true, false, ad), (zI_495 xs), (fun _ _ => 0))
  refine mm_iv 600 (by rfl) ?_
  show mm_k _ _ _ _ _ [some (.ref 46), some (.int 1)] [] ((fun _ => false, 0, 0, true, false, ad), (zI_495 xs), (fun _ _ => 0))
  refine mm_q1 (r := (-1)) ⟨rfl, ?_⟩
  show mm_b _ _ _ _ _ [some (.ref 46), none, none, none, none, none, none, none, none, none, none, none, none] [.int (-1)] ((fun _ => false, 0, 0, true, false, ad), (zI_496 xs), (fun _ _ => 0))
  refine mm_q1 (r := (-1)) ?_
  show mm_b _ _ _ _ _ [some (.ref 68), some (.ref 0), some (.ref 46), some (.ref 65), some (.int 0), none, none] [.int (-1), .int (-1)] ((fun _ => false, 599936, 6869426, true, false, ad), (zI_496 xs), (fun _ _ => 0))
  refine mm_tk (c := ((-1) : Int32) = (-1)) (d := ¬ ((-1) : Int32) = (-1)) (by decide) ?_
  show mm_u _ _ _ _ _ _ [some (.ref 68), some (.ref 0), some (.ref 46), some (.ref 65), some (.int 0), none, none] [] ((fun _ => false, 599936, 6869426, true, false, ad), (zI_496 xs), (fun _ _ => 0))
  refine mm_tk (c := (((nI 6) - 6) : Int32) < 6) (d := ¬ (((nI 6) - 6) : Int32) < 6) (by decide) ?_
  show mm_u _ _ _ _ _ _ [some (.ref 68), some (.ref 0), some (.ref 46), some (.ref 65), some (.int 6), none, none] [] ((fun _ => false, 599936, 6869426, true, false, ad), (zI_496 xs), (fun _ _ => 0))
  refine mm_ob (P := (1 : Int32) = 0 ∨ (1 : Int32) = 1) (by decide) ?_
  exact rfl
def zI_509 (xs : Nat → Int32) : mmI := mm_up (mm_I0 6 xs) 0 7 1
def zI_510 (xs : Nat → Int32) : mmI := mm_up (zI_509 xs) 46 0 0
def zI_511 (xs : Nat → Int32) : mmI := mm_up (zI_510 xs) 46 11 0
def zI_512 (xs : Nat → Int32) : mmI := mm_up (zI_511 xs) 46 11 1
set_option maxRecDepth 20000 in
set_option maxHeartbeats 4000000 in
theorem op_28 (ad : Nat → Nat) (xs : Nat → Int32) : mm_w (fun v _ => v = some (.int 1)) (mm_wc 210) bk_law 892 [some (.ref 68), some (.ref 0), some (.ref 46), some (.ref 65), some (.int 0), none, none] [] (mm_s0 ad 6 xs) := by
  refine mm_go [] 600 ?_
  refine mm_ob (P := vp_in 1 (nI 6).toNatClampNeg) (mm_inl (by decide)) ?_
  show mm_b _ _ _ _ _ [some (.ref 68), some (.ref 0), some (.ref 46), some (.ref 65), some (.int 0), none, none] [.int (xs 1), .ref 0] ((fun _ => false, 599936, 6869426, true, false, ad), (mm_I0 6 xs), (fun _ _ => 0))
  refine mm_e1 ?_
  refine mm_iv 600 (by rfl) ?_
  show mm_k _ _ _ _ _ [some (.ref 0), some (.int (xs 1))] [] ((fun _ => false, 0, 0, true, false, ad), (mm_I0 6 xs), (fun _ _ => 0))
  refine mm_iv 600 (by rfl) ?_
  show mm_k _ _ _ _ _ [some (.ref 0), some (.int (xs 1))] [] ((fun _ => false, 0, 0, true, false, ad), (mm_I0 6 xs), (fun _ _ => 0))
  refine mm_tk (c := (0 : Int32) = 0) (d := ¬ (0 : Int32) = 0) (by decide) ?_
  show mm_u _ _ _ _ _ _ [some (.ref 0), some (.int (xs 1))] [] ((fun _ => false, 0, 0, true, false, ad), (mm_I0 6 xs), (fun _ _ => 0))
  refine mm_ob (P := (0 : Int32) = 0 ∨ (0 : Int32) = 1) (by decide) ?_
  refine mm_q1 (r := 0) ⟨rfl, ?_⟩
  show mm_b _ _ _ _ _ [some (.ref 0), some (.int (xs 1))] [.int 0] ((fun _ => false, 0, 0, true, false, ad), (mm_I0 6 xs), (fun _ _ => 0))
  refine mm_el (c := ¬ (0 : Int32) = 0) (d := (0 : Int32) = 0) (by decide) ?_
  show mm_b _ _ _ _ _ [some (.ref 0), some (.int (xs 1))] [] ((fun _ => false, 0, 0, true, false, ad), (mm_I0 6 xs), (fun _ _ => 0))
  refine mm_iv 600 (by rfl) ?_
  show mm_k _ _ _ _ _ [some (.ref 0), some (.int 1)] [] ((fun _ => false, 0, 0, true, false, ad), (mm_I0 6 xs), (fun _ _ => 0))
  refine mm_q1 (r := (-1)) ⟨rfl, ?_⟩
  show mm_b _ _ _ _ _ [some (.ref 0), some (.int (xs 1))] [.int (-1)] ((fun _ => false, 0, 0, true, false, ad), (zI_509 xs), (fun _ _ => 0))
  refine mm_q1 (r := (-1)) ?_
  show mm_b _ _ _ _ _ [some (.ref 68), some (.ref 0), some (.ref 46), some (.ref 65), some (.int 0), none, none] [.int (-1)] ((fun _ => false, 599936, 6869426, true, false, ad), (zI_509 xs), (fun _ _ => 0))
  refine mm_ob (P := vp_in 1 (nI 6).toNatClampNeg) (mm_inl (by decide)) ?_
  show mm_b _ _ _ _ _ [some (.ref 68), some (.ref 0), some (.ref 46), some (.ref 65), some (.int 0), none, none] [.int (xs 1), .ref 46, .int (-1)] ((fun _ => false, 599936, 6869426, true, false, ad), (zI_509 xs), (fun _ _ => 0))
  refine mm_e1 ?_
  refine mm_iv 600 (by rfl) ?_
  show mm_k _ _ _ _ _ [some (.ref 46), some (.int (xs 1)), none, none, none, none] [] ((fun _ => false, 0, 0, true, false, ad), (zI_509 xs), (fun _ _ => 0))
  refine mm_iv 600 (by rfl) ?_
  show mm_k _ _ _ _ _ [some (.ref 46)] [] ((fun _ => false, 0, 0, true, false, ad), (zI_509 xs), (fun _ _ => 0))
  refine mm_q0 ⟨rfl, ?_⟩
  show mm_b _ _ _ _ _ [some (.ref 46), some (.int (xs 1)), none, none, none, none] [] ((fun _ => false, 0, 0, true, false, ad), (zI_511 xs), (fun _ _ => 0))
  refine mm_iv 600 (by rfl) ?_
  show mm_k _ _ _ _ _ [some (.ref 46), some (.int (xs 1))] [] ((fun _ => false, 0, 0, true, false, ad), (zI_511 xs), (fun _ _ => 0))
  refine mm_tk (c := (0 : Int32) = 0) (d := ¬ (0 : Int32) = 0) (by decide) ?_
  show mm_u _ _ _ _ _ _ [some (.ref 46), some (.int (xs 1))] [] ((fun _ => false, 0, 0, true, false, ad), (zI_511 xs), (fun _ _ => 0))
  refine mm_ob (P := (0 : Int32) = 0 ∨ (0 : Int32) = 1) (by decide) ?_
  refine mm_q1 (r := 0) ⟨rfl, ?_⟩
  show mm_b _ _ _ _ _ [some (.ref 46), some (.int (xs 1)), none, none, none, none] [.int 0] ((fun _ => false, 0, 0, true, false, ad), (zI_511 xs), (fun _ _ => 0))
  refine mm_el (c := ¬ (0 : Int32) = 0) (d := (0 : Int32) = 0) (by decide) ?_
  show mm_b _ _ _ _ _ [some (.ref 46), some (.int (xs 1)), none, none, none, none] [] ((fun _ => false, 0, 0, true, false, ad), (zI_511 xs), (fun _ _ => 0))
  refine mm_iv 600 (by rfl) ?_
  show mm_k _ _ _ _ _ [some (.ref 46), some (.int 1)] [] ((fun _ => false, 0, 0, true, false, ad), (zI_511 xs), (fun _ _ => 0))
  refine mm_q1 (r := (-1)) ⟨rfl, ?_⟩
  show mm_b _ _ _ _ _ [some (.ref 46), some (.int (xs 1)), none, none, none, none] [.int (-1)] ((fun _ => false, 0, 0, true, false, ad), (zI_512 xs), (fun _ _ => 0))
  refine mm_q1 (r := (-1)) ?_
  show mm_b _ _ _ _ _ [some (.ref 68), some (.ref 0), some (.ref 46), some (.ref 65), some (.int 0), none, none] [.int (-1), .int (-1)] ((fun _ => false, 599936, 6869426, true, false, ad), (zI_512 xs), (fun _ _ => 0))
  refine mm_tk (c := ((-1) : Int32) = (-1)) (d := ¬ ((-1) : Int32) = (-1)) (by decide) ?_
  show mm_u _ _ _ _ _ _ [some (.ref 68), some (.ref 0), some (.ref 46), some (.ref 65), some (.int 0), none, none] [] ((fun _ => false, 599936, 6869426, true, false, ad), (zI_512 xs), (fun _ _ => 0))
  refine mm_tk (c := (((nI 6) - 6) : Int32) < 6) (d := ¬ (((nI 6) - 6) : Int32) < 6) (by decide) ?_
  show mm_u _ _ _ _ _ _ [some (.ref 68), some (.ref 0), some (.ref 46), some (.ref 65), some (.int 6), none, none] [] ((fun _ => false, 599936, 6869426, true, false, ad), (zI_512 xs), (fun _ _ => 0))
  refine mm_ob (P := (1 : Int32) = 0 ∨ (1 : Int32) = 1) (by decide) ?_
  exact rfl
def zI_529 (xs : Nat → Int32) : mmI := mm_up (mm_I0 6 xs) 0 7 1
def zI_530 (xs : Nat → Int32) : mmI := mm_up (zI_529 xs) 46 0 0
def zI_531 (xs : Nat → Int32) : mmI := mm_up (zI_530 xs) 46 11 0
def zI_532 (xs : Nat → Int32) : mmI := mm_up (zI_531 xs) 46 11 1
def zI_533 (xs : Nat → Int32) : mmI := mm_up (mm_I0 6 xs) 0 7 1
def zI_534 (xs : Nat → Int32) : mmI := mm_up (zI_533 xs) 46 0 0
def zI_535 (xs : Nat → Int32) : mmI := mm_up (zI_534 xs) 46 11 0
def zI_536 (xs : Nat → Int32) : mmI := mm_up (zI_535 xs) 46 11 1
set_option maxRecDepth 20000 in
set_option maxHeartbeats 4000000 in
theorem op_32 (ad : Nat → Nat) (xs : Nat → Int32) : mm_w (fun v _ => v = some (.int 1)) (mm_wc 210) bk_law 1021 [some (.ref 68), some (.ref 0), some (.ref 46), some (.ref 65), some (.int 0), none, none] [] (mm_s0 ad 6 xs) := by
  refine mm_go [] 600 ?_
  refine mm_ob (P := vp_in 1 (nI 6).toNatClampNeg) (mm_inl (by decide)) ?_
  show mm_b _ _ _ _ _ [some (.ref 68), some (.ref 0), some (.ref 46), some (.ref 65), some (.int 0), none, none] [.int (xs 1), .ref 0] ((fun _ => false, 599936, 6869426, true, false, ad), (mm_I0 6 xs), (fun _ _ => 0))
  refine mm_ob (P := vp_in 2 (nI 6).toNatClampNeg) (mm_inl (by decide)) ?_
  show mm_b _ _ _ _ _ [some (.ref 68), some (.ref 0), some (.ref 46), some (.ref 65), some (.int 0), none, none] [.int (xs 2), .int (xs 1), .ref 0] ((fun _ => false, 599936, 6869426, true, false, ad), (mm_I0 6 xs), (fun _ _ => 0))
  refine mm_both (c := ((xs 2) : Int32) = 0) (d := ¬ ((xs 2) : Int32) = 0) (fun c0 => ?_) (fun c0 => ?_)
  · show mm_u _ _ _ _ _ _ [some (.ref 68), some (.ref 0), some (.ref 46), some (.ref 65), some (.int 0), none, none] [.int (xs 1), .ref 0] ((fun _ => false, 599936, 6869426, true, false, ad), (mm_I0 6 xs), (fun _ _ => 0))
    refine mm_e1 ?_
    refine mm_iv 600 (by rfl) ?_
    show mm_k _ _ _ _ _ [some (.ref 0), some (.int (xs 1)), some (.int 0)] [] ((fun _ => false, 0, 0, true, false, ad), (mm_I0 6 xs), (fun _ _ => 0))
    refine mm_iv 600 (by rfl) ?_
    show mm_k _ _ _ _ _ [some (.ref 0), some (.int (xs 1)), some (.int 3)] [] ((fun _ => false, 0, 0, true, false, ad), (mm_I0 6 xs), (fun _ _ => 0))
    refine mm_el (c := ¬ (0 : Int32) = 0) (d := (0 : Int32) = 0) (by decide) ?_
    show mm_b _ _ _ _ _ [some (.ref 0), some (.int (xs 1)), some (.int 3)] [] ((fun _ => false, 0, 0, true, false, ad), (mm_I0 6 xs), (fun _ _ => 0))
    refine mm_ob (P := (1 : Int32) = 0 ∨ (1 : Int32) = 1) (by decide) ?_
    refine mm_q1 (r := 1) ⟨rfl, ?_⟩
    show mm_b _ _ _ _ _ [some (.ref 0), some (.int (xs 1)), some (.int 0)] [.int 1] ((fun _ => false, 0, 0, true, false, ad), (zI_529 xs), (fun _ _ => 0))
    refine mm_el (c := (1 : Int32) = 0) (d := ¬ (1 : Int32) = 0) (by decide) ?_
    show mm_b _ _ _ _ _ [some (.ref 0), some (.int (xs 1)), some (.int 0)] [] ((fun _ => false, 0, 0, true, false, ad), (zI_529 xs), (fun _ _ => 0))
    refine mm_q2 (r := (-1)) ?_
    show mm_b _ _ _ _ _ [some (.ref 68), some (.ref 0), some (.ref 46), some (.ref 65), some (.int 0), none, none] [.long (-1)] ((fun _ => false, 599936, 6869426, true, false, ad), (zI_529 xs), (fun _ _ => 0))
    refine mm_ob (P := vp_in 1 (nI 6).toNatClampNeg) (mm_inl (by decide)) ?_
    show mm_b _ _ _ _ _ [some (.ref 68), some (.ref 0), some (.ref 46), some (.ref 65), some (.int 0), none, none] [.int (xs 1), .ref 46, .long (-1)] ((fun _ => false, 599936, 6869426, true, false, ad), (zI_529 xs), (fun _ _ => 0))
    refine mm_ob (P := vp_in 2 (nI 6).toNatClampNeg) (mm_inl (by decide)) ?_
    show mm_b _ _ _ _ _ [some (.ref 68), some (.ref 0), some (.ref 46), some (.ref 65), some (.int 0), none, none] [.int (xs 2), .int (xs 1), .ref 46, .long (-1)] ((fun _ => false, 599936, 6869426, true, false, ad), (zI_529 xs), (fun _ _ => 0))
    refine mm_tk (c := ((xs 2) : Int32) = 0) (d := ¬ ((xs 2) : Int32) = 0) (fun q9 => by simp only [Int32.lt_iff_toInt_lt, Int32.le_iff_toInt_le, ← Int32.toInt_inj, li_0, li_1, li_2, li_3, li_4, li_5, li_6, li_7, li_8, li_9, li_10, li_11, li_12, li_13, li_14, li_15] at *; omega) ?_
    show mm_u _ _ _ _ _ _ [some (.ref 68), some (.ref 0), some (.ref 46), some (.ref 65), some (.int 0), none, none] [.int (xs 1), .ref 46, .long (-1)] ((fun _ => false, 599936, 6869426, true, false, ad), (zI_529 xs), (fun _ _ => 0))
    refine mm_e1 ?_
    refine mm_iv 600 (by rfl) ?_
    show mm_k _ _ _ _ _ [some (.ref 46), some (.int (xs 1)), some (.int 0), none, none, none, none, none] [] ((fun _ => false, 0, 0, true, false, ad), (zI_529 xs), (fun _ _ => 0))
    refine mm_iv 600 (by rfl) ?_
    show mm_k _ _ _ _ _ [some (.ref 46)] [] ((fun _ => false, 0, 0, true, false, ad), (zI_529 xs), (fun _ _ => 0))
    refine mm_q0 ⟨rfl, ?_⟩
    show mm_b _ _ _ _ _ [some (.ref 46), some (.int (xs 1)), some (.int 0), none, none, none, none, none] [] ((fun _ => false, 0, 0, true, false, ad), (zI_531 xs), (fun _ _ => 0))
    refine mm_iv 600 (by rfl) ?_
    show mm_k _ _ _ _ _ [some (.ref 46), some (.int (xs 1)), some (.int 3)] [] ((fun _ => false, 0, 0, true, false, ad), (zI_531 xs), (fun _ _ => 0))
    refine mm_el (c := ¬ (0 : Int32) = 0) (d := (0 : Int32) = 0) (by decide) ?_
    show mm_b _ _ _ _ _ [some (.ref 46), some (.int (xs 1)), some (.int 3)] [] ((fun _ => false, 0, 0, true, false, ad), (zI_531 xs), (fun _ _ => 0))
    refine mm_q1 (r := 1) ⟨rfl, ?_⟩
    show mm_b _ _ _ _ _ [some (.ref 46), some (.int (xs 1)), some (.int 0), none, none, none, none, none] [.int 1] ((fun _ => false, 0, 0, true, false, ad), (zI_531 xs), (fun _ _ => 0))
    refine mm_el (c := (1 : Int32) = 0) (d := ¬ (1 : Int32) = 0) (by decide) ?_
    show mm_b _ _ _ _ _ [some (.ref 46), some (.int (xs 1)), some (.int 0), some (.int 1), none, none, none, none] [] ((fun _ => false, 0, 0, true, false, ad), (zI_531 xs), (fun _ _ => 0))
    refine mm_iv 600 (by rfl) ?_
    show mm_k _ _ _ _ _ [some (.ref 46), some (.int 1)] [] ((fun _ => false, 0, 0, true, false, ad), (zI_531 xs), (fun _ _ => 0))
    refine mm_q1 (r := (-1)) ⟨rfl, ?_⟩
    show mm_b _ _ _ _ _ [some (.ref 46), some (.int (xs 1)), some (.int 0), some (.int 1), none, none, none, none] [.int (-1)] ((fun _ => false, 0, 0, true, false, ad), (zI_532 xs), (fun _ _ => 0))
    refine mm_q2 (r := (Int32.toInt64 (-1))) ?_
    show mm_b _ _ _ _ _ [some (.ref 68), some (.ref 0), some (.ref 46), some (.ref 65), some (.int 0), none, none] [.long (Int32.toInt64 (-1)), .long (-1)] ((fun _ => false, 599936, 6869426, true, false, ad), (zI_532 xs), (fun _ _ => 0))
    refine mm_tk (c := ((lg_cmp (-1) (Int32.toInt64 (-1))) : Int32) = 0) (d := ¬ ((lg_cmp (-1) (Int32.toInt64 (-1))) : Int32) = 0) (by decide) ?_
    show mm_u _ _ _ _ _ _ [some (.ref 68), some (.ref 0), some (.ref 46), some (.ref 65), some (.int 0), none, none] [] ((fun _ => false, 599936, 6869426, true, false, ad), (zI_532 xs), (fun _ _ => 0))
    refine mm_tk (c := (((nI 6) - 6) : Int32) < 6) (d := ¬ (((nI 6) - 6) : Int32) < 6) (by decide) ?_
    show mm_u _ _ _ _ _ _ [some (.ref 68), some (.ref 0), some (.ref 46), some (.ref 65), some (.int 6), none, none] [] ((fun _ => false, 599936, 6869426, true, false, ad), (zI_532 xs), (fun _ _ => 0))
    refine mm_ob (P := (1 : Int32) = 0 ∨ (1 : Int32) = 1) (by decide) ?_
    exact rfl
  · show mm_b _ _ _ _ _ [some (.ref 68), some (.ref 0), some (.ref 46), some (.ref 65), some (.int 0), none, none] [.int (xs 1), .ref 0] ((fun _ => false, 599936, 6869426, true, false, ad), (mm_I0 6 xs), (fun _ _ => 0))
    refine mm_e1 ?_
    refine mm_iv 600 (by rfl) ?_
    show mm_k _ _ _ _ _ [some (.ref 0), some (.int (xs 1)), some (.int 1)] [] ((fun _ => false, 0, 0, true, false, ad), (mm_I0 6 xs), (fun _ _ => 0))
    refine mm_iv 600 (by rfl) ?_
    show mm_k _ _ _ _ _ [some (.ref 0), some (.int (xs 1)), some (.int 3)] [] ((fun _ => false, 0, 0, true, false, ad), (mm_I0 6 xs), (fun _ _ => 0))
    refine mm_el (c := ¬ (0 : Int32) = 0) (d := (0 : Int32) = 0) (by decide) ?_
    show mm_b _ _ _ _ _ [some (.ref 0), some (.int (xs 1)), some (.int 3)] [] ((fun _ => false, 0, 0, true, false, ad), (mm_I0 6 xs), (fun _ _ => 0))
    refine mm_ob (P := (1 : Int32) = 0 ∨ (1 : Int32) = 1) (by decide) ?_
    refine mm_q1 (r := 1) ⟨rfl, ?_⟩
    show mm_b _ _ _ _ _ [some (.ref 0), some (.int (xs 1)), some (.int 1)] [.int 1] ((fun _ => false, 0, 0, true, false, ad), (zI_533 xs), (fun _ _ => 0))
    refine mm_el (c := (1 : Int32) = 0) (d := ¬ (1 : Int32) = 0) (by decide) ?_
    show mm_b _ _ _ _ _ [some (.ref 0), some (.int (xs 1)), some (.int 1)] [] ((fun _ => false, 0, 0, true, false, ad), (zI_533 xs), (fun _ _ => 0))
    refine mm_q2 (r := (-1)) ?_
    show mm_b _ _ _ _ _ [some (.ref 68), some (.ref 0), some (.ref 46), some (.ref 65), some (.int 0), none, none] [.long (-1)] ((fun _ => false, 599936, 6869426, true, false, ad), (zI_533 xs), (fun _ _ => 0))
    refine mm_ob (P := vp_in 1 (nI 6).toNatClampNeg) (mm_inl (by decide)) ?_
    show mm_b _ _ _ _ _ [some (.ref 68), some (.ref 0), some (.ref 46), some (.ref 65), some (.int 0), none, none] [.int (xs 1), .ref 46, .long (-1)] ((fun _ => false, 599936, 6869426, true, false, ad), (zI_533 xs), (fun _ _ => 0))
    refine mm_ob (P := vp_in 2 (nI 6).toNatClampNeg) (mm_inl (by decide)) ?_
    show mm_b _ _ _ _ _ [some (.ref 68), some (.ref 0), some (.ref 46), some (.ref 65), some (.int 0), none, none] [.int (xs 2), .int (xs 1), .ref 46, .long (-1)] ((fun _ => false, 599936, 6869426, true, false, ad), (zI_533 xs), (fun _ _ => 0))
    refine mm_el (c := ((xs 2) : Int32) = 0) (d := ¬ ((xs 2) : Int32) = 0) (fun q9 => by simp only [Int32.lt_iff_toInt_lt, Int32.le_iff_toInt_le, ← Int32.toInt_inj, li_0, li_1, li_2, li_3, li_4, li_5, li_6, li_7, li_8, li_9, li_10, li_11, li_12, li_13, li_14, li_15] at *; omega) ?_
    show mm_b _ _ _ _ _ [some (.ref 68), some (.ref 0), some (.ref 46), some (.ref 65), some (.int 0), none, none] [.int (xs 1), .ref 46, .long (-1)] ((fun _ => false, 599936, 6869426, true, false, ad), (zI_533 xs), (fun _ _ => 0))
    refine mm_e1 ?_
    refine mm_iv 600 (by rfl) ?_
    show mm_k _ _ _ _ _ [some (.ref 46), some (.int (xs 1)), some (.int 1), none, none, none, none, none] [] ((fun _ => false, 0, 0, true, false, ad), (zI_533 xs), (fun _ _ => 0))
    refine mm_iv 600 (by rfl) ?_
    show mm_k _ _ _ _ _ [some (.ref 46)] [] ((fun _ => false, 0, 0, true, false, ad), (zI_533 xs), (fun _ _ => 0))
    refine mm_q0 ⟨rfl, ?_⟩
    show mm_b _ _ _ _ _ [some (.ref 46), some (.int (xs 1)), some (.int 1), none, none, none, none, none] [] ((fun _ => false, 0, 0, true, false, ad), (zI_535 xs), (fun _ _ => 0))
    refine mm_iv 600 (by rfl) ?_
    show mm_k _ _ _ _ _ [some (.ref 46), some (.int (xs 1)), some (.int 3)] [] ((fun _ => false, 0, 0, true, false, ad), (zI_535 xs), (fun _ _ => 0))
    refine mm_el (c := ¬ (0 : Int32) = 0) (d := (0 : Int32) = 0) (by decide) ?_
    show mm_b _ _ _ _ _ [some (.ref 46), some (.int (xs 1)), some (.int 3)] [] ((fun _ => false, 0, 0, true, false, ad), (zI_535 xs), (fun _ _ => 0))
    refine mm_q1 (r := 1) ⟨rfl, ?_⟩
    show mm_b _ _ _ _ _ [some (.ref 46), some (.int (xs 1)), some (.int 1), none, none, none, none, none] [.int 1] ((fun _ => false, 0, 0, true, false, ad), (zI_535 xs), (fun _ _ => 0))
    refine mm_el (c := (1 : Int32) = 0) (d := ¬ (1 : Int32) = 0) (by decide) ?_
    show mm_b _ _ _ _ _ [some (.ref 46), some (.int (xs 1)), some (.int 1), some (.int 1), none, none, none, none] [] ((fun _ => false, 0, 0, true, false, ad), (zI_535 xs), (fun _ _ => 0))
    refine mm_iv 600 (by rfl) ?_
    show mm_k _ _ _ _ _ [some (.ref 46), some (.int 1)] [] ((fun _ => false, 0, 0, true, false, ad), (zI_535 xs), (fun _ _ => 0))
    refine mm_q1 (r := (-1)) ⟨rfl, ?_⟩
    show mm_b _ _ _ _ _ [some (.ref 46), some (.int (xs 1)), some (.int 1), some (.int 1), none, none, none, none] [.int (-1)] ((fun _ => false, 0, 0, true, false, ad), (zI_536 xs), (fun _ _ => 0))
    refine mm_q2 (r := (Int32.toInt64 (-1))) ?_
    show mm_b _ _ _ _ _ [some (.ref 68), some (.ref 0), some (.ref 46), some (.ref 65), some (.int 0), none, none] [.long (Int32.toInt64 (-1)), .long (-1)] ((fun _ => false, 599936, 6869426, true, false, ad), (zI_536 xs), (fun _ _ => 0))
    refine mm_tk (c := ((lg_cmp (-1) (Int32.toInt64 (-1))) : Int32) = 0) (d := ¬ ((lg_cmp (-1) (Int32.toInt64 (-1))) : Int32) = 0) (by decide) ?_
    show mm_u _ _ _ _ _ _ [some (.ref 68), some (.ref 0), some (.ref 46), some (.ref 65), some (.int 0), none, none] [] ((fun _ => false, 599936, 6869426, true, false, ad), (zI_536 xs), (fun _ _ => 0))
    refine mm_tk (c := (((nI 6) - 6) : Int32) < 6) (d := ¬ (((nI 6) - 6) : Int32) < 6) (by decide) ?_
    show mm_u _ _ _ _ _ _ [some (.ref 68), some (.ref 0), some (.ref 46), some (.ref 65), some (.int 6), none, none] [] ((fun _ => false, 599936, 6869426, true, false, ad), (zI_536 xs), (fun _ _ => 0))
    refine mm_ob (P := (1 : Int32) = 0 ∨ (1 : Int32) = 1) (by decide) ?_
    exact rfl
def zI_549 (xs : Nat → Int32) : mmI := mm_up (mm_I0 6 xs) 0 7 1
def zI_550 (xs : Nat → Int32) : mmI := mm_up (zI_549 xs) 46 0 0
def zI_551 (xs : Nat → Int32) : mmI := mm_up (zI_550 xs) 46 11 0
def zI_552 (xs : Nat → Int32) : mmI := mm_up (zI_551 xs) 46 11 1
def zI_553 (xs : Nat → Int32) : mmI := mm_up (mm_I0 6 xs) 0 7 1
def zI_554 (xs : Nat → Int32) : mmI := mm_up (zI_553 xs) 46 0 0
def zI_555 (xs : Nat → Int32) : mmI := mm_up (zI_554 xs) 46 11 0
def zI_556 (xs : Nat → Int32) : mmI := mm_up (zI_555 xs) 46 11 1
def zI_557 (xs : Nat → Int32) : mmI := mm_up (mm_I0 6 xs) 0 7 1
def zI_558 (xs : Nat → Int32) : mmI := mm_up (zI_557 xs) 46 0 0
def zI_559 (xs : Nat → Int32) : mmI := mm_up (zI_558 xs) 46 11 0
def zI_560 (xs : Nat → Int32) : mmI := mm_up (zI_559 xs) 46 11 1
def zI_561 (xs : Nat → Int32) : mmI := mm_up (mm_I0 6 xs) 0 7 1
def zI_562 (xs : Nat → Int32) : mmI := mm_up (zI_561 xs) 46 0 0
def zI_563 (xs : Nat → Int32) : mmI := mm_up (zI_562 xs) 46 11 0
def zI_564 (xs : Nat → Int32) : mmI := mm_up (zI_563 xs) 46 11 1
set_option maxRecDepth 20000 in
set_option maxHeartbeats 4000000 in
theorem op_36 (ad : Nat → Nat) (xs : Nat → Int32) : mm_w (fun v _ => v = some (.int 1)) (mm_wc 210) bk_law 1162 [some (.ref 68), some (.ref 0), some (.ref 46), some (.ref 65), some (.int 0), none, none] [] (mm_s0 ad 6 xs) := by
  refine mm_go [] 600 ?_
  refine mm_ob (P := vp_in 1 (nI 6).toNatClampNeg) (mm_inl (by decide)) ?_
  show mm_b _ _ _ _ _ [some (.ref 68), some (.ref 0), some (.ref 46), some (.ref 65), some (.int 0), none, none] [.int (xs 1), .ref 0] ((fun _ => false, 599936, 6869426, true, false, ad), (mm_I0 6 xs), (fun _ _ => 0))
  refine mm_ob (P := vp_in 2 (nI 6).toNatClampNeg) (mm_inl (by decide)) ?_
  show mm_b _ _ _ _ _ [some (.ref 68), some (.ref 0), some (.ref 46), some (.ref 65), some (.int 0), none, none] [.int (xs 2), .int (xs 1), .ref 0] ((fun _ => false, 599936, 6869426, true, false, ad), (mm_I0 6 xs), (fun _ _ => 0))
  refine mm_e1 ?_
  refine mm_iv 600 (by rfl) ?_
  show mm_k _ _ _ _ _ [some (.ref 0), some (.int (xs 1)), some (.int (xs 2))] [] ((fun _ => false, 0, 0, true, false, ad), (mm_I0 6 xs), (fun _ _ => 0))
  refine mm_both (c := ¬ ((xs 1) : Int32) = 0) (d := ((xs 1) : Int32) = 0) (fun c0 => ?_) (fun c0 => ?_)
  · show mm_u _ _ _ _ _ _ [some (.ref 0), some (.int (xs 1)), some (.int (xs 2))] [] ((fun _ => false, 0, 0, true, false, ad), (mm_I0 6 xs), (fun _ _ => 0))
    refine mm_both (c := ¬ ((xs 1) : Int32) = 1) (d := ((xs 1) : Int32) = 1) (fun c1 => ?_) (fun c1 => ?_)
    · show mm_u _ _ _ _ _ _ [some (.ref 0), some (.int (xs 1)), some (.int (xs 2))] [] ((fun _ => false, 0, 0, true, false, ad), (mm_I0 6 xs), (fun _ _ => 0))
      refine mm_both (c := ¬ ((xs 1) : Int32) = 2) (d := ((xs 1) : Int32) = 2) (fun c2 => ?_) (fun c2 => ?_)
      · show mm_u _ _ _ _ _ _ [some (.ref 0), some (.int (xs 1)), some (.int (xs 2))] [] ((fun _ => false, 0, 0, true, false, ad), (mm_I0 6 xs), (fun _ _ => 0))
        refine mm_iv 600 (by rfl) ?_
        show mm_k _ _ _ _ _ [some (.ref 0), some (.int 1)] [] ((fun _ => false, 0, 0, true, false, ad), (mm_I0 6 xs), (fun _ _ => 0))
        refine mm_q1 (r := (-1)) ⟨rfl, ?_⟩
        show mm_b _ _ _ _ _ [some (.ref 0), none, none] [.int (-1)] ((fun _ => false, 0, 0, true, false, ad), (zI_549 xs), (fun _ _ => 0))
        refine mm_q1 (r := (-1)) ?_
        show mm_b _ _ _ _ _ [some (.ref 68), some (.ref 0), some (.ref 46), some (.ref 65), some (.int 0), none, none] [.int (-1)] ((fun _ => false, 599936, 6869426, true, false, ad), (zI_549 xs), (fun _ _ => 0))
        refine mm_ob (P := vp_in 1 (nI 6).toNatClampNeg) (mm_inl (by decide)) ?_
        show mm_b _ _ _ _ _ [some (.ref 68), some (.ref 0), some (.ref 46), some (.ref 65), some (.int 0), none, none] [.int (xs 1), .ref 46, .int (-1)] ((fun _ => false, 599936, 6869426, true, false, ad), (zI_549 xs), (fun _ _ => 0))
        refine mm_ob (P := vp_in 2 (nI 6).toNatClampNeg) (mm_inl (by decide)) ?_
        show mm_b _ _ _ _ _ [some (.ref 68), some (.ref 0), some (.ref 46), some (.ref 65), some (.int 0), none, none] [.int (xs 2), .int (xs 1), .ref 46, .int (-1)] ((fun _ => false, 599936, 6869426, true, false, ad), (zI_549 xs), (fun _ _ => 0))
        refine mm_e1 ?_
        refine mm_iv 600 (by rfl) ?_
        show mm_k _ _ _ _ _ [some (.ref 46), some (.int (xs 1)), some (.int (xs 2))] [] ((fun _ => false, 0, 0, true, false, ad), (zI_549 xs), (fun _ _ => 0))
        refine mm_iv 600 (by rfl) ?_
        show mm_k _ _ _ _ _ [some (.ref 46)] [] ((fun _ => false, 0, 0, true, false, ad), (zI_549 xs), (fun _ _ => 0))
        refine mm_q0 ⟨rfl, ?_⟩
        show mm_b _ _ _ _ _ [some (.ref 46), some (.int (xs 1)), some (.int (xs 2))] [] ((fun _ => false, 0, 0, true, false, ad), (zI_551 xs), (fun _ _ => 0))
        refine mm_tk (c := (0 : Int32) = 0) (d := ¬ (0 : Int32) = 0) (by decide) ?_
        show mm_u _ _ _ _ _ _ [some (.ref 46), some (.int (xs 1)), some (.int (xs 2))] [] ((fun _ => false, 0, 0, true, false, ad), (zI_551 xs), (fun _ _ => 0))
        refine mm_iv 600 (by rfl) ?_
        show mm_k _ _ _ _ _ [some (.ref 46), some (.int 1)] [] ((fun _ => false, 0, 0, true, false, ad), (zI_551 xs), (fun _ _ => 0))
        refine mm_q1 (r := (-1)) ⟨rfl, ?_⟩
        show mm_b _ _ _ _ _ [some (.ref 46), none, none] [.int (-1)] ((fun _ => false, 0, 0, true, false, ad), (zI_552 xs), (fun _ _ => 0))
        refine mm_q1 (r := (-1)) ?_
        show mm_b _ _ _ _ _ [some (.ref 68), some (.ref 0), some (.ref 46), some (.ref 65), some (.int 0), none, none] [.int (-1), .int (-1)] ((fun _ => false, 599936, 6869426, true, false, ad), (zI_552 xs), (fun _ _ => 0))
        refine mm_tk (c := ((-1) : Int32) = (-1)) (d := ¬ ((-1) : Int32) = (-1)) (by decide) ?_
        show mm_u _ _ _ _ _ _ [some (.ref 68), some (.ref 0), some (.ref 46), some (.ref 65), some (.int 0), none, none] [] ((fun _ => false, 599936, 6869426, true, false, ad), (zI_552 xs), (fun _ _ => 0))
        refine mm_tk (c := (((nI 6) - 6) : Int32) < 6) (d := ¬ (((nI 6) - 6) : Int32) < 6) (by decide) ?_
        show mm_u _ _ _ _ _ _ [some (.ref 68), some (.ref 0), some (.ref 46), some (.ref 65), some (.int 6), none, none] [] ((fun _ => false, 599936, 6869426, true, false, ad), (zI_552 xs), (fun _ _ => 0))
        refine mm_ob (P := (1 : Int32) = 0 ∨ (1 : Int32) = 1) (by decide) ?_
        exact rfl
      · show mm_b _ _ _ _ _ [some (.ref 0), some (.int (xs 1)), some (.int (xs 2))] [] ((fun _ => false, 0, 0, true, false, ad), (mm_I0 6 xs), (fun _ _ => 0))
        refine mm_iv 600 (by rfl) ?_
        show mm_k _ _ _ _ _ [some (.ref 0), some (.int (xs 2))] [] ((fun _ => false, 0, 0, true, false, ad), (mm_I0 6 xs), (fun _ _ => 0))
        refine mm_tk (c := (0 : Int32) = 0) (d := ¬ (0 : Int32) = 0) (by decide) ?_
        show mm_u _ _ _ _ _ _ [some (.ref 0), some (.int (xs 2))] [] ((fun _ => false, 0, 0, true, false, ad), (mm_I0 6 xs), (fun _ _ => 0))
        refine mm_ob (P := (0 : Int32) = 0 ∨ (0 : Int32) = 1) (by decide) ?_
        refine mm_q1 (r := 0) ⟨rfl, ?_⟩
        show mm_b _ _ _ _ _ [some (.ref 0), some (.int (xs 1)), some (.int (xs 2))] [.int 0] ((fun _ => false, 0, 0, true, false, ad), (mm_I0 6 xs), (fun _ _ => 0))
        refine mm_tk (c := (0 : Int32) = 0) (d := ¬ (0 : Int32) = 0) (by decide) ?_
        show mm_u _ _ _ _ _ _ [some (.ref 0), some (.int (xs 1)), some (.int (xs 2))] [] ((fun _ => false, 0, 0, true, false, ad), (mm_I0 6 xs), (fun _ _ => 0))
        refine mm_iv 600 (by rfl) ?_
        show mm_k _ _ _ _ _ [some (.ref 0), some (.int 1)] [] ((fun _ => false, 0, 0, true, false, ad), (mm_I0 6 xs), (fun _ _ => 0))
        refine mm_q1 (r := (-1)) ⟨rfl, ?_⟩
        show mm_b _ _ _ _ _ [some (.ref 0), none, none] [.int (-1)] ((fun _ => false, 0, 0, true, false, ad), (zI_553 xs), (fun _ _ => 0))
        refine mm_q1 (r := (-1)) ?_
        show mm_b _ _ _ _ _ [some (.ref 68), some (.ref 0), some (.ref 46), some (.ref 65), some (.int 0), none, none] [.int (-1)] ((fun _ => false, 599936, 6869426, true, false, ad), (zI_553 xs), (fun _ _ => 0))
        refine mm_ob (P := vp_in 1 (nI 6).toNatClampNeg) (mm_inl (by decide)) ?_
        show mm_b _ _ _ _ _ [some (.ref 68), some (.ref 0), some (.ref 46), some (.ref 65), some (.int 0), none, none] [.int (xs 1), .ref 46, .int (-1)] ((fun _ => false, 599936, 6869426, true, false, ad), (zI_553 xs), (fun _ _ => 0))
        refine mm_ob (P := vp_in 2 (nI 6).toNatClampNeg) (mm_inl (by decide)) ?_
        show mm_b _ _ _ _ _ [some (.ref 68), some (.ref 0), some (.ref 46), some (.ref 65), some (.int 0), none, none] [.int (xs 2), .int (xs 1), .ref 46, .int (-1)] ((fun _ => false, 599936, 6869426, true, false, ad), (zI_553 xs), (fun _ _ => 0))
        refine mm_e1 ?_
        refine mm_iv 600 (by rfl) ?_
        show mm_k _ _ _ _ _ [some (.ref 46), some (.int (xs 1)), some (.int (xs 2))] [] ((fun _ => false, 0, 0, true, false, ad), (zI_553 xs), (fun _ _ => 0))
        refine mm_iv 600 (by rfl) ?_
        show mm_k _ _ _ _ _ [some (.ref 46)] [] ((fun _ => false, 0, 0, true, false, ad), (zI_553 xs), (fun _ _ => 0))
        refine mm_q0 ⟨rfl, ?_⟩
        show mm_b _ _ _ _ _ [some (.ref 46), some (.int (xs 1)), some (.int (xs 2))] [] ((fun _ => false, 0, 0, true, false, ad), (zI_555 xs), (fun _ _ => 0))
        refine mm_tk (c := (0 : Int32) = 0) (d := ¬ (0 : Int32) = 0) (by decide) ?_
        show mm_u _ _ _ _ _ _ [some (.ref 46), some (.int (xs 1)), some (.int (xs 2))] [] ((fun _ => false, 0, 0, true, false, ad), (zI_555 xs), (fun _ _ => 0))
        refine mm_iv 600 (by rfl) ?_
        show mm_k _ _ _ _ _ [some (.ref 46), some (.int 1)] [] ((fun _ => false, 0, 0, true, false, ad), (zI_555 xs), (fun _ _ => 0))
        refine mm_q1 (r := (-1)) ⟨rfl, ?_⟩
        show mm_b _ _ _ _ _ [some (.ref 46), none, none] [.int (-1)] ((fun _ => false, 0, 0, true, false, ad), (zI_556 xs), (fun _ _ => 0))
        refine mm_q1 (r := (-1)) ?_
        show mm_b _ _ _ _ _ [some (.ref 68), some (.ref 0), some (.ref 46), some (.ref 65), some (.int 0), none, none] [.int (-1), .int (-1)] ((fun _ => false, 599936, 6869426, true, false, ad), (zI_556 xs), (fun _ _ => 0))
        refine mm_tk (c := ((-1) : Int32) = (-1)) (d := ¬ ((-1) : Int32) = (-1)) (by decide) ?_
        show mm_u _ _ _ _ _ _ [some (.ref 68), some (.ref 0), some (.ref 46), some (.ref 65), some (.int 0), none, none] [] ((fun _ => false, 599936, 6869426, true, false, ad), (zI_556 xs), (fun _ _ => 0))
        refine mm_tk (c := (((nI 6) - 6) : Int32) < 6) (d := ¬ (((nI 6) - 6) : Int32) < 6) (by decide) ?_
        show mm_u _ _ _ _ _ _ [some (.ref 68), some (.ref 0), some (.ref 46), some (.ref 65), some (.int 6), none, none] [] ((fun _ => false, 599936, 6869426, true, false, ad), (zI_556 xs), (fun _ _ => 0))
        refine mm_ob (P := (1 : Int32) = 0 ∨ (1 : Int32) = 1) (by decide) ?_
        exact rfl
    · show mm_b _ _ _ _ _ [some (.ref 0), some (.int (xs 1)), some (.int (xs 2))] [] ((fun _ => false, 0, 0, true, false, ad), (mm_I0 6 xs), (fun _ _ => 0))
      refine mm_iv 600 (by rfl) ?_
      show mm_k _ _ _ _ _ [some (.ref 0), some (.int (xs 2))] [] ((fun _ => false, 0, 0, true, false, ad), (mm_I0 6 xs), (fun _ _ => 0))
      refine mm_tk (c := (0 : Int32) = 0) (d := ¬ (0 : Int32) = 0) (by decide) ?_
      show mm_u _ _ _ _ _ _ [some (.ref 0), some (.int (xs 2))] [] ((fun _ => false, 0, 0, true, false, ad), (mm_I0 6 xs), (fun _ _ => 0))
      refine mm_ob (P := (0 : Int32) = 0 ∨ (0 : Int32) = 1) (by decide) ?_
      refine mm_q1 (r := 0) ⟨rfl, ?_⟩
      show mm_b _ _ _ _ _ [some (.ref 0), some (.int (xs 1)), some (.int (xs 2))] [.int 0] ((fun _ => false, 0, 0, true, false, ad), (mm_I0 6 xs), (fun _ _ => 0))
      refine mm_el (c := ¬ (0 : Int32) = 0) (d := (0 : Int32) = 0) (by decide) ?_
      show mm_b _ _ _ _ _ [some (.ref 0), some (.int (xs 1)), some (.int (xs 2))] [] ((fun _ => false, 0, 0, true, false, ad), (mm_I0 6 xs), (fun _ _ => 0))
      refine mm_tk (c := ¬ ((xs 1) : Int32) = 2) (d := ((xs 1) : Int32) = 2) (fun q9 => by simp only [Int32.lt_iff_toInt_lt, Int32.le_iff_toInt_le, ← Int32.toInt_inj, li_0, li_1, li_2, li_3, li_4, li_5, li_6, li_7, li_8, li_9, li_10, li_11, li_12, li_13, li_14, li_15] at *; omega) ?_
      show mm_u _ _ _ _ _ _ [some (.ref 0), some (.int (xs 1)), some (.int (xs 2))] [] ((fun _ => false, 0, 0, true, false, ad), (mm_I0 6 xs), (fun _ _ => 0))
      refine mm_iv 600 (by rfl) ?_
      show mm_k _ _ _ _ _ [some (.ref 0), some (.int 1)] [] ((fun _ => false, 0, 0, true, false, ad), (mm_I0 6 xs), (fun _ _ => 0))
      refine mm_q1 (r := (-1)) ⟨rfl, ?_⟩
      show mm_b _ _ _ _ _ [some (.ref 0), none, none] [.int (-1)] ((fun _ => false, 0, 0, true, false, ad), (zI_557 xs), (fun _ _ => 0))
      refine mm_q1 (r := (-1)) ?_
      show mm_b _ _ _ _ _ [some (.ref 68), some (.ref 0), some (.ref 46), some (.ref 65), some (.int 0), none, none] [.int (-1)] ((fun _ => false, 599936, 6869426, true, false, ad), (zI_557 xs), (fun _ _ => 0))
      refine mm_ob (P := vp_in 1 (nI 6).toNatClampNeg) (mm_inl (by decide)) ?_
      show mm_b _ _ _ _ _ [some (.ref 68), some (.ref 0), some (.ref 46), some (.ref 65), some (.int 0), none, none] [.int (xs 1), .ref 46, .int (-1)] ((fun _ => false, 599936, 6869426, true, false, ad), (zI_557 xs), (fun _ _ => 0))
      refine mm_ob (P := vp_in 2 (nI 6).toNatClampNeg) (mm_inl (by decide)) ?_
      show mm_b _ _ _ _ _ [some (.ref 68), some (.ref 0), some (.ref 46), some (.ref 65), some (.int 0), none, none] [.int (xs 2), .int (xs 1), .ref 46, .int (-1)] ((fun _ => false, 599936, 6869426, true, false, ad), (zI_557 xs), (fun _ _ => 0))
      refine mm_e1 ?_
      refine mm_iv 600 (by rfl) ?_
      show mm_k _ _ _ _ _ [some (.ref 46), some (.int (xs 1)), some (.int (xs 2))] [] ((fun _ => false, 0, 0, true, false, ad), (zI_557 xs), (fun _ _ => 0))
      refine mm_iv 600 (by rfl) ?_
      show mm_k _ _ _ _ _ [some (.ref 46)] [] ((fun _ => false, 0, 0, true, false, ad), (zI_557 xs), (fun _ _ => 0))
      refine mm_q0 ⟨rfl, ?_⟩
      show mm_b _ _ _ _ _ [some (.ref 46), some (.int (xs 1)), some (.int (xs 2))] [] ((fun _ => false, 0, 0, true, false, ad), (zI_559 xs), (fun _ _ => 0))
      refine mm_tk (c := (0 : Int32) = 0) (d := ¬ (0 : Int32) = 0) (by decide) ?_
      show mm_u _ _ _ _ _ _ [some (.ref 46), some (.int (xs 1)), some (.int (xs 2))] [] ((fun _ => false, 0, 0, true, false, ad), (zI_559 xs), (fun _ _ => 0))
      refine mm_iv 600 (by rfl) ?_
      show mm_k _ _ _ _ _ [some (.ref 46), some (.int 1)] [] ((fun _ => false, 0, 0, true, false, ad), (zI_559 xs), (fun _ _ => 0))
      refine mm_q1 (r := (-1)) ⟨rfl, ?_⟩
      show mm_b _ _ _ _ _ [some (.ref 46), none, none] [.int (-1)] ((fun _ => false, 0, 0, true, false, ad), (zI_560 xs), (fun _ _ => 0))
      refine mm_q1 (r := (-1)) ?_
      show mm_b _ _ _ _ _ [some (.ref 68), some (.ref 0), some (.ref 46), some (.ref 65), some (.int 0), none, none] [.int (-1), .int (-1)] ((fun _ => false, 599936, 6869426, true, false, ad), (zI_560 xs), (fun _ _ => 0))
      refine mm_tk (c := ((-1) : Int32) = (-1)) (d := ¬ ((-1) : Int32) = (-1)) (by decide) ?_
      show mm_u _ _ _ _ _ _ [some (.ref 68), some (.ref 0), some (.ref 46), some (.ref 65), some (.int 0), none, none] [] ((fun _ => false, 599936, 6869426, true, false, ad), (zI_560 xs), (fun _ _ => 0))
      refine mm_tk (c := (((nI 6) - 6) : Int32) < 6) (d := ¬ (((nI 6) - 6) : Int32) < 6) (by decide) ?_
      show mm_u _ _ _ _ _ _ [some (.ref 68), some (.ref 0), some (.ref 46), some (.ref 65), some (.int 6), none, none] [] ((fun _ => false, 599936, 6869426, true, false, ad), (zI_560 xs), (fun _ _ => 0))
      refine mm_ob (P := (1 : Int32) = 0 ∨ (1 : Int32) = 1) (by decide) ?_
      exact rfl
  · show mm_b _ _ _ _ _ [some (.ref 0), some (.int (xs 1)), some (.int (xs 2))] [] ((fun _ => false, 0, 0, true, false, ad), (mm_I0 6 xs), (fun _ _ => 0))
    refine mm_iv 600 (by rfl) ?_
    show mm_k _ _ _ _ _ [some (.ref 0), some (.int (xs 2))] [] ((fun _ => false, 0, 0, true, false, ad), (mm_I0 6 xs), (fun _ _ => 0))
    refine mm_tk (c := (0 : Int32) = 0) (d := ¬ (0 : Int32) = 0) (by decide) ?_
    show mm_u _ _ _ _ _ _ [some (.ref 0), some (.int (xs 2))] [] ((fun _ => false, 0, 0, true, false, ad), (mm_I0 6 xs), (fun _ _ => 0))
    refine mm_ob (P := (0 : Int32) = 0 ∨ (0 : Int32) = 1) (by decide) ?_
    refine mm_q1 (r := 0) ⟨rfl, ?_⟩
    show mm_b _ _ _ _ _ [some (.ref 0), some (.int (xs 1)), some (.int (xs 2))] [.int 0] ((fun _ => false, 0, 0, true, false, ad), (mm_I0 6 xs), (fun _ _ => 0))
    refine mm_tk (c := (0 : Int32) = 0) (d := ¬ (0 : Int32) = 0) (by decide) ?_
    show mm_u _ _ _ _ _ _ [some (.ref 0), some (.int (xs 1)), some (.int (xs 2))] [] ((fun _ => false, 0, 0, true, false, ad), (mm_I0 6 xs), (fun _ _ => 0))
    refine mm_tk (c := ¬ ((xs 1) : Int32) = 1) (d := ((xs 1) : Int32) = 1) (fun q9 => by simp only [Int32.lt_iff_toInt_lt, Int32.le_iff_toInt_le, ← Int32.toInt_inj, li_0, li_1, li_2, li_3, li_4, li_5, li_6, li_7, li_8, li_9, li_10, li_11, li_12, li_13, li_14, li_15] at *; omega) ?_
    show mm_u _ _ _ _ _ _ [some (.ref 0), some (.int (xs 1)), some (.int (xs 2))] [] ((fun _ => false, 0, 0, true, false, ad), (mm_I0 6 xs), (fun _ _ => 0))
    refine mm_tk (c := ¬ ((xs 1) : Int32) = 2) (d := ((xs 1) : Int32) = 2) (fun q9 => by simp only [Int32.lt_iff_toInt_lt, Int32.le_iff_toInt_le, ← Int32.toInt_inj, li_0, li_1, li_2, li_3, li_4, li_5, li_6, li_7, li_8, li_9, li_10, li_11, li_12, li_13, li_14, li_15] at *; omega) ?_
    show mm_u _ _ _ _ _ _ [some (.ref 0), some (.int (xs 1)), some (.int (xs 2))] [] ((fun _ => false, 0, 0, true, false, ad), (mm_I0 6 xs), (fun _ _ => 0))
    refine mm_iv 600 (by rfl) ?_
    show mm_k _ _ _ _ _ [some (.ref 0), some (.int 1)] [] ((fun _ => false, 0, 0, true, false, ad), (mm_I0 6 xs), (fun _ _ => 0))
    refine mm_q1 (r := (-1)) ⟨rfl, ?_⟩
    show mm_b _ _ _ _ _ [some (.ref 0), none, none] [.int (-1)] ((fun _ => false, 0, 0, true, false, ad), (zI_561 xs), (fun _ _ => 0))
    refine mm_q1 (r := (-1)) ?_
    show mm_b _ _ _ _ _ [some (.ref 68), some (.ref 0), some (.ref 46), some (.ref 65), some (.int 0), none, none] [.int (-1)] ((fun _ => false, 599936, 6869426, true, false, ad), (zI_561 xs), (fun _ _ => 0))
    refine mm_ob (P := vp_in 1 (nI 6).toNatClampNeg) (mm_inl (by decide)) ?_
    show mm_b _ _ _ _ _ [some (.ref 68), some (.ref 0), some (.ref 46), some (.ref 65), some (.int 0), none, none] [.int (xs 1), .ref 46, .int (-1)] ((fun _ => false, 599936, 6869426, true, false, ad), (zI_561 xs), (fun _ _ => 0))
    refine mm_ob (P := vp_in 2 (nI 6).toNatClampNeg) (mm_inl (by decide)) ?_
    show mm_b _ _ _ _ _ [some (.ref 68), some (.ref 0), some (.ref 46), some (.ref 65), some (.int 0), none, none] [.int (xs 2), .int (xs 1), .ref 46, .int (-1)] ((fun _ => false, 599936, 6869426, true, false, ad), (zI_561 xs), (fun _ _ => 0))
    refine mm_e1 ?_
    refine mm_iv 600 (by rfl) ?_
    show mm_k _ _ _ _ _ [some (.ref 46), some (.int (xs 1)), some (.int (xs 2))] [] ((fun _ => false, 0, 0, true, false, ad), (zI_561 xs), (fun _ _ => 0))
    refine mm_iv 600 (by rfl) ?_
    show mm_k _ _ _ _ _ [some (.ref 46)] [] ((fun _ => false, 0, 0, true, false, ad), (zI_561 xs), (fun _ _ => 0))
    refine mm_q0 ⟨rfl, ?_⟩
    show mm_b _ _ _ _ _ [some (.ref 46), some (.int (xs 1)), some (.int (xs 2))] [] ((fun _ => false, 0, 0, true, false, ad), (zI_563 xs), (fun _ _ => 0))
    refine mm_tk (c := (0 : Int32) = 0) (d := ¬ (0 : Int32) = 0) (by decide) ?_
    show mm_u _ _ _ _ _ _ [some (.ref 46), some (.int (xs 1)), some (.int (xs 2))] [] ((fun _ => false, 0, 0, true, false, ad), (zI_563 xs), (fun _ _ => 0))
    refine mm_iv 600 (by rfl) ?_
    show mm_k _ _ _ _ _ [some (.ref 46), some (.int 1)] [] ((fun _ => false, 0, 0, true, false, ad), (zI_563 xs), (fun _ _ => 0))
    refine mm_q1 (r := (-1)) ⟨rfl, ?_⟩
    show mm_b _ _ _ _ _ [some (.ref 46), none, none] [.int (-1)] ((fun _ => false, 0, 0, true, false, ad), (zI_564 xs), (fun _ _ => 0))
    refine mm_q1 (r := (-1)) ?_
    show mm_b _ _ _ _ _ [some (.ref 68), some (.ref 0), some (.ref 46), some (.ref 65), some (.int 0), none, none] [.int (-1), .int (-1)] ((fun _ => false, 599936, 6869426, true, false, ad), (zI_564 xs), (fun _ _ => 0))
    refine mm_tk (c := ((-1) : Int32) = (-1)) (d := ¬ ((-1) : Int32) = (-1)) (by decide) ?_
    show mm_u _ _ _ _ _ _ [some (.ref 68), some (.ref 0), some (.ref 46), some (.ref 65), some (.int 0), none, none] [] ((fun _ => false, 599936, 6869426, true, false, ad), (zI_564 xs), (fun _ _ => 0))
    refine mm_tk (c := (((nI 6) - 6) : Int32) < 6) (d := ¬ (((nI 6) - 6) : Int32) < 6) (by decide) ?_
    show mm_u _ _ _ _ _ _ [some (.ref 68), some (.ref 0), some (.ref 46), some (.ref 65), some (.int 6), none, none] [] ((fun _ => false, 599936, 6869426, true, false, ad), (zI_564 xs), (fun _ _ => 0))
    refine mm_ob (P := (1 : Int32) = 0 ∨ (1 : Int32) = 1) (by decide) ?_
    exact rfl
def zI_578 (xs : Nat → Int32) : mmI := mm_up (mm_I0 6 (mm_xat xs 1 0)) 46 0 0
set_option maxRecDepth 20000 in
set_option maxHeartbeats 4000000 in
theorem op_40_0 (ad : Nat → Nat) (xs : Nat → Int32) : mm_w (fun v _ => v = some (.int 1)) (mm_wc 210) bk_law 1293 [some (.ref 68), some (.ref 0), some (.ref 46), some (.ref 65), some (.int 0), none, none] [] (mm_s0 ad 6 (mm_xat xs 1 0)) := by
  refine mm_go [] 600 ?_
  refine mm_ob (P := vp_in 1 (nI 6).toNatClampNeg) (mm_inl (by decide)) ?_
  show mm_b _ _ _ _ _ [some (.ref 68), some (.ref 0), some (.ref 46), some (.ref 65), some (.int 0), none, none] [.int 0, .ref 0] ((fun _ => false, 599936, 6869426, true, false, ad), (mm_I0 6 (mm_xat xs 1 0)), (fun _ _ => 0))
  refine mm_e1 ?_
  refine mm_iv 600 (by rfl) ?_
  show mm_k _ _ _ _ _ [some (.ref 0), some (.int 0)] [] ((fun _ => false, 0, 0, true, false, ad), (mm_I0 6 (mm_xat xs 1 0)), (fun _ _ => 0))
  refine mm_swo (x := 0) (by decide) ?_
  refine mm_iv 600 (by rfl) ?_
  show mm_k _ _ _ _ _ [some (.ref 0), some (.int 0)] [] ((fun _ => false, 0, 0, true, false, ad), (mm_I0 6 (mm_xat xs 1 0)), (fun _ _ => 0))
  refine mm_el (c := (0 : Int32) < 0) (d := ¬ (0 : Int32) < 0) (by decide) ?_
  show mm_b _ _ _ _ _ [some (.ref 0), some (.int 0)] [] ((fun _ => false, 0, 0, true, false, ad), (mm_I0 6 (mm_xat xs 1 0)), (fun _ _ => 0))
  refine mm_tk (c := (0 : Int32) ≤ 7) (d := ¬ (0 : Int32) ≤ 7) (by decide) ?_
  show mm_u _ _ _ _ _ _ [some (.ref 0), some (.int 0)] [] ((fun _ => false, 0, 0, true, false, ad), (mm_I0 6 (mm_xat xs 1 0)), (fun _ _ => 0))
  refine mm_el (c := ¬ (0 : Int32) = 0) (d := (0 : Int32) = 0) (by decide) ?_
  show mm_b _ _ _ _ _ [some (.ref 0), some (.int 0)] [] ((fun _ => false, 0, 0, true, false, ad), (mm_I0 6 (mm_xat xs 1 0)), (fun _ _ => 0))
  refine mm_q1 (r := 0) ⟨rfl, ?_⟩
  show mm_b _ _ _ _ _ [some (.ref 0), some (.int 0)] [.int 0] ((fun _ => false, 0, 0, true, false, ad), (mm_I0 6 (mm_xat xs 1 0)), (fun _ _ => 0))
  refine mm_q1 (r := 0) ?_
  show mm_b _ _ _ _ _ [some (.ref 68), some (.ref 0), some (.ref 46), some (.ref 65), some (.int 0), none, none] [.int 0] ((fun _ => false, 599936, 6869426, true, false, ad), (mm_I0 6 (mm_xat xs 1 0)), (fun _ _ => 0))
  refine mm_ob (P := vp_in 1 (nI 6).toNatClampNeg) (mm_inl (by decide)) ?_
  show mm_b _ _ _ _ _ [some (.ref 68), some (.ref 0), some (.ref 46), some (.ref 65), some (.int 0), none, none] [.int 0, .ref 46, .int 0] ((fun _ => false, 599936, 6869426, true, false, ad), (mm_I0 6 (mm_xat xs 1 0)), (fun _ _ => 0))
  refine mm_e1 ?_
  refine mm_iv 600 (by rfl) ?_
  show mm_k _ _ _ _ _ [some (.ref 46), some (.int 0)] [] ((fun _ => false, 0, 0, true, false, ad), (mm_I0 6 (mm_xat xs 1 0)), (fun _ _ => 0))
  refine mm_tk (c := ¬ (0 : Int32) = 10) (d := (0 : Int32) = 10) (by decide) ?_
  show mm_u _ _ _ _ _ _ [some (.ref 46), some (.int 0)] [] ((fun _ => false, 0, 0, true, false, ad), (zI_578 xs), (fun _ _ => 0))
  refine mm_el (c := ¬ (0 : Int32) = 0) (d := (0 : Int32) = 0) (by decide) ?_
  show mm_b _ _ _ _ _ [some (.ref 46), some (.int 0)] [] ((fun _ => false, 0, 0, true, false, ad), (zI_578 xs), (fun _ _ => 0))
  refine mm_iv 600 (by rfl) ?_
  show mm_k _ _ _ _ _ [some (.int 0), some (.int 0), some (.int 9)] [] ((fun _ => false, 0, 0, true, false, ad), (zI_578 xs), (fun _ _ => 0))
  refine mm_el (c := (0 : Int32) < 0) (d := ¬ (0 : Int32) < 0) (by decide) ?_
  show mm_b _ _ _ _ _ [some (.int 0), some (.int 0), some (.int 9)] [] ((fun _ => false, 0, 0, true, false, ad), (zI_578 xs), (fun _ _ => 0))
  refine mm_el (c := (9 : Int32) < 0) (d := ¬ (9 : Int32) < 0) (by decide) ?_
  show mm_b _ _ _ _ _ [some (.int 0), some (.int 0), some (.int 9)] [] ((fun _ => false, 0, 0, true, false, ad), (zI_578 xs), (fun _ _ => 0))
  refine mm_ob (P := (1 : Int32) = 0 ∨ (1 : Int32) = 1) (by decide) ?_
  refine mm_q1 (r := 1) ⟨rfl, ?_⟩
  show mm_b _ _ _ _ _ [some (.ref 46), some (.int 0)] [.int 1] ((fun _ => false, 0, 0, true, false, ad), (zI_578 xs), (fun _ _ => 0))
  refine mm_el (c := (1 : Int32) = 0) (d := ¬ (1 : Int32) = 0) (by decide) ?_
  show mm_b _ _ _ _ _ [some (.ref 46), some (.int 0)] [] ((fun _ => false, 0, 0, true, false, ad), (zI_578 xs), (fun _ _ => 0))
  refine mm_q1 (r := 0) ?_
  show mm_b _ _ _ _ _ [some (.ref 68), some (.ref 0), some (.ref 46), some (.ref 65), some (.int 0), none, none] [.int 0, .int 0] ((fun _ => false, 599936, 6869426, true, false, ad), (zI_578 xs), (fun _ _ => 0))
  refine mm_tk (c := (0 : Int32) = 0) (d := ¬ (0 : Int32) = 0) (by decide) ?_
  show mm_u _ _ _ _ _ _ [some (.ref 68), some (.ref 0), some (.ref 46), some (.ref 65), some (.int 0), none, none] [] ((fun _ => false, 599936, 6869426, true, false, ad), (zI_578 xs), (fun _ _ => 0))
  refine mm_tk (c := (((nI 6) - 6) : Int32) < 6) (d := ¬ (((nI 6) - 6) : Int32) < 6) (by decide) ?_
  show mm_u _ _ _ _ _ _ [some (.ref 68), some (.ref 0), some (.ref 46), some (.ref 65), some (.int 6), none, none] [] ((fun _ => false, 599936, 6869426, true, false, ad), (zI_578 xs), (fun _ _ => 0))
  refine mm_ob (P := (1 : Int32) = 0 ∨ (1 : Int32) = 1) (by decide) ?_
  exact rfl
def zI_579 (xs : Nat → Int32) : mmI := mm_up (mm_I0 6 (mm_xat xs 1 1)) 46 0 0
set_option maxRecDepth 20000 in
set_option maxHeartbeats 4000000 in
theorem op_40_1 (ad : Nat → Nat) (xs : Nat → Int32) : mm_w (fun v _ => v = some (.int 1)) (mm_wc 210) bk_law 1293 [some (.ref 68), some (.ref 0), some (.ref 46), some (.ref 65), some (.int 0), none, none] [] (mm_s0 ad 6 (mm_xat xs 1 1)) := by
  refine mm_go [] 600 ?_
  refine mm_ob (P := vp_in 1 (nI 6).toNatClampNeg) (mm_inl (by decide)) ?_
  show mm_b _ _ _ _ _ [some (.ref 68), some (.ref 0), some (.ref 46), some (.ref 65), some (.int 0), none, none] [.int 1, .ref 0] ((fun _ => false, 599936, 6869426, true, false, ad), (mm_I0 6 (mm_xat xs 1 1)), (fun _ _ => 0))
  refine mm_e1 ?_
  refine mm_iv 600 (by rfl) ?_
  show mm_k _ _ _ _ _ [some (.ref 0), some (.int 1)] [] ((fun _ => false, 0, 0, true, false, ad), (mm_I0 6 (mm_xat xs 1 1)), (fun _ _ => 0))
  refine mm_swo (x := 1) (by decide) ?_
  refine mm_iv 600 (by rfl) ?_
  show mm_k _ _ _ _ _ [some (.ref 0), some (.int 1)] [] ((fun _ => false, 0, 0, true, false, ad), (mm_I0 6 (mm_xat xs 1 1)), (fun _ _ => 0))
  refine mm_el (c := (1 : Int32) < 0) (d := ¬ (1 : Int32) < 0) (by decide) ?_
  show mm_b _ _ _ _ _ [some (.ref 0), some (.int 1)] [] ((fun _ => false, 0, 0, true, false, ad), (mm_I0 6 (mm_xat xs 1 1)), (fun _ _ => 0))
  refine mm_tk (c := (1 : Int32) ≤ 7) (d := ¬ (1 : Int32) ≤ 7) (by decide) ?_
  show mm_u _ _ _ _ _ _ [some (.ref 0), some (.int 1)] [] ((fun _ => false, 0, 0, true, false, ad), (mm_I0 6 (mm_xat xs 1 1)), (fun _ _ => 0))
  refine mm_el (c := ¬ (0 : Int32) = 0) (d := (0 : Int32) = 0) (by decide) ?_
  show mm_b _ _ _ _ _ [some (.ref 0), some (.int 1)] [] ((fun _ => false, 0, 0, true, false, ad), (mm_I0 6 (mm_xat xs 1 1)), (fun _ _ => 0))
  refine mm_q1 (r := 0) ⟨rfl, ?_⟩
  show mm_b _ _ _ _ _ [some (.ref 0), some (.int 1)] [.int 0] ((fun _ => false, 0, 0, true, false, ad), (mm_I0 6 (mm_xat xs 1 1)), (fun _ _ => 0))
  refine mm_q1 (r := 0) ?_
  show mm_b _ _ _ _ _ [some (.ref 68), some (.ref 0), some (.ref 46), some (.ref 65), some (.int 0), none, none] [.int 0] ((fun _ => false, 599936, 6869426, true, false, ad), (mm_I0 6 (mm_xat xs 1 1)), (fun _ _ => 0))
  refine mm_ob (P := vp_in 1 (nI 6).toNatClampNeg) (mm_inl (by decide)) ?_
  show mm_b _ _ _ _ _ [some (.ref 68), some (.ref 0), some (.ref 46), some (.ref 65), some (.int 0), none, none] [.int 1, .ref 46, .int 0] ((fun _ => false, 599936, 6869426, true, false, ad), (mm_I0 6 (mm_xat xs 1 1)), (fun _ _ => 0))
  refine mm_e1 ?_
  refine mm_iv 600 (by rfl) ?_
  show mm_k _ _ _ _ _ [some (.ref 46), some (.int 1)] [] ((fun _ => false, 0, 0, true, false, ad), (mm_I0 6 (mm_xat xs 1 1)), (fun _ _ => 0))
  refine mm_tk (c := ¬ (1 : Int32) = 10) (d := (1 : Int32) = 10) (by decide) ?_
  show mm_u _ _ _ _ _ _ [some (.ref 46), some (.int 1)] [] ((fun _ => false, 0, 0, true, false, ad), (zI_579 xs), (fun _ _ => 0))
  refine mm_el (c := ¬ (0 : Int32) = 0) (d := (0 : Int32) = 0) (by decide) ?_
  show mm_b _ _ _ _ _ [some (.ref 46), some (.int 1)] [] ((fun _ => false, 0, 0, true, false, ad), (zI_579 xs), (fun _ _ => 0))
  refine mm_iv 600 (by rfl) ?_
  show mm_k _ _ _ _ _ [some (.int 1), some (.int 0), some (.int 9)] [] ((fun _ => false, 0, 0, true, false, ad), (zI_579 xs), (fun _ _ => 0))
  refine mm_el (c := (1 : Int32) < 0) (d := ¬ (1 : Int32) < 0) (by decide) ?_
  show mm_b _ _ _ _ _ [some (.int 1), some (.int 0), some (.int 9)] [] ((fun _ => false, 0, 0, true, false, ad), (zI_579 xs), (fun _ _ => 0))
  refine mm_el (c := (9 : Int32) < 1) (d := ¬ (9 : Int32) < 1) (by decide) ?_
  show mm_b _ _ _ _ _ [some (.int 1), some (.int 0), some (.int 9)] [] ((fun _ => false, 0, 0, true, false, ad), (zI_579 xs), (fun _ _ => 0))
  refine mm_ob (P := (1 : Int32) = 0 ∨ (1 : Int32) = 1) (by decide) ?_
  refine mm_q1 (r := 1) ⟨rfl, ?_⟩
  show mm_b _ _ _ _ _ [some (.ref 46), some (.int 1)] [.int 1] ((fun _ => false, 0, 0, true, false, ad), (zI_579 xs), (fun _ _ => 0))
  refine mm_el (c := (1 : Int32) = 0) (d := ¬ (1 : Int32) = 0) (by decide) ?_
  show mm_b _ _ _ _ _ [some (.ref 46), some (.int 1)] [] ((fun _ => false, 0, 0, true, false, ad), (zI_579 xs), (fun _ _ => 0))
  refine mm_q1 (r := 0) ?_
  show mm_b _ _ _ _ _ [some (.ref 68), some (.ref 0), some (.ref 46), some (.ref 65), some (.int 0), none, none] [.int 0, .int 0] ((fun _ => false, 599936, 6869426, true, false, ad), (zI_579 xs), (fun _ _ => 0))
  refine mm_tk (c := (0 : Int32) = 0) (d := ¬ (0 : Int32) = 0) (by decide) ?_
  show mm_u _ _ _ _ _ _ [some (.ref 68), some (.ref 0), some (.ref 46), some (.ref 65), some (.int 0), none, none] [] ((fun _ => false, 599936, 6869426, true, false, ad), (zI_579 xs), (fun _ _ => 0))
  refine mm_tk (c := (((nI 6) - 6) : Int32) < 6) (d := ¬ (((nI 6) - 6) : Int32) < 6) (by decide) ?_
  show mm_u _ _ _ _ _ _ [some (.ref 68), some (.ref 0), some (.ref 46), some (.ref 65), some (.int 6), none, none] [] ((fun _ => false, 599936, 6869426, true, false, ad), (zI_579 xs), (fun _ _ => 0))
  refine mm_ob (P := (1 : Int32) = 0 ∨ (1 : Int32) = 1) (by decide) ?_
  exact rfl
def zI_580 (xs : Nat → Int32) : mmI := mm_up (mm_I0 6 (mm_xat xs 1 2)) 46 0 0
set_option maxRecDepth 20000 in
set_option maxHeartbeats 4000000 in
theorem op_40_2 (ad : Nat → Nat) (xs : Nat → Int32) : mm_w (fun v _ => v = some (.int 1)) (mm_wc 210) bk_law 1293 [some (.ref 68), some (.ref 0), some (.ref 46), some (.ref 65), some (.int 0), none, none] [] (mm_s0 ad 6 (mm_xat xs 1 2)) := by
  refine mm_go [] 600 ?_
  refine mm_ob (P := vp_in 1 (nI 6).toNatClampNeg) (mm_inl (by decide)) ?_
  show mm_b _ _ _ _ _ [some (.ref 68), some (.ref 0), some (.ref 46), some (.ref 65), some (.int 0), none, none] [.int 2, .ref 0] ((fun _ => false, 599936, 6869426, true, false, ad), (mm_I0 6 (mm_xat xs 1 2)), (fun _ _ => 0))
  refine mm_e1 ?_
  refine mm_iv 600 (by rfl) ?_
  show mm_k _ _ _ _ _ [some (.ref 0), some (.int 2)] [] ((fun _ => false, 0, 0, true, false, ad), (mm_I0 6 (mm_xat xs 1 2)), (fun _ _ => 0))
  refine mm_swo (x := 2) (by decide) ?_
  refine mm_iv 600 (by rfl) ?_
  show mm_k _ _ _ _ _ [some (.ref 0), some (.int 2)] [] ((fun _ => false, 0, 0, true, false, ad), (mm_I0 6 (mm_xat xs 1 2)), (fun _ _ => 0))
  refine mm_el (c := (2 : Int32) < 0) (d := ¬ (2 : Int32) < 0) (by decide) ?_
  show mm_b _ _ _ _ _ [some (.ref 0), some (.int 2)] [] ((fun _ => false, 0, 0, true, false, ad), (mm_I0 6 (mm_xat xs 1 2)), (fun _ _ => 0))
  refine mm_tk (c := (2 : Int32) ≤ 7) (d := ¬ (2 : Int32) ≤ 7) (by decide) ?_
  show mm_u _ _ _ _ _ _ [some (.ref 0), some (.int 2)] [] ((fun _ => false, 0, 0, true, false, ad), (mm_I0 6 (mm_xat xs 1 2)), (fun _ _ => 0))
  refine mm_el (c := ¬ (0 : Int32) = 0) (d := (0 : Int32) = 0) (by decide) ?_
  show mm_b _ _ _ _ _ [some (.ref 0), some (.int 2)] [] ((fun _ => false, 0, 0, true, false, ad), (mm_I0 6 (mm_xat xs 1 2)), (fun _ _ => 0))
  refine mm_q1 (r := 0) ⟨rfl, ?_⟩
  show mm_b _ _ _ _ _ [some (.ref 0), some (.int 2)] [.int 0] ((fun _ => false, 0, 0, true, false, ad), (mm_I0 6 (mm_xat xs 1 2)), (fun _ _ => 0))
  refine mm_q1 (r := 0) ?_
  show mm_b _ _ _ _ _ [some (.ref 68), some (.ref 0), some (.ref 46), some (.ref 65), some (.int 0), none, none] [.int 0] ((fun _ => false, 599936, 6869426, true, false, ad), (mm_I0 6 (mm_xat xs 1 2)), (fun _ _ => 0))
  refine mm_ob (P := vp_in 1 (nI 6).toNatClampNeg) (mm_inl (by decide)) ?_
  show mm_b _ _ _ _ _ [some (.ref 68), some (.ref 0), some (.ref 46), some (.ref 65), some (.int 0), none, none] [.int 2, .ref 46, .int 0] ((fun _ => false, 599936, 6869426, true, false, ad), (mm_I0 6 (mm_xat xs 1 2)), (fun _ _ => 0))
  refine mm_e1 ?_
  refine mm_iv 600 (by rfl) ?_
  show mm_k _ _ _ _ _ [some (.ref 46), some (.int 2)] [] ((fun _ => false, 0, 0, true, false, ad), (mm_I0 6 (mm_xat xs 1 2)), (fun _ _ => 0))
  refine mm_tk (c := ¬ (2 : Int32) = 10) (d := (2 : Int32) = 10) (by decide) ?_
  show mm_u _ _ _ _ _ _ [some (.ref 46), some (.int 2)] [] ((fun _ => false, 0, 0, true, false, ad), (zI_580 xs), (fun _ _ => 0))
  refine mm_el (c := ¬ (0 : Int32) = 0) (d := (0 : Int32) = 0) (by decide) ?_
  show mm_b _ _ _ _ _ [some (.ref 46), some (.int 2)] [] ((fun _ => false, 0, 0, true, false, ad), (zI_580 xs), (fun _ _ => 0))
  refine mm_iv 600 (by rfl) ?_
  show mm_k _ _ _ _ _ [some (.int 2), some (.int 0), some (.int 9)] [] ((fun _ => false, 0, 0, true, false, ad), (zI_580 xs), (fun _ _ => 0))
  refine mm_el (c := (2 : Int32) < 0) (d := ¬ (2 : Int32) < 0) (by decide) ?_
  show mm_b _ _ _ _ _ [some (.int 2), some (.int 0), some (.int 9)] [] ((fun _ => false, 0, 0, true, false, ad), (zI_580 xs), (fun _ _ => 0))
  refine mm_el (c := (9 : Int32) < 2) (d := ¬ (9 : Int32) < 2) (by decide) ?_
  show mm_b _ _ _ _ _ [some (.int 2), some (.int 0), some (.int 9)] [] ((fun _ => false, 0, 0, true, false, ad), (zI_580 xs), (fun _ _ => 0))
  refine mm_ob (P := (1 : Int32) = 0 ∨ (1 : Int32) = 1) (by decide) ?_
  refine mm_q1 (r := 1) ⟨rfl, ?_⟩
  show mm_b _ _ _ _ _ [some (.ref 46), some (.int 2)] [.int 1] ((fun _ => false, 0, 0, true, false, ad), (zI_580 xs), (fun _ _ => 0))
  refine mm_el (c := (1 : Int32) = 0) (d := ¬ (1 : Int32) = 0) (by decide) ?_
  show mm_b _ _ _ _ _ [some (.ref 46), some (.int 2)] [] ((fun _ => false, 0, 0, true, false, ad), (zI_580 xs), (fun _ _ => 0))
  refine mm_q1 (r := 0) ?_
  show mm_b _ _ _ _ _ [some (.ref 68), some (.ref 0), some (.ref 46), some (.ref 65), some (.int 0), none, none] [.int 0, .int 0] ((fun _ => false, 599936, 6869426, true, false, ad), (zI_580 xs), (fun _ _ => 0))
  refine mm_tk (c := (0 : Int32) = 0) (d := ¬ (0 : Int32) = 0) (by decide) ?_
  show mm_u _ _ _ _ _ _ [some (.ref 68), some (.ref 0), some (.ref 46), some (.ref 65), some (.int 0), none, none] [] ((fun _ => false, 599936, 6869426, true, false, ad), (zI_580 xs), (fun _ _ => 0))
  refine mm_tk (c := (((nI 6) - 6) : Int32) < 6) (d := ¬ (((nI 6) - 6) : Int32) < 6) (by decide) ?_
  show mm_u _ _ _ _ _ _ [some (.ref 68), some (.ref 0), some (.ref 46), some (.ref 65), some (.int 6), none, none] [] ((fun _ => false, 599936, 6869426, true, false, ad), (zI_580 xs), (fun _ _ => 0))
  refine mm_ob (P := (1 : Int32) = 0 ∨ (1 : Int32) = 1) (by decide) ?_
  exact rfl
def zI_581 (xs : Nat → Int32) : mmI := mm_up (mm_I0 6 (mm_xat xs 1 3)) 46 0 0
set_option maxRecDepth 20000 in
set_option maxHeartbeats 4000000 in
theorem op_40_3 (ad : Nat → Nat) (xs : Nat → Int32) : mm_w (fun v _ => v = some (.int 1)) (mm_wc 210) bk_law 1293 [some (.ref 68), some (.ref 0), some (.ref 46), some (.ref 65), some (.int 0), none, none] [] (mm_s0 ad 6 (mm_xat xs 1 3)) := by
  refine mm_go [] 600 ?_
  refine mm_ob (P := vp_in 1 (nI 6).toNatClampNeg) (mm_inl (by decide)) ?_
  show mm_b _ _ _ _ _ [some (.ref 68), some (.ref 0), some (.ref 46), some (.ref 65), some (.int 0), none, none] [.int 3, .ref 0] ((fun _ => false, 599936, 6869426, true, false, ad), (mm_I0 6 (mm_xat xs 1 3)), (fun _ _ => 0))
  refine mm_e1 ?_
  refine mm_iv 600 (by rfl) ?_
  show mm_k _ _ _ _ _ [some (.ref 0), some (.int 3)] [] ((fun _ => false, 0, 0, true, false, ad), (mm_I0 6 (mm_xat xs 1 3)), (fun _ _ => 0))
  refine mm_swo (x := 3) (by decide) ?_
  refine mm_iv 600 (by rfl) ?_
  show mm_k _ _ _ _ _ [some (.ref 0), some (.int 3)] [] ((fun _ => false, 0, 0, true, false, ad), (mm_I0 6 (mm_xat xs 1 3)), (fun _ _ => 0))
  refine mm_el (c := (3 : Int32) < 0) (d := ¬ (3 : Int32) < 0) (by decide) ?_
  show mm_b _ _ _ _ _ [some (.ref 0), some (.int 3)] [] ((fun _ => false, 0, 0, true, false, ad), (mm_I0 6 (mm_xat xs 1 3)), (fun _ _ => 0))
  refine mm_tk (c := (3 : Int32) ≤ 7) (d := ¬ (3 : Int32) ≤ 7) (by decide) ?_
  show mm_u _ _ _ _ _ _ [some (.ref 0), some (.int 3)] [] ((fun _ => false, 0, 0, true, false, ad), (mm_I0 6 (mm_xat xs 1 3)), (fun _ _ => 0))
  refine mm_el (c := ¬ (0 : Int32) = 0) (d := (0 : Int32) = 0) (by decide) ?_
  show mm_b _ _ _ _ _ [some (.ref 0), some (.int 3)] [] ((fun _ => false, 0, 0, true, false, ad), (mm_I0 6 (mm_xat xs 1 3)), (fun _ _ => 0))
  refine mm_q1 (r := 0) ⟨rfl, ?_⟩
  show mm_b _ _ _ _ _ [some (.ref 0), some (.int 3)] [.int 0] ((fun _ => false, 0, 0, true, false, ad), (mm_I0 6 (mm_xat xs 1 3)), (fun _ _ => 0))
  refine mm_q1 (r := 0) ?_
  show mm_b _ _ _ _ _ [some (.ref 68), some (.ref 0), some (.ref 46), some (.ref 65), some (.int 0), none, none] [.int 0] ((fun _ => false, 599936, 6869426, true, false, ad), (mm_I0 6 (mm_xat xs 1 3)), (fun _ _ => 0))
  refine mm_ob (P := vp_in 1 (nI 6).toNatClampNeg) (mm_inl (by decide)) ?_
  show mm_b _ _ _ _ _ [some (.ref 68), some (.ref 0), some (.ref 46), some (.ref 65), some (.int 0), none, none] [.int 3, .ref 46, .int 0] ((fun _ => false, 599936, 6869426, true, false, ad), (mm_I0 6 (mm_xat xs 1 3)), (fun _ _ => 0))
  refine mm_e1 ?_
  refine mm_iv 600 (by rfl) ?_
  show mm_k _ _ _ _ _ [some (.ref 46), some (.int 3)] [] ((fun _ => false, 0, 0, true, false, ad), (mm_I0 6 (mm_xat xs 1 3)), (fun _ _ => 0))
  refine mm_tk (c := ¬ (3 : Int32) = 10) (d := (3 : Int32) = 10) (by decide) ?_
  show mm_u _ _ _ _ _ _ [some (.ref 46), some (.int 3)] [] ((fun _ => false, 0, 0, true, false, ad), (zI_581 xs), (fun _ _ => 0))
  refine mm_el (c := ¬ (0 : Int32) = 0) (d := (0 : Int32) = 0) (by decide) ?_
  show mm_b _ _ _ _ _ [some (.ref 46), some (.int 3)] [] ((fun _ => false, 0, 0, true, false, ad), (zI_581 xs), (fun _ _ => 0))
  refine mm_iv 600 (by rfl) ?_
  show mm_k _ _ _ _ _ [some (.int 3), some (.int 0), some (.int 9)] [] ((fun _ => false, 0, 0, true, false, ad), (zI_581 xs), (fun _ _ => 0))
  refine mm_el (c := (3 : Int32) < 0) (d := ¬ (3 : Int32) < 0) (by decide) ?_
  show mm_b _ _ _ _ _ [some (.int 3), some (.int 0), some (.int 9)] [] ((fun _ => false, 0, 0, true, false, ad), (zI_581 xs), (fun _ _ => 0))
  refine mm_el (c := (9 : Int32) < 3) (d := ¬ (9 : Int32) < 3) (by decide) ?_
  show mm_b _ _ _ _ _ [some (.int 3), some (.int 0), some (.int 9)] [] ((fun _ => false, 0, 0, true, false, ad), (zI_581 xs), (fun _ _ => 0))
  refine mm_ob (P := (1 : Int32) = 0 ∨ (1 : Int32) = 1) (by decide) ?_
  refine mm_q1 (r := 1) ⟨rfl, ?_⟩
  show mm_b _ _ _ _ _ [some (.ref 46), some (.int 3)] [.int 1] ((fun _ => false, 0, 0, true, false, ad), (zI_581 xs), (fun _ _ => 0))
  refine mm_el (c := (1 : Int32) = 0) (d := ¬ (1 : Int32) = 0) (by decide) ?_
  show mm_b _ _ _ _ _ [some (.ref 46), some (.int 3)] [] ((fun _ => false, 0, 0, true, false, ad), (zI_581 xs), (fun _ _ => 0))
  refine mm_q1 (r := 0) ?_
  show mm_b _ _ _ _ _ [some (.ref 68), some (.ref 0), some (.ref 46), some (.ref 65), some (.int 0), none, none] [.int 0, .int 0] ((fun _ => false, 599936, 6869426, true, false, ad), (zI_581 xs), (fun _ _ => 0))
  refine mm_tk (c := (0 : Int32) = 0) (d := ¬ (0 : Int32) = 0) (by decide) ?_
  show mm_u _ _ _ _ _ _ [some (.ref 68), some (.ref 0), some (.ref 46), some (.ref 65), some (.int 0), none, none] [] ((fun _ => false, 599936, 6869426, true, false, ad), (zI_581 xs), (fun _ _ => 0))
  refine mm_tk (c := (((nI 6) - 6) : Int32) < 6) (d := ¬ (((nI 6) - 6) : Int32) < 6) (by decide) ?_
  show mm_u _ _ _ _ _ _ [some (.ref 68), some (.ref 0), some (.ref 46), some (.ref 65), some (.int 6), none, none] [] ((fun _ => false, 599936, 6869426, true, false, ad), (zI_581 xs), (fun _ _ => 0))
  refine mm_ob (P := (1 : Int32) = 0 ∨ (1 : Int32) = 1) (by decide) ?_
  exact rfl
def zI_582 (xs : Nat → Int32) : mmI := mm_up (mm_I0 6 (mm_xat xs 1 4)) 46 0 0
set_option maxRecDepth 20000 in
set_option maxHeartbeats 4000000 in
theorem op_40_4 (ad : Nat → Nat) (xs : Nat → Int32) : mm_w (fun v _ => v = some (.int 1)) (mm_wc 210) bk_law 1293 [some (.ref 68), some (.ref 0), some (.ref 46), some (.ref 65), some (.int 0), none, none] [] (mm_s0 ad 6 (mm_xat xs 1 4)) := by
  refine mm_go [] 600 ?_
  refine mm_ob (P := vp_in 1 (nI 6).toNatClampNeg) (mm_inl (by decide)) ?_
  show mm_b _ _ _ _ _ [some (.ref 68), some (.ref 0), some (.ref 46), some (.ref 65), some (.int 0), none, none] [.int 4, .ref 0] ((fun _ => false, 599936, 6869426, true, false, ad), (mm_I0 6 (mm_xat xs 1 4)), (fun _ _ => 0))
  refine mm_e1 ?_
  refine mm_iv 600 (by rfl) ?_
  show mm_k _ _ _ _ _ [some (.ref 0), some (.int 4)] [] ((fun _ => false, 0, 0, true, false, ad), (mm_I0 6 (mm_xat xs 1 4)), (fun _ _ => 0))
  refine mm_swo (x := 4) (by decide) ?_
  refine mm_iv 600 (by rfl) ?_
  show mm_k _ _ _ _ _ [some (.ref 0), some (.int 4)] [] ((fun _ => false, 0, 0, true, false, ad), (mm_I0 6 (mm_xat xs 1 4)), (fun _ _ => 0))
  refine mm_el (c := (4 : Int32) < 0) (d := ¬ (4 : Int32) < 0) (by decide) ?_
  show mm_b _ _ _ _ _ [some (.ref 0), some (.int 4)] [] ((fun _ => false, 0, 0, true, false, ad), (mm_I0 6 (mm_xat xs 1 4)), (fun _ _ => 0))
  refine mm_tk (c := (4 : Int32) ≤ 7) (d := ¬ (4 : Int32) ≤ 7) (by decide) ?_
  show mm_u _ _ _ _ _ _ [some (.ref 0), some (.int 4)] [] ((fun _ => false, 0, 0, true, false, ad), (mm_I0 6 (mm_xat xs 1 4)), (fun _ _ => 0))
  refine mm_el (c := ¬ (0 : Int32) = 0) (d := (0 : Int32) = 0) (by decide) ?_
  show mm_b _ _ _ _ _ [some (.ref 0), some (.int 4)] [] ((fun _ => false, 0, 0, true, false, ad), (mm_I0 6 (mm_xat xs 1 4)), (fun _ _ => 0))
  refine mm_q1 (r := 0) ⟨rfl, ?_⟩
  show mm_b _ _ _ _ _ [some (.ref 0), some (.int 4)] [.int 0] ((fun _ => false, 0, 0, true, false, ad), (mm_I0 6 (mm_xat xs 1 4)), (fun _ _ => 0))
  refine mm_q1 (r := 0) ?_
  show mm_b _ _ _ _ _ [some (.ref 68), some (.ref 0), some (.ref 46), some (.ref 65), some (.int 0), none, none] [.int 0] ((fun _ => false, 599936, 6869426, true, false, ad), (mm_I0 6 (mm_xat xs 1 4)), (fun _ _ => 0))
  refine mm_ob (P := vp_in 1 (nI 6).toNatClampNeg) (mm_inl (by decide)) ?_
  show mm_b _ _ _ _ _ [some (.ref 68), some (.ref 0), some (.ref 46), some (.ref 65), some (.int 0), none, none] [.int 4, .ref 46, .int 0] ((fun _ => false, 599936, 6869426, true, false, ad), (mm_I0 6 (mm_xat xs 1 4)), (fun _ _ => 0))
  refine mm_e1 ?_
  refine mm_iv 600 (by rfl) ?_
  show mm_k _ _ _ _ _ [some (.ref 46), some (.int 4)] [] ((fun _ => false, 0, 0, true, false, ad), (mm_I0 6 (mm_xat xs 1 4)), (fun _ _ => 0))
  refine mm_tk (c := ¬ (4 : Int32) = 10) (d := (4 : Int32) = 10) (by decide) ?_
  show mm_u _ _ _ _ _ _ [some (.ref 46), some (.int 4)] [] ((fun _ => false, 0, 0, true, false, ad), (zI_582 xs), (fun _ _ => 0))
  refine mm_el (c := ¬ (0 : Int32) = 0) (d := (0 : Int32) = 0) (by decide) ?_
  show mm_b _ _ _ _ _ [some (.ref 46), some (.int 4)] [] ((fun _ => false, 0, 0, true, false, ad), (zI_582 xs), (fun _ _ => 0))
  refine mm_iv 600 (by rfl) ?_
  show mm_k _ _ _ _ _ [some (.int 4), some (.int 0), some (.int 9)] [] ((fun _ => false, 0, 0, true, false, ad), (zI_582 xs), (fun _ _ => 0))
  refine mm_el (c := (4 : Int32) < 0) (d := ¬ (4 : Int32) < 0) (by decide) ?_
  show mm_b _ _ _ _ _ [some (.int 4), some (.int 0), some (.int 9)] [] ((fun _ => false, 0, 0, true, false, ad), (zI_582 xs), (fun _ _ => 0))
  refine mm_el (c := (9 : Int32) < 4) (d := ¬ (9 : Int32) < 4) (by decide) ?_
  show mm_b _ _ _ _ _ [some (.int 4), some (.int 0), some (.int 9)] [] ((fun _ => false, 0, 0, true, false, ad), (zI_582 xs), (fun _ _ => 0))
  refine mm_ob (P := (1 : Int32) = 0 ∨ (1 : Int32) = 1) (by decide) ?_
  refine mm_q1 (r := 1) ⟨rfl, ?_⟩
  show mm_b _ _ _ _ _ [some (.ref 46), some (.int 4)] [.int 1] ((fun _ => false, 0, 0, true, false, ad), (zI_582 xs), (fun _ _ => 0))
  refine mm_el (c := (1 : Int32) = 0) (d := ¬ (1 : Int32) = 0) (by decide) ?_
  show mm_b _ _ _ _ _ [some (.ref 46), some (.int 4)] [] ((fun _ => false, 0, 0, true, false, ad), (zI_582 xs), (fun _ _ => 0))
  refine mm_q1 (r := 0) ?_
  show mm_b _ _ _ _ _ [some (.ref 68), some (.ref 0), some (.ref 46), some (.ref 65), some (.int 0), none, none] [.int 0, .int 0] ((fun _ => false, 599936, 6869426, true, false, ad), (zI_582 xs), (fun _ _ => 0))
  refine mm_tk (c := (0 : Int32) = 0) (d := ¬ (0 : Int32) = 0) (by decide) ?_
  show mm_u _ _ _ _ _ _ [some (.ref 68), some (.ref 0), some (.ref 46), some (.ref 65), some (.int 0), none, none] [] ((fun _ => false, 599936, 6869426, true, false, ad), (zI_582 xs), (fun _ _ => 0))
  refine mm_tk (c := (((nI 6) - 6) : Int32) < 6) (d := ¬ (((nI 6) - 6) : Int32) < 6) (by decide) ?_
  show mm_u _ _ _ _ _ _ [some (.ref 68), some (.ref 0), some (.ref 46), some (.ref 65), some (.int 6), none, none] [] ((fun _ => false, 599936, 6869426, true, false, ad), (zI_582 xs), (fun _ _ => 0))
  refine mm_ob (P := (1 : Int32) = 0 ∨ (1 : Int32) = 1) (by decide) ?_
  exact rfl
def zI_583 (xs : Nat → Int32) : mmI := mm_up (mm_I0 6 (mm_xat xs 1 5)) 46 0 0
set_option maxRecDepth 20000 in
set_option maxHeartbeats 4000000 in
theorem op_40_5 (ad : Nat → Nat) (xs : Nat → Int32) : mm_w (fun v _ => v = some (.int 1)) (mm_wc 210) bk_law 1293 [some (.ref 68), some (.ref 0), some (.ref 46), some (.ref 65), some (.int 0), none, none] [] (mm_s0 ad 6 (mm_xat xs 1 5)) := by
  refine mm_go [] 600 ?_
  refine mm_ob (P := vp_in 1 (nI 6).toNatClampNeg) (mm_inl (by decide)) ?_
  show mm_b _ _ _ _ _ [some (.ref 68), some (.ref 0), some (.ref 46), some (.ref 65), some (.int 0), none, none] [.int 5, .ref 0] ((fun _ => false, 599936, 6869426, true, false, ad), (mm_I0 6 (mm_xat xs 1 5)), (fun _ _ => 0))
  refine mm_e1 ?_
  refine mm_iv 600 (by rfl) ?_
  show mm_k _ _ _ _ _ [some (.ref 0), some (.int 5)] [] ((fun _ => false, 0, 0, true, false, ad), (mm_I0 6 (mm_xat xs 1 5)), (fun _ _ => 0))
  refine mm_swo (x := 5) (by decide) ?_
  refine mm_iv 600 (by rfl) ?_
  show mm_k _ _ _ _ _ [some (.ref 0), some (.int 5)] [] ((fun _ => false, 0, 0, true, false, ad), (mm_I0 6 (mm_xat xs 1 5)), (fun _ _ => 0))
  refine mm_el (c := (5 : Int32) < 0) (d := ¬ (5 : Int32) < 0) (by decide) ?_
  show mm_b _ _ _ _ _ [some (.ref 0), some (.int 5)] [] ((fun _ => false, 0, 0, true, false, ad), (mm_I0 6 (mm_xat xs 1 5)), (fun _ _ => 0))
  refine mm_tk (c := (5 : Int32) ≤ 7) (d := ¬ (5 : Int32) ≤ 7) (by decide) ?_
  show mm_u _ _ _ _ _ _ [some (.ref 0), some (.int 5)] [] ((fun _ => false, 0, 0, true, false, ad), (mm_I0 6 (mm_xat xs 1 5)), (fun _ _ => 0))
  refine mm_el (c := ¬ (0 : Int32) = 0) (d := (0 : Int32) = 0) (by decide) ?_
  show mm_b _ _ _ _ _ [some (.ref 0), some (.int 5)] [] ((fun _ => false, 0, 0, true, false, ad), (mm_I0 6 (mm_xat xs 1 5)), (fun _ _ => 0))
  refine mm_q1 (r := 0) ⟨rfl, ?_⟩
  show mm_b _ _ _ _ _ [some (.ref 0), some (.int 5)] [.int 0] ((fun _ => false, 0, 0, true, false, ad), (mm_I0 6 (mm_xat xs 1 5)), (fun _ _ => 0))
  refine mm_q1 (r := 0) ?_
  show mm_b _ _ _ _ _ [some (.ref 68), some (.ref 0), some (.ref 46), some (.ref 65), some (.int 0), none, none] [.int 0] ((fun _ => false, 599936, 6869426, true, false, ad), (mm_I0 6 (mm_xat xs 1 5)), (fun _ _ => 0))
  refine mm_ob (P := vp_in 1 (nI 6).toNatClampNeg) (mm_inl (by decide)) ?_
  show mm_b _ _ _ _ _ [some (.ref 68), some (.ref 0), some (.ref 46), some (.ref 65), some (.int 0), none, none] [.int 5, .ref 46, .int 0] ((fun _ => false, 599936, 6869426, true, false, ad), (mm_I0 6 (mm_xat xs 1 5)), (fun _ _ => 0))
  refine mm_e1 ?_
  refine mm_iv 600 (by rfl) ?_
  show mm_k _ _ _ _ _ [some (.ref 46), some (.int 5)] [] ((fun _ => false, 0, 0, true, false, ad), (mm_I0 6 (mm_xat xs 1 5)), (fun _ _ => 0))
  refine mm_tk (c := ¬ (5 : Int32) = 10) (d := (5 : Int32) = 10) (by decide) ?_
  show mm_u _ _ _ _ _ _ [some (.ref 46), some (.int 5)] [] ((fun _ => false, 0, 0, true, false, ad), (zI_583 xs), (fun _ _ => 0))
  refine mm_el (c := ¬ (0 : Int32) = 0) (d := (0 : Int32) = 0) (by decide) ?_
  show mm_b _ _ _ _ _ [some (.ref 46), some (.int 5)] [] ((fun _ => false, 0, 0, true, false, ad), (zI_583 xs), (fun _ _ => 0))
  refine mm_iv 600 (by rfl) ?_
  show mm_k _ _ _ _ _ [some (.int 5), some (.int 0), some (.int 9)] [] ((fun _ => false, 0, 0, true, false, ad), (zI_583 xs), (fun _ _ => 0))
  refine mm_el (c := (5 : Int32) < 0) (d := ¬ (5 : Int32) < 0) (by decide) ?_
  show mm_b _ _ _ _ _ [some (.int 5), some (.int 0), some (.int 9)] [] ((fun _ => false, 0, 0, true, false, ad), (zI_583 xs), (fun _ _ => 0))
  refine mm_el (c := (9 : Int32) < 5) (d := ¬ (9 : Int32) < 5) (by decide) ?_
  show mm_b _ _ _ _ _ [some (.int 5), some (.int 0), some (.int 9)] [] ((fun _ => false, 0, 0, true, false, ad), (zI_583 xs), (fun _ _ => 0))
  refine mm_ob (P := (1 : Int32) = 0 ∨ (1 : Int32) = 1) (by decide) ?_
  refine mm_q1 (r := 1) ⟨rfl, ?_⟩
  show mm_b _ _ _ _ _ [some (.ref 46), some (.int 5)] [.int 1] ((fun _ => false, 0, 0, true, false, ad), (zI_583 xs), (fun _ _ => 0))
  refine mm_el (c := (1 : Int32) = 0) (d := ¬ (1 : Int32) = 0) (by decide) ?_
  show mm_b _ _ _ _ _ [some (.ref 46), some (.int 5)] [] ((fun _ => false, 0, 0, true, false, ad), (zI_583 xs), (fun _ _ => 0))
  refine mm_q1 (r := 0) ?_
  show mm_b _ _ _ _ _ [some (.ref 68), some (.ref 0), some (.ref 46), some (.ref 65), some (.int 0), none, none] [.int 0, .int 0] ((fun _ => false, 599936, 6869426, true, false, ad), (zI_583 xs), (fun _ _ => 0))
  refine mm_tk (c := (0 : Int32) = 0) (d := ¬ (0 : Int32) = 0) (by decide) ?_
  show mm_u _ _ _ _ _ _ [some (.ref 68), some (.ref 0), some (.ref 46), some (.ref 65), some (.int 0), none, none] [] ((fun _ => false, 599936, 6869426, true, false, ad), (zI_583 xs), (fun _ _ => 0))
  refine mm_tk (c := (((nI 6) - 6) : Int32) < 6) (d := ¬ (((nI 6) - 6) : Int32) < 6) (by decide) ?_
  show mm_u _ _ _ _ _ _ [some (.ref 68), some (.ref 0), some (.ref 46), some (.ref 65), some (.int 6), none, none] [] ((fun _ => false, 599936, 6869426, true, false, ad), (zI_583 xs), (fun _ _ => 0))
  refine mm_ob (P := (1 : Int32) = 0 ∨ (1 : Int32) = 1) (by decide) ?_
  exact rfl
def zI_584 (xs : Nat → Int32) : mmI := mm_up (mm_I0 6 (mm_xat xs 1 6)) 46 0 0
set_option maxRecDepth 20000 in
set_option maxHeartbeats 4000000 in
theorem op_40_6 (ad : Nat → Nat) (xs : Nat → Int32) : mm_w (fun v _ => v = some (.int 1)) (mm_wc 210) bk_law 1293 [some (.ref 68), some (.ref 0), some (.ref 46), some (.ref 65), some (.int 0), none, none] [] (mm_s0 ad 6 (mm_xat xs 1 6)) := by
  refine mm_go [] 600 ?_
  refine mm_ob (P := vp_in 1 (nI 6).toNatClampNeg) (mm_inl (by decide)) ?_
  show mm_b _ _ _ _ _ [some (.ref 68), some (.ref 0), some (.ref 46), some (.ref 65), some (.int 0), none, none] [.int 6, .ref 0] ((fun _ => false, 599936, 6869426, true, false, ad), (mm_I0 6 (mm_xat xs 1 6)), (fun _ _ => 0))
  refine mm_e1 ?_
  refine mm_iv 600 (by rfl) ?_
  show mm_k _ _ _ _ _ [some (.ref 0), some (.int 6)] [] ((fun _ => false, 0, 0, true, false, ad), (mm_I0 6 (mm_xat xs 1 6)), (fun _ _ => 0))
  refine mm_swo (x := 6) (by decide) ?_
  refine mm_iv 600 (by rfl) ?_
  show mm_k _ _ _ _ _ [some (.ref 0), some (.int 6)] [] ((fun _ => false, 0, 0, true, false, ad), (mm_I0 6 (mm_xat xs 1 6)), (fun _ _ => 0))
  refine mm_el (c := (6 : Int32) < 0) (d := ¬ (6 : Int32) < 0) (by decide) ?_
  show mm_b _ _ _ _ _ [some (.ref 0), some (.int 6)] [] ((fun _ => false, 0, 0, true, false, ad), (mm_I0 6 (mm_xat xs 1 6)), (fun _ _ => 0))
  refine mm_tk (c := (6 : Int32) ≤ 7) (d := ¬ (6 : Int32) ≤ 7) (by decide) ?_
  show mm_u _ _ _ _ _ _ [some (.ref 0), some (.int 6)] [] ((fun _ => false, 0, 0, true, false, ad), (mm_I0 6 (mm_xat xs 1 6)), (fun _ _ => 0))
  refine mm_el (c := ¬ (0 : Int32) = 0) (d := (0 : Int32) = 0) (by decide) ?_
  show mm_b _ _ _ _ _ [some (.ref 0), some (.int 6)] [] ((fun _ => false, 0, 0, true, false, ad), (mm_I0 6 (mm_xat xs 1 6)), (fun _ _ => 0))
  refine mm_q1 (r := 0) ⟨rfl, ?_⟩
  show mm_b _ _ _ _ _ [some (.ref 0), some (.int 6)] [.int 0] ((fun _ => false, 0, 0, true, false, ad), (mm_I0 6 (mm_xat xs 1 6)), (fun _ _ => 0))
  refine mm_q1 (r := 0) ?_
  show mm_b _ _ _ _ _ [some (.ref 68), some (.ref 0), some (.ref 46), some (.ref 65), some (.int 0), none, none] [.int 0] ((fun _ => false, 599936, 6869426, true, false, ad), (mm_I0 6 (mm_xat xs 1 6)), (fun _ _ => 0))
  refine mm_ob (P := vp_in 1 (nI 6).toNatClampNeg) (mm_inl (by decide)) ?_
  show mm_b _ _ _ _ _ [some (.ref 68), some (.ref 0), some (.ref 46), some (.ref 65), some (.int 0), none, none] [.int 6, .ref 46, .int 0] ((fun _ => false, 599936, 6869426, true, false, ad), (mm_I0 6 (mm_xat xs 1 6)), (fun _ _ => 0))
  refine mm_e1 ?_
  refine mm_iv 600 (by rfl) ?_
  show mm_k _ _ _ _ _ [some (.ref 46), some (.int 6)] [] ((fun _ => false, 0, 0, true, false, ad), (mm_I0 6 (mm_xat xs 1 6)), (fun _ _ => 0))
  refine mm_tk (c := ¬ (6 : Int32) = 10) (d := (6 : Int32) = 10) (by decide) ?_
  show mm_u _ _ _ _ _ _ [some (.ref 46), some (.int 6)] [] ((fun _ => false, 0, 0, true, false, ad), (zI_584 xs), (fun _ _ => 0))
  refine mm_el (c := ¬ (0 : Int32) = 0) (d := (0 : Int32) = 0) (by decide) ?_
  show mm_b _ _ _ _ _ [some (.ref 46), some (.int 6)] [] ((fun _ => false, 0, 0, true, false, ad), (zI_584 xs), (fun _ _ => 0))
  refine mm_iv 600 (by rfl) ?_
  show mm_k _ _ _ _ _ [some (.int 6), some (.int 0), some (.int 9)] [] ((fun _ => false, 0, 0, true, false, ad), (zI_584 xs), (fun _ _ => 0))
  refine mm_el (c := (6 : Int32) < 0) (d := ¬ (6 : Int32) < 0) (by decide) ?_
  show mm_b _ _ _ _ _ [some (.int 6), some (.int 0), some (.int 9)] [] ((fun _ => false, 0, 0, true, false, ad), (zI_584 xs), (fun _ _ => 0))
  refine mm_el (c := (9 : Int32) < 6) (d := ¬ (9 : Int32) < 6) (by decide) ?_
  show mm_b _ _ _ _ _ [some (.int 6), some (.int 0), some (.int 9)] [] ((fun _ => false, 0, 0, true, false, ad), (zI_584 xs), (fun _ _ => 0))
  refine mm_ob (P := (1 : Int32) = 0 ∨ (1 : Int32) = 1) (by decide) ?_
  refine mm_q1 (r := 1) ⟨rfl, ?_⟩
  show mm_b _ _ _ _ _ [some (.ref 46), some (.int 6)] [.int 1] ((fun _ => false, 0, 0, true, false, ad), (zI_584 xs), (fun _ _ => 0))
  refine mm_el (c := (1 : Int32) = 0) (d := ¬ (1 : Int32) = 0) (by decide) ?_
  show mm_b _ _ _ _ _ [some (.ref 46), some (.int 6)] [] ((fun _ => false, 0, 0, true, false, ad), (zI_584 xs), (fun _ _ => 0))
  refine mm_q1 (r := 0) ?_
  show mm_b _ _ _ _ _ [some (.ref 68), some (.ref 0), some (.ref 46), some (.ref 65), some (.int 0), none, none] [.int 0, .int 0] ((fun _ => false, 599936, 6869426, true, false, ad), (zI_584 xs), (fun _ _ => 0))
  refine mm_tk (c := (0 : Int32) = 0) (d := ¬ (0 : Int32) = 0) (by decide) ?_
  show mm_u _ _ _ _ _ _ [some (.ref 68), some (.ref 0), some (.ref 46), some (.ref 65), some (.int 0), none, none] [] ((fun _ => false, 599936, 6869426, true, false, ad), (zI_584 xs), (fun _ _ => 0))
  refine mm_tk (c := (((nI 6) - 6) : Int32) < 6) (d := ¬ (((nI 6) - 6) : Int32) < 6) (by decide) ?_
  show mm_u _ _ _ _ _ _ [some (.ref 68), some (.ref 0), some (.ref 46), some (.ref 65), some (.int 6), none, none] [] ((fun _ => false, 599936, 6869426, true, false, ad), (zI_584 xs), (fun _ _ => 0))
  refine mm_ob (P := (1 : Int32) = 0 ∨ (1 : Int32) = 1) (by decide) ?_
  exact rfl
def zI_585 (xs : Nat → Int32) : mmI := mm_up (mm_I0 6 (mm_xat xs 1 7)) 46 0 0
set_option maxRecDepth 20000 in
set_option maxHeartbeats 4000000 in
theorem op_40_7 (ad : Nat → Nat) (xs : Nat → Int32) : mm_w (fun v _ => v = some (.int 1)) (mm_wc 210) bk_law 1293 [some (.ref 68), some (.ref 0), some (.ref 46), some (.ref 65), some (.int 0), none, none] [] (mm_s0 ad 6 (mm_xat xs 1 7)) := by
  refine mm_go [] 600 ?_
  refine mm_ob (P := vp_in 1 (nI 6).toNatClampNeg) (mm_inl (by decide)) ?_
  show mm_b _ _ _ _ _ [some (.ref 68), some (.ref 0), some (.ref 46), some (.ref 65), some (.int 0), none, none] [.int 7, .ref 0] ((fun _ => false, 599936, 6869426, true, false, ad), (mm_I0 6 (mm_xat xs 1 7)), (fun _ _ => 0))
  refine mm_e1 ?_
  refine mm_iv 600 (by rfl) ?_
  show mm_k _ _ _ _ _ [some (.ref 0), some (.int 7)] [] ((fun _ => false, 0, 0, true, false, ad), (mm_I0 6 (mm_xat xs 1 7)), (fun _ _ => 0))
  refine mm_swo (x := 7) (by decide) ?_
  refine mm_iv 600 (by rfl) ?_
  show mm_k _ _ _ _ _ [some (.ref 0), some (.int 7)] [] ((fun _ => false, 0, 0, true, false, ad), (mm_I0 6 (mm_xat xs 1 7)), (fun _ _ => 0))
  refine mm_el (c := (7 : Int32) < 0) (d := ¬ (7 : Int32) < 0) (by decide) ?_
  show mm_b _ _ _ _ _ [some (.ref 0), some (.int 7)] [] ((fun _ => false, 0, 0, true, false, ad), (mm_I0 6 (mm_xat xs 1 7)), (fun _ _ => 0))
  refine mm_tk (c := (7 : Int32) ≤ 7) (d := ¬ (7 : Int32) ≤ 7) (by decide) ?_
  show mm_u _ _ _ _ _ _ [some (.ref 0), some (.int 7)] [] ((fun _ => false, 0, 0, true, false, ad), (mm_I0 6 (mm_xat xs 1 7)), (fun _ _ => 0))
  refine mm_el (c := ¬ (0 : Int32) = 0) (d := (0 : Int32) = 0) (by decide) ?_
  show mm_b _ _ _ _ _ [some (.ref 0), some (.int 7)] [] ((fun _ => false, 0, 0, true, false, ad), (mm_I0 6 (mm_xat xs 1 7)), (fun _ _ => 0))
  refine mm_q1 (r := 0) ⟨rfl, ?_⟩
  show mm_b _ _ _ _ _ [some (.ref 0), some (.int 7)] [.int 0] ((fun _ => false, 0, 0, true, false, ad), (mm_I0 6 (mm_xat xs 1 7)), (fun _ _ => 0))
  refine mm_q1 (r := 0) ?_
  show mm_b _ _ _ _ _ [some (.ref 68), some (.ref 0), some (.ref 46), some (.ref 65), some (.int 0), none, none] [.int 0] ((fun _ => false, 599936, 6869426, true, false, ad), (mm_I0 6 (mm_xat xs 1 7)), (fun _ _ => 0))
  refine mm_ob (P := vp_in 1 (nI 6).toNatClampNeg) (mm_inl (by decide)) ?_
  show mm_b _ _ _ _ _ [some (.ref 68), some (.ref 0), some (.ref 46), some (.ref 65), some (.int 0), none, none] [.int 7, .ref 46, .int 0] ((fun _ => false, 599936, 6869426, true, false, ad), (mm_I0 6 (mm_xat xs 1 7)), (fun _ _ => 0))
  refine mm_e1 ?_
  refine mm_iv 600 (by rfl) ?_
  show mm_k _ _ _ _ _ [some (.ref 46), some (.int 7)] [] ((fun _ => false, 0, 0, true, false, ad), (mm_I0 6 (mm_xat xs 1 7)), (fun _ _ => 0))
  refine mm_tk (c := ¬ (7 : Int32) = 10) (d := (7 : Int32) = 10) (by decide) ?_
  show mm_u _ _ _ _ _ _ [some (.ref 46), some (.int 7)] [] ((fun _ => false, 0, 0, true, false, ad), (zI_585 xs), (fun _ _ => 0))
  refine mm_el (c := ¬ (0 : Int32) = 0) (d := (0 : Int32) = 0) (by decide) ?_
  show mm_b _ _ _ _ _ [some (.ref 46), some (.int 7)] [] ((fun _ => false, 0, 0, true, false, ad), (zI_585 xs), (fun _ _ => 0))
  refine mm_iv 600 (by rfl) ?_
  show mm_k _ _ _ _ _ [some (.int 7), some (.int 0), some (.int 9)] [] ((fun _ => false, 0, 0, true, false, ad), (zI_585 xs), (fun _ _ => 0))
  refine mm_el (c := (7 : Int32) < 0) (d := ¬ (7 : Int32) < 0) (by decide) ?_
  show mm_b _ _ _ _ _ [some (.int 7), some (.int 0), some (.int 9)] [] ((fun _ => false, 0, 0, true, false, ad), (zI_585 xs), (fun _ _ => 0))
  refine mm_el (c := (9 : Int32) < 7) (d := ¬ (9 : Int32) < 7) (by decide) ?_
  show mm_b _ _ _ _ _ [some (.int 7), some (.int 0), some (.int 9)] [] ((fun _ => false, 0, 0, true, false, ad), (zI_585 xs), (fun _ _ => 0))
  refine mm_ob (P := (1 : Int32) = 0 ∨ (1 : Int32) = 1) (by decide) ?_
  refine mm_q1 (r := 1) ⟨rfl, ?_⟩
  show mm_b _ _ _ _ _ [some (.ref 46), some (.int 7)] [.int 1] ((fun _ => false, 0, 0, true, false, ad), (zI_585 xs), (fun _ _ => 0))
  refine mm_el (c := (1 : Int32) = 0) (d := ¬ (1 : Int32) = 0) (by decide) ?_
  show mm_b _ _ _ _ _ [some (.ref 46), some (.int 7)] [] ((fun _ => false, 0, 0, true, false, ad), (zI_585 xs), (fun _ _ => 0))
  refine mm_q1 (r := 0) ?_
  show mm_b _ _ _ _ _ [some (.ref 68), some (.ref 0), some (.ref 46), some (.ref 65), some (.int 0), none, none] [.int 0, .int 0] ((fun _ => false, 599936, 6869426, true, false, ad), (zI_585 xs), (fun _ _ => 0))
  refine mm_tk (c := (0 : Int32) = 0) (d := ¬ (0 : Int32) = 0) (by decide) ?_
  show mm_u _ _ _ _ _ _ [some (.ref 68), some (.ref 0), some (.ref 46), some (.ref 65), some (.int 0), none, none] [] ((fun _ => false, 599936, 6869426, true, false, ad), (zI_585 xs), (fun _ _ => 0))
  refine mm_tk (c := (((nI 6) - 6) : Int32) < 6) (d := ¬ (((nI 6) - 6) : Int32) < 6) (by decide) ?_
  show mm_u _ _ _ _ _ _ [some (.ref 68), some (.ref 0), some (.ref 46), some (.ref 65), some (.int 6), none, none] [] ((fun _ => false, 599936, 6869426, true, false, ad), (zI_585 xs), (fun _ _ => 0))
  refine mm_ob (P := (1 : Int32) = 0 ∨ (1 : Int32) = 1) (by decide) ?_
  exact rfl
def zI_586 (xs : Nat → Int32) : mmI := mm_up (mm_I0 6 (mm_xat xs 1 8)) 46 0 0
set_option maxRecDepth 20000 in
set_option maxHeartbeats 4000000 in
theorem op_40_8 (ad : Nat → Nat) (xs : Nat → Int32) : mm_w (fun v _ => v = some (.int 1)) (mm_wc 210) bk_law 1293 [some (.ref 68), some (.ref 0), some (.ref 46), some (.ref 65), some (.int 0), none, none] [] (mm_s0 ad 6 (mm_xat xs 1 8)) := by
  refine mm_go [] 600 ?_
  refine mm_ob (P := vp_in 1 (nI 6).toNatClampNeg) (mm_inl (by decide)) ?_
  show mm_b _ _ _ _ _ [some (.ref 68), some (.ref 0), some (.ref 46), some (.ref 65), some (.int 0), none, none] [.int 8, .ref 0] ((fun _ => false, 599936, 6869426, true, false, ad), (mm_I0 6 (mm_xat xs 1 8)), (fun _ _ => 0))
  refine mm_e1 ?_
  refine mm_iv 600 (by rfl) ?_
  show mm_k _ _ _ _ _ [some (.ref 0), some (.int 8)] [] ((fun _ => false, 0, 0, true, false, ad), (mm_I0 6 (mm_xat xs 1 8)), (fun _ _ => 0))
  refine mm_swi (x := 8) (off := 27) (by decide) (by decide) (by rfl) ?_
  refine mm_q1 (r := 0) ?_
  show mm_b _ _ _ _ _ [some (.ref 68), some (.ref 0), some (.ref 46), some (.ref 65), some (.int 0), none, none] [.int 0] ((fun _ => false, 599936, 6869426, true, false, ad), (mm_I0 6 (mm_xat xs 1 8)), (fun _ _ => 0))
  refine mm_ob (P := vp_in 1 (nI 6).toNatClampNeg) (mm_inl (by decide)) ?_
  show mm_b _ _ _ _ _ [some (.ref 68), some (.ref 0), some (.ref 46), some (.ref 65), some (.int 0), none, none] [.int 8, .ref 46, .int 0] ((fun _ => false, 599936, 6869426, true, false, ad), (mm_I0 6 (mm_xat xs 1 8)), (fun _ _ => 0))
  refine mm_e1 ?_
  refine mm_iv 600 (by rfl) ?_
  show mm_k _ _ _ _ _ [some (.ref 46), some (.int 8)] [] ((fun _ => false, 0, 0, true, false, ad), (mm_I0 6 (mm_xat xs 1 8)), (fun _ _ => 0))
  refine mm_tk (c := ¬ (8 : Int32) = 10) (d := (8 : Int32) = 10) (by decide) ?_
  show mm_u _ _ _ _ _ _ [some (.ref 46), some (.int 8)] [] ((fun _ => false, 0, 0, true, false, ad), (zI_586 xs), (fun _ _ => 0))
  refine mm_el (c := ¬ (0 : Int32) = 0) (d := (0 : Int32) = 0) (by decide) ?_
  show mm_b _ _ _ _ _ [some (.ref 46), some (.int 8)] [] ((fun _ => false, 0, 0, true, false, ad), (zI_586 xs), (fun _ _ => 0))
  refine mm_iv 600 (by rfl) ?_
  show mm_k _ _ _ _ _ [some (.int 8), some (.int 0), some (.int 9)] [] ((fun _ => false, 0, 0, true, false, ad), (zI_586 xs), (fun _ _ => 0))
  refine mm_el (c := (8 : Int32) < 0) (d := ¬ (8 : Int32) < 0) (by decide) ?_
  show mm_b _ _ _ _ _ [some (.int 8), some (.int 0), some (.int 9)] [] ((fun _ => false, 0, 0, true, false, ad), (zI_586 xs), (fun _ _ => 0))
  refine mm_el (c := (9 : Int32) < 8) (d := ¬ (9 : Int32) < 8) (by decide) ?_
  show mm_b _ _ _ _ _ [some (.int 8), some (.int 0), some (.int 9)] [] ((fun _ => false, 0, 0, true, false, ad), (zI_586 xs), (fun _ _ => 0))
  refine mm_ob (P := (1 : Int32) = 0 ∨ (1 : Int32) = 1) (by decide) ?_
  refine mm_q1 (r := 1) ⟨rfl, ?_⟩
  show mm_b _ _ _ _ _ [some (.ref 46), some (.int 8)] [.int 1] ((fun _ => false, 0, 0, true, false, ad), (zI_586 xs), (fun _ _ => 0))
  refine mm_el (c := (1 : Int32) = 0) (d := ¬ (1 : Int32) = 0) (by decide) ?_
  show mm_b _ _ _ _ _ [some (.ref 46), some (.int 8)] [] ((fun _ => false, 0, 0, true, false, ad), (zI_586 xs), (fun _ _ => 0))
  refine mm_q1 (r := 0) ?_
  show mm_b _ _ _ _ _ [some (.ref 68), some (.ref 0), some (.ref 46), some (.ref 65), some (.int 0), none, none] [.int 0, .int 0] ((fun _ => false, 599936, 6869426, true, false, ad), (zI_586 xs), (fun _ _ => 0))
  refine mm_tk (c := (0 : Int32) = 0) (d := ¬ (0 : Int32) = 0) (by decide) ?_
  show mm_u _ _ _ _ _ _ [some (.ref 68), some (.ref 0), some (.ref 46), some (.ref 65), some (.int 0), none, none] [] ((fun _ => false, 599936, 6869426, true, false, ad), (zI_586 xs), (fun _ _ => 0))
  refine mm_tk (c := (((nI 6) - 6) : Int32) < 6) (d := ¬ (((nI 6) - 6) : Int32) < 6) (by decide) ?_
  show mm_u _ _ _ _ _ _ [some (.ref 68), some (.ref 0), some (.ref 46), some (.ref 65), some (.int 6), none, none] [] ((fun _ => false, 599936, 6869426, true, false, ad), (zI_586 xs), (fun _ _ => 0))
  refine mm_ob (P := (1 : Int32) = 0 ∨ (1 : Int32) = 1) (by decide) ?_
  exact rfl
def zI_587 (xs : Nat → Int32) : mmI := mm_up (mm_I0 6 (mm_xat xs 1 9)) 46 0 0
set_option maxRecDepth 20000 in
set_option maxHeartbeats 4000000 in
theorem op_40_9 (ad : Nat → Nat) (xs : Nat → Int32) : mm_w (fun v _ => v = some (.int 1)) (mm_wc 210) bk_law 1293 [some (.ref 68), some (.ref 0), some (.ref 46), some (.ref 65), some (.int 0), none, none] [] (mm_s0 ad 6 (mm_xat xs 1 9)) := by
  refine mm_go [] 600 ?_
  refine mm_ob (P := vp_in 1 (nI 6).toNatClampNeg) (mm_inl (by decide)) ?_
  show mm_b _ _ _ _ _ [some (.ref 68), some (.ref 0), some (.ref 46), some (.ref 65), some (.int 0), none, none] [.int 9, .ref 0] ((fun _ => false, 599936, 6869426, true, false, ad), (mm_I0 6 (mm_xat xs 1 9)), (fun _ _ => 0))
  refine mm_e1 ?_
  refine mm_iv 600 (by rfl) ?_
  show mm_k _ _ _ _ _ [some (.ref 0), some (.int 9)] [] ((fun _ => false, 0, 0, true, false, ad), (mm_I0 6 (mm_xat xs 1 9)), (fun _ _ => 0))
  refine mm_swi (x := 9) (off := 35) (by decide) (by decide) (by rfl) ?_
  refine mm_q1 (r := 0) ?_
  show mm_b _ _ _ _ _ [some (.ref 68), some (.ref 0), some (.ref 46), some (.ref 65), some (.int 0), none, none] [.int 0] ((fun _ => false, 599936, 6869426, true, false, ad), (mm_I0 6 (mm_xat xs 1 9)), (fun _ _ => 0))
  refine mm_ob (P := vp_in 1 (nI 6).toNatClampNeg) (mm_inl (by decide)) ?_
  show mm_b _ _ _ _ _ [some (.ref 68), some (.ref 0), some (.ref 46), some (.ref 65), some (.int 0), none, none] [.int 9, .ref 46, .int 0] ((fun _ => false, 599936, 6869426, true, false, ad), (mm_I0 6 (mm_xat xs 1 9)), (fun _ _ => 0))
  refine mm_e1 ?_
  refine mm_iv 600 (by rfl) ?_
  show mm_k _ _ _ _ _ [some (.ref 46), some (.int 9)] [] ((fun _ => false, 0, 0, true, false, ad), (mm_I0 6 (mm_xat xs 1 9)), (fun _ _ => 0))
  refine mm_tk (c := ¬ (9 : Int32) = 10) (d := (9 : Int32) = 10) (by decide) ?_
  show mm_u _ _ _ _ _ _ [some (.ref 46), some (.int 9)] [] ((fun _ => false, 0, 0, true, false, ad), (zI_587 xs), (fun _ _ => 0))
  refine mm_el (c := ¬ (0 : Int32) = 0) (d := (0 : Int32) = 0) (by decide) ?_
  show mm_b _ _ _ _ _ [some (.ref 46), some (.int 9)] [] ((fun _ => false, 0, 0, true, false, ad), (zI_587 xs), (fun _ _ => 0))
  refine mm_iv 600 (by rfl) ?_
  show mm_k _ _ _ _ _ [some (.int 9), some (.int 0), some (.int 9)] [] ((fun _ => false, 0, 0, true, false, ad), (zI_587 xs), (fun _ _ => 0))
  refine mm_el (c := (9 : Int32) < 0) (d := ¬ (9 : Int32) < 0) (by decide) ?_
  show mm_b _ _ _ _ _ [some (.int 9), some (.int 0), some (.int 9)] [] ((fun _ => false, 0, 0, true, false, ad), (zI_587 xs), (fun _ _ => 0))
  refine mm_el (c := (9 : Int32) < 9) (d := ¬ (9 : Int32) < 9) (by decide) ?_
  show mm_b _ _ _ _ _ [some (.int 9), some (.int 0), some (.int 9)] [] ((fun _ => false, 0, 0, true, false, ad), (zI_587 xs), (fun _ _ => 0))
  refine mm_ob (P := (1 : Int32) = 0 ∨ (1 : Int32) = 1) (by decide) ?_
  refine mm_q1 (r := 1) ⟨rfl, ?_⟩
  show mm_b _ _ _ _ _ [some (.ref 46), some (.int 9)] [.int 1] ((fun _ => false, 0, 0, true, false, ad), (zI_587 xs), (fun _ _ => 0))
  refine mm_el (c := (1 : Int32) = 0) (d := ¬ (1 : Int32) = 0) (by decide) ?_
  show mm_b _ _ _ _ _ [some (.ref 46), some (.int 9)] [] ((fun _ => false, 0, 0, true, false, ad), (zI_587 xs), (fun _ _ => 0))
  refine mm_q1 (r := 0) ?_
  show mm_b _ _ _ _ _ [some (.ref 68), some (.ref 0), some (.ref 46), some (.ref 65), some (.int 0), none, none] [.int 0, .int 0] ((fun _ => false, 599936, 6869426, true, false, ad), (zI_587 xs), (fun _ _ => 0))
  refine mm_tk (c := (0 : Int32) = 0) (d := ¬ (0 : Int32) = 0) (by decide) ?_
  show mm_u _ _ _ _ _ _ [some (.ref 68), some (.ref 0), some (.ref 46), some (.ref 65), some (.int 0), none, none] [] ((fun _ => false, 599936, 6869426, true, false, ad), (zI_587 xs), (fun _ _ => 0))
  refine mm_tk (c := (((nI 6) - 6) : Int32) < 6) (d := ¬ (((nI 6) - 6) : Int32) < 6) (by decide) ?_
  show mm_u _ _ _ _ _ _ [some (.ref 68), some (.ref 0), some (.ref 46), some (.ref 65), some (.int 6), none, none] [] ((fun _ => false, 599936, 6869426, true, false, ad), (zI_587 xs), (fun _ _ => 0))
  refine mm_ob (P := (1 : Int32) = 0 ∨ (1 : Int32) = 1) (by decide) ?_
  exact rfl
def zI_588 (xs : Nat → Int32) : mmI := mm_up (mm_I0 6 (mm_xat xs 1 10)) 46 0 0
set_option maxRecDepth 20000 in
set_option maxHeartbeats 4000000 in
theorem op_40_10 (ad : Nat → Nat) (xs : Nat → Int32) : mm_w (fun v _ => v = some (.int 1)) (mm_wc 210) bk_law 1293 [some (.ref 68), some (.ref 0), some (.ref 46), some (.ref 65), some (.int 0), none, none] [] (mm_s0 ad 6 (mm_xat xs 1 10)) := by
  refine mm_go [] 600 ?_
  refine mm_ob (P := vp_in 1 (nI 6).toNatClampNeg) (mm_inl (by decide)) ?_
  show mm_b _ _ _ _ _ [some (.ref 68), some (.ref 0), some (.ref 46), some (.ref 65), some (.int 0), none, none] [.int 10, .ref 0] ((fun _ => false, 599936, 6869426, true, false, ad), (mm_I0 6 (mm_xat xs 1 10)), (fun _ _ => 0))
  refine mm_e1 ?_
  refine mm_iv 600 (by rfl) ?_
  show mm_k _ _ _ _ _ [some (.ref 0), some (.int 10)] [] ((fun _ => false, 0, 0, true, false, ad), (mm_I0 6 (mm_xat xs 1 10)), (fun _ _ => 0))
  refine mm_swi (x := 10) (off := 43) (by decide) (by decide) (by rfl) ?_
  refine mm_q1 (r := 0) ?_
  show mm_b _ _ _ _ _ [some (.ref 68), some (.ref 0), some (.ref 46), some (.ref 65), some (.int 0), none, none] [.int 0] ((fun _ => false, 599936, 6869426, true, false, ad), (mm_I0 6 (mm_xat xs 1 10)), (fun _ _ => 0))
  refine mm_ob (P := vp_in 1 (nI 6).toNatClampNeg) (mm_inl (by decide)) ?_
  show mm_b _ _ _ _ _ [some (.ref 68), some (.ref 0), some (.ref 46), some (.ref 65), some (.int 0), none, none] [.int 10, .ref 46, .int 0] ((fun _ => false, 599936, 6869426, true, false, ad), (mm_I0 6 (mm_xat xs 1 10)), (fun _ _ => 0))
  refine mm_e1 ?_
  refine mm_iv 600 (by rfl) ?_
  show mm_k _ _ _ _ _ [some (.ref 46), some (.int 10)] [] ((fun _ => false, 0, 0, true, false, ad), (mm_I0 6 (mm_xat xs 1 10)), (fun _ _ => 0))
  refine mm_el (c := ¬ (10 : Int32) = 10) (d := (10 : Int32) = 10) (by decide) ?_
  show mm_b _ _ _ _ _ [some (.ref 46), some (.int 10)] [] ((fun _ => false, 0, 0, true, false, ad), (zI_588 xs), (fun _ _ => 0))
  refine mm_q1 (r := 0) ?_
  show mm_b _ _ _ _ _ [some (.ref 68), some (.ref 0), some (.ref 46), some (.ref 65), some (.int 0), none, none] [.int 0, .int 0] ((fun _ => false, 599936, 6869426, true, false, ad), (zI_588 xs), (fun _ _ => 0))
  refine mm_tk (c := (0 : Int32) = 0) (d := ¬ (0 : Int32) = 0) (by decide) ?_
  show mm_u _ _ _ _ _ _ [some (.ref 68), some (.ref 0), some (.ref 46), some (.ref 65), some (.int 0), none, none] [] ((fun _ => false, 599936, 6869426, true, false, ad), (zI_588 xs), (fun _ _ => 0))
  refine mm_tk (c := (((nI 6) - 6) : Int32) < 6) (d := ¬ (((nI 6) - 6) : Int32) < 6) (by decide) ?_
  show mm_u _ _ _ _ _ _ [some (.ref 68), some (.ref 0), some (.ref 46), some (.ref 65), some (.int 6), none, none] [] ((fun _ => false, 599936, 6869426, true, false, ad), (zI_588 xs), (fun _ _ => 0))
  refine mm_ob (P := (1 : Int32) = 0 ∨ (1 : Int32) = 1) (by decide) ?_
  exact rfl
def zI_589 (xs : Nat → Int32) : mmI := mm_up (mm_I0 6 xs) 46 0 0
set_option maxRecDepth 20000 in
set_option maxHeartbeats 4000000 in
theorem op_40a (ad : Nat → Nat) (xs : Nat → Int32) (h0 : xs 1 < 0) : mm_w (fun v _ => v = some (.int 1)) (mm_wc 210) bk_law 1293 [some (.ref 68), some (.ref 0), some (.ref 46), some (.ref 65), some (.int 0), none, none] [] (mm_s0 ad 6 xs) := by
  refine mm_go [] 600 ?_
  refine mm_ob (P := vp_in 1 (nI 6).toNatClampNeg) (mm_inl (by decide)) ?_
  show mm_b _ _ _ _ _ [some (.ref 68), some (.ref 0), some (.ref 46), some (.ref 65), some (.int 0), none, none] [.int (xs 1), .ref 0] ((fun _ => false, 599936, 6869426, true, false, ad), (mm_I0 6 xs), (fun _ _ => 0))
  refine mm_e1 ?_
  refine mm_iv 600 (by rfl) ?_
  show mm_k _ _ _ _ _ [some (.ref 0), some (.int (xs 1))] [] ((fun _ => false, 0, 0, true, false, ad), (mm_I0 6 xs), (fun _ _ => 0))
  refine mm_swo (x := (xs 1)) (by simp only [Int32.lt_iff_toInt_lt, Int32.le_iff_toInt_le, ← Int32.toInt_inj, li_0, li_1, li_2, li_3, li_4, li_5, li_6, li_7, li_8, li_9, li_10, li_11, li_12, li_13, li_14, li_15] at *; omega) ?_
  refine mm_iv 600 (by rfl) ?_
  show mm_k _ _ _ _ _ [some (.ref 0), some (.int (xs 1))] [] ((fun _ => false, 0, 0, true, false, ad), (mm_I0 6 xs), (fun _ _ => 0))
  refine mm_tk (c := ((xs 1) : Int32) < 0) (d := ¬ ((xs 1) : Int32) < 0) (fun q9 => by simp only [Int32.lt_iff_toInt_lt, Int32.le_iff_toInt_le, ← Int32.toInt_inj, li_0, li_1, li_2, li_3, li_4, li_5, li_6, li_7, li_8, li_9, li_10, li_11, li_12, li_13, li_14, li_15] at *; omega) ?_
  show mm_u _ _ _ _ _ _ [some (.ref 0), some (.int (xs 1))] [] ((fun _ => false, 0, 0, true, false, ad), (mm_I0 6 xs), (fun _ _ => 0))
  refine mm_q1 (r := (-1)) ⟨rfl, ?_⟩
  show mm_b _ _ _ _ _ [some (.ref 0), some (.int (xs 1))] [.int (-1)] ((fun _ => false, 0, 0, true, false, ad), (mm_I0 6 xs), (fun _ _ => 0))
  refine mm_q1 (r := (-1)) ?_
  show mm_b _ _ _ _ _ [some (.ref 68), some (.ref 0), some (.ref 46), some (.ref 65), some (.int 0), none, none] [.int (-1)] ((fun _ => false, 599936, 6869426, true, false, ad), (mm_I0 6 xs), (fun _ _ => 0))
  refine mm_ob (P := vp_in 1 (nI 6).toNatClampNeg) (mm_inl (by decide)) ?_
  show mm_b _ _ _ _ _ [some (.ref 68), some (.ref 0), some (.ref 46), some (.ref 65), some (.int 0), none, none] [.int (xs 1), .ref 46, .int (-1)] ((fun _ => false, 599936, 6869426, true, false, ad), (mm_I0 6 xs), (fun _ _ => 0))
  refine mm_e1 ?_
  refine mm_iv 600 (by rfl) ?_
  show mm_k _ _ _ _ _ [some (.ref 46), some (.int (xs 1))] [] ((fun _ => false, 0, 0, true, false, ad), (mm_I0 6 xs), (fun _ _ => 0))
  refine mm_tk (c := ¬ ((xs 1) : Int32) = 10) (d := ((xs 1) : Int32) = 10) (fun q9 => by simp only [Int32.lt_iff_toInt_lt, Int32.le_iff_toInt_le, ← Int32.toInt_inj, li_0, li_1, li_2, li_3, li_4, li_5, li_6, li_7, li_8, li_9, li_10, li_11, li_12, li_13, li_14, li_15] at *; omega) ?_
  show mm_u _ _ _ _ _ _ [some (.ref 46), some (.int (xs 1))] [] ((fun _ => false, 0, 0, true, false, ad), (zI_589 xs), (fun _ _ => 0))
  refine mm_el (c := ¬ (0 : Int32) = 0) (d := (0 : Int32) = 0) (by decide) ?_
  show mm_b _ _ _ _ _ [some (.ref 46), some (.int (xs 1))] [] ((fun _ => false, 0, 0, true, false, ad), (zI_589 xs), (fun _ _ => 0))
  refine mm_iv 600 (by rfl) ?_
  show mm_k _ _ _ _ _ [some (.int (xs 1)), some (.int 0), some (.int 9)] [] ((fun _ => false, 0, 0, true, false, ad), (zI_589 xs), (fun _ _ => 0))
  refine mm_tk (c := ((xs 1) : Int32) < 0) (d := ¬ ((xs 1) : Int32) < 0) (fun q9 => by simp only [Int32.lt_iff_toInt_lt, Int32.le_iff_toInt_le, ← Int32.toInt_inj, li_0, li_1, li_2, li_3, li_4, li_5, li_6, li_7, li_8, li_9, li_10, li_11, li_12, li_13, li_14, li_15] at *; omega) ?_
  show mm_u _ _ _ _ _ _ [some (.int (xs 1)), some (.int 0), some (.int 9)] [] ((fun _ => false, 0, 0, true, false, ad), (zI_589 xs), (fun _ _ => 0))
  refine mm_ob (P := (0 : Int32) = 0 ∨ (0 : Int32) = 1) (by decide) ?_
  refine mm_q1 (r := 0) ⟨rfl, ?_⟩
  show mm_b _ _ _ _ _ [some (.ref 46), some (.int (xs 1))] [.int 0] ((fun _ => false, 0, 0, true, false, ad), (zI_589 xs), (fun _ _ => 0))
  refine mm_tk (c := (0 : Int32) = 0) (d := ¬ (0 : Int32) = 0) (by decide) ?_
  show mm_u _ _ _ _ _ _ [some (.ref 46), some (.int (xs 1))] [] ((fun _ => false, 0, 0, true, false, ad), (zI_589 xs), (fun _ _ => 0))
  refine mm_q1 (r := (-1)) ?_
  show mm_b _ _ _ _ _ [some (.ref 68), some (.ref 0), some (.ref 46), some (.ref 65), some (.int 0), none, none] [.int (-1), .int (-1)] ((fun _ => false, 599936, 6869426, true, false, ad), (zI_589 xs), (fun _ _ => 0))
  refine mm_tk (c := ((-1) : Int32) = (-1)) (d := ¬ ((-1) : Int32) = (-1)) (by decide) ?_
  show mm_u _ _ _ _ _ _ [some (.ref 68), some (.ref 0), some (.ref 46), some (.ref 65), some (.int 0), none, none] [] ((fun _ => false, 599936, 6869426, true, false, ad), (zI_589 xs), (fun _ _ => 0))
  refine mm_tk (c := (((nI 6) - 6) : Int32) < 6) (d := ¬ (((nI 6) - 6) : Int32) < 6) (by decide) ?_
  show mm_u _ _ _ _ _ _ [some (.ref 68), some (.ref 0), some (.ref 46), some (.ref 65), some (.int 6), none, none] [] ((fun _ => false, 599936, 6869426, true, false, ad), (zI_589 xs), (fun _ _ => 0))
  refine mm_ob (P := (1 : Int32) = 0 ∨ (1 : Int32) = 1) (by decide) ?_
  exact rfl
def zI_590 (xs : Nat → Int32) : mmI := mm_up (mm_I0 6 xs) 46 0 0
set_option maxRecDepth 20000 in
set_option maxHeartbeats 4000000 in
theorem op_40b (ad : Nat → Nat) (xs : Nat → Int32) (h0 : 10 < xs 1) : mm_w (fun v _ => v = some (.int 1)) (mm_wc 210) bk_law 1293 [some (.ref 68), some (.ref 0), some (.ref 46), some (.ref 65), some (.int 0), none, none] [] (mm_s0 ad 6 xs) := by
  refine mm_go [] 600 ?_
  refine mm_ob (P := vp_in 1 (nI 6).toNatClampNeg) (mm_inl (by decide)) ?_
  show mm_b _ _ _ _ _ [some (.ref 68), some (.ref 0), some (.ref 46), some (.ref 65), some (.int 0), none, none] [.int (xs 1), .ref 0] ((fun _ => false, 599936, 6869426, true, false, ad), (mm_I0 6 xs), (fun _ _ => 0))
  refine mm_e1 ?_
  refine mm_iv 600 (by rfl) ?_
  show mm_k _ _ _ _ _ [some (.ref 0), some (.int (xs 1))] [] ((fun _ => false, 0, 0, true, false, ad), (mm_I0 6 xs), (fun _ _ => 0))
  refine mm_swo (x := (xs 1)) (by simp only [Int32.lt_iff_toInt_lt, Int32.le_iff_toInt_le, ← Int32.toInt_inj, li_0, li_1, li_2, li_3, li_4, li_5, li_6, li_7, li_8, li_9, li_10, li_11, li_12, li_13, li_14, li_15] at *; omega) ?_
  refine mm_iv 600 (by rfl) ?_
  show mm_k _ _ _ _ _ [some (.ref 0), some (.int (xs 1))] [] ((fun _ => false, 0, 0, true, false, ad), (mm_I0 6 xs), (fun _ _ => 0))
  refine mm_el (c := ((xs 1) : Int32) < 0) (d := ¬ ((xs 1) : Int32) < 0) (fun q9 => by simp only [Int32.lt_iff_toInt_lt, Int32.le_iff_toInt_le, ← Int32.toInt_inj, li_0, li_1, li_2, li_3, li_4, li_5, li_6, li_7, li_8, li_9, li_10, li_11, li_12, li_13, li_14, li_15] at *; omega) ?_
  show mm_b _ _ _ _ _ [some (.ref 0), some (.int (xs 1))] [] ((fun _ => false, 0, 0, true, false, ad), (mm_I0 6 xs), (fun _ _ => 0))
  refine mm_el (c := ((xs 1) : Int32) ≤ 7) (d := ¬ ((xs 1) : Int32) ≤ 7) (fun q9 => by simp only [Int32.lt_iff_toInt_lt, Int32.le_iff_toInt_le, ← Int32.toInt_inj, li_0, li_1, li_2, li_3, li_4, li_5, li_6, li_7, li_8, li_9, li_10, li_11, li_12, li_13, li_14, li_15] at *; omega) ?_
  show mm_b _ _ _ _ _ [some (.ref 0), some (.int (xs 1))] [] ((fun _ => false, 0, 0, true, false, ad), (mm_I0 6 xs), (fun _ _ => 0))
  refine mm_q1 (r := (-1)) ⟨rfl, ?_⟩
  show mm_b _ _ _ _ _ [some (.ref 0), some (.int (xs 1))] [.int (-1)] ((fun _ => false, 0, 0, true, false, ad), (mm_I0 6 xs), (fun _ _ => 0))
  refine mm_q1 (r := (-1)) ?_
  show mm_b _ _ _ _ _ [some (.ref 68), some (.ref 0), some (.ref 46), some (.ref 65), some (.int 0), none, none] [.int (-1)] ((fun _ => false, 599936, 6869426, true, false, ad), (mm_I0 6 xs), (fun _ _ => 0))
  refine mm_ob (P := vp_in 1 (nI 6).toNatClampNeg) (mm_inl (by decide)) ?_
  show mm_b _ _ _ _ _ [some (.ref 68), some (.ref 0), some (.ref 46), some (.ref 65), some (.int 0), none, none] [.int (xs 1), .ref 46, .int (-1)] ((fun _ => false, 599936, 6869426, true, false, ad), (mm_I0 6 xs), (fun _ _ => 0))
  refine mm_e1 ?_
  refine mm_iv 600 (by rfl) ?_
  show mm_k _ _ _ _ _ [some (.ref 46), some (.int (xs 1))] [] ((fun _ => false, 0, 0, true, false, ad), (mm_I0 6 xs), (fun _ _ => 0))
  refine mm_tk (c := ¬ ((xs 1) : Int32) = 10) (d := ((xs 1) : Int32) = 10) (fun q9 => by simp only [Int32.lt_iff_toInt_lt, Int32.le_iff_toInt_le, ← Int32.toInt_inj, li_0, li_1, li_2, li_3, li_4, li_5, li_6, li_7, li_8, li_9, li_10, li_11, li_12, li_13, li_14, li_15] at *; omega) ?_
  show mm_u _ _ _ _ _ _ [some (.ref 46), some (.int (xs 1))] [] ((fun _ => false, 0, 0, true, false, ad), (zI_590 xs), (fun _ _ => 0))
  refine mm_el (c := ¬ (0 : Int32) = 0) (d := (0 : Int32) = 0) (by decide) ?_
  show mm_b _ _ _ _ _ [some (.ref 46), some (.int (xs 1))] [] ((fun _ => false, 0, 0, true, false, ad), (zI_590 xs), (fun _ _ => 0))
  refine mm_iv 600 (by rfl) ?_
  show mm_k _ _ _ _ _ [some (.int (xs 1)), some (.int 0), some (.int 9)] [] ((fun _ => false, 0, 0, true, false, ad), (zI_590 xs), (fun _ _ => 0))
  refine mm_el (c := ((xs 1) : Int32) < 0) (d := ¬ ((xs 1) : Int32) < 0) (fun q9 => by simp only [Int32.lt_iff_toInt_lt, Int32.le_iff_toInt_le, ← Int32.toInt_inj, li_0, li_1, li_2, li_3, li_4, li_5, li_6, li_7, li_8, li_9, li_10, li_11, li_12, li_13, li_14, li_15] at *; omega) ?_
  show mm_b _ _ _ _ _ [some (.int (xs 1)), some (.int 0), some (.int 9)] [] ((fun _ => false, 0, 0, true, false, ad), (zI_590 xs), (fun _ _ => 0))
  refine mm_tk (c := (9 : Int32) < (xs 1)) (d := ¬ (9 : Int32) < (xs 1)) (fun q9 => by simp only [Int32.lt_iff_toInt_lt, Int32.le_iff_toInt_le, ← Int32.toInt_inj, li_0, li_1, li_2, li_3, li_4, li_5, li_6, li_7, li_8, li_9, li_10, li_11, li_12, li_13, li_14, li_15] at *; omega) ?_
  show mm_u _ _ _ _ _ _ [some (.int (xs 1)), some (.int 0), some (.int 9)] [] ((fun _ => false, 0, 0, true, false, ad), (zI_590 xs), (fun _ _ => 0))
  refine mm_ob (P := (0 : Int32) = 0 ∨ (0 : Int32) = 1) (by decide) ?_
  refine mm_q1 (r := 0) ⟨rfl, ?_⟩
  show mm_b _ _ _ _ _ [some (.ref 46), some (.int (xs 1))] [.int 0] ((fun _ => false, 0, 0, true, false, ad), (zI_590 xs), (fun _ _ => 0))
  refine mm_tk (c := (0 : Int32) = 0) (d := ¬ (0 : Int32) = 0) (by decide) ?_
  show mm_u _ _ _ _ _ _ [some (.ref 46), some (.int (xs 1))] [] ((fun _ => false, 0, 0, true, false, ad), (zI_590 xs), (fun _ _ => 0))
  refine mm_q1 (r := (-1)) ?_
  show mm_b _ _ _ _ _ [some (.ref 68), some (.ref 0), some (.ref 46), some (.ref 65), some (.int 0), none, none] [.int (-1), .int (-1)] ((fun _ => false, 599936, 6869426, true, false, ad), (zI_590 xs), (fun _ _ => 0))
  refine mm_tk (c := ((-1) : Int32) = (-1)) (d := ¬ ((-1) : Int32) = (-1)) (by decide) ?_
  show mm_u _ _ _ _ _ _ [some (.ref 68), some (.ref 0), some (.ref 46), some (.ref 65), some (.int 0), none, none] [] ((fun _ => false, 599936, 6869426, true, false, ad), (zI_590 xs), (fun _ _ => 0))
  refine mm_tk (c := (((nI 6) - 6) : Int32) < 6) (d := ¬ (((nI 6) - 6) : Int32) < 6) (by decide) ?_
  show mm_u _ _ _ _ _ _ [some (.ref 68), some (.ref 0), some (.ref 46), some (.ref 65), some (.int 6), none, none] [] ((fun _ => false, 599936, 6869426, true, false, ad), (zI_590 xs), (fun _ _ => 0))
  refine mm_ob (P := (1 : Int32) = 0 ∨ (1 : Int32) = 1) (by decide) ?_
  exact rfl
