/-! one call on a fresh object: the calls -/
/- needs: 0 1 20 21 22 23 24 25 26 27 28 29 30 32 40 41 42 50 -/
def zI_408 (xs : Nat → Int32) : mmI := mm_up (mm_I0 6 xs) 46 0 0
set_option maxRecDepth 20000 in
set_option maxHeartbeats 4000000 in
theorem op_3 (ad : Nat → Nat) (xs : Nat → Int32) : mm_w (fun v _ => v = some (.int 1)) (mm_wc 210) bk_law 335 [some (.ref 68), some (.ref 0), some (.ref 46), some (.ref 65), some (.int 0), none, none] [] (mm_s0 ad 6 xs) := by
  refine mm_go [] 600 ?_
  refine mm_e1 ?_
  refine mm_iv 600 (by rfl) ?_
  show mm_k _ _ _ _ _ [some (.ref 0)] [] ((fun _ => false, 0, 0, true, false, ad), (mm_I0 6 xs), (fun _ _ => 0))
  refine mm_tk (c := ¬ (0 : Int32) = 4) (d := (0 : Int32) = 4) (by decide) ?_
  show mm_u _ _ _ _ _ _ [some (.ref 0)] [] ((fun _ => false, 0, 0, true, false, ad), (mm_I0 6 xs), (fun _ _ => 0))
  refine mm_q1 (r := (-1)) ?_
  show mm_b _ _ _ _ _ [some (.ref 68), some (.ref 0), some (.ref 46), some (.ref 65), some (.int 0), none, none] [.int (-1)] ((fun _ => false, 599936, 6869426, true, false, ad), (mm_I0 6 xs), (fun _ _ => 0))
  refine mm_e1 ?_
  refine mm_iv 600 (by rfl) ?_
  show mm_k _ _ _ _ _ [some (.ref 46)] [] ((fun _ => false, 0, 0, true, false, ad), (mm_I0 6 xs), (fun _ _ => 0))
  refine mm_tk (c := ¬ (0 : Int32) = 4) (d := (0 : Int32) = 4) (by decide) ?_
  show mm_u _ _ _ _ _ _ [some (.ref 46)] [] ((fun _ => false, 0, 0, true, false, ad), (zI_408 xs), (fun _ _ => 0))
  refine mm_q1 (r := (-1)) ?_
  show mm_b _ _ _ _ _ [some (.ref 68), some (.ref 0), some (.ref 46), some (.ref 65), some (.int 0), none, none] [.int (-1), .int (-1)] ((fun _ => false, 599936, 6869426, true, false, ad), (zI_408 xs), (fun _ _ => 0))
  refine mm_tk (c := ((-1) : Int32) = (-1)) (d := ¬ ((-1) : Int32) = (-1)) (by decide) ?_
  show mm_u _ _ _ _ _ _ [some (.ref 68), some (.ref 0), some (.ref 46), some (.ref 65), some (.int 0), none, none] [] ((fun _ => false, 599936, 6869426, true, false, ad), (zI_408 xs), (fun _ _ => 0))
  refine mm_tk (c := (((nI 6) - 6) : Int32) < 6) (d := ¬ (((nI 6) - 6) : Int32) < 6) (by decide) ?_
  show mm_u _ _ _ _ _ _ [some (.ref 68), some (.ref 0), some (.ref 46), some (.ref 65), some (.int 6), none, none] [] ((fun _ => false, 599936, 6869426, true, false, ad), (zI_408 xs), (fun _ _ => 0))
  refine mm_ob (P := (1 : Int32) = 0 ∨ (1 : Int32) = 1) (by decide) ?_
  exact rfl
def zI_421 (xs : Nat → Int32) : mmI := mm_up (mm_I0 6 xs) 0 7 1
def zI_422 (xs : Nat → Int32) : mmI := mm_up (zI_421 xs) 46 0 0
def zI_423 (xs : Nat → Int32) : mmI := mm_up (zI_422 xs) 46 11 0
def zI_424 (xs : Nat → Int32) : mmI := mm_up (zI_423 xs) 46 11 1
set_option maxRecDepth 20000 in
set_option maxHeartbeats 4000000 in
theorem op_7 (ad : Nat → Nat) (xs : Nat → Int32) : mm_w (fun v _ => v = some (.int 1)) (mm_wc 210) bk_law 459 [some (.ref 68), some (.ref 0), some (.ref 46), some (.ref 65), some (.int 0), none, none] [] (mm_s0 ad 6 xs) := by
  refine mm_go [] 600 ?_
  refine mm_ob (P := vp_in 1 (nI 6).toNatClampNeg) (mm_inl (by decide)) ?_
  show mm_b _ _ _ _ _ [some (.ref 68), some (.ref 0), some (.ref 46), some (.ref 65), some (.int 0), none, none] [.int (xs 1), .ref 0] ((fun _ => false, 599936, 6869426, true, false, ad), (mm_I0 6 xs), (fun _ _ => 0))
  refine mm_ob (P := vp_in 2 (nI 6).toNatClampNeg) (mm_inl (by decide)) ?_
  show mm_b _ _ _ _ _ [some (.ref 68), some (.ref 0), some (.ref 46), some (.ref 65), some (.int 0), none, none] [.int (xs 2), .int (xs 1), .ref 0] ((fun _ => false, 599936, 6869426, true, false, ad), (mm_I0 6 xs), (fun _ _ => 0))
  refine mm_e1 ?_
  refine mm_iv 600 (by rfl) ?_
  show mm_k _ _ _ _ _ [some (.ref 0), some (.int (xs 1)), some (.int (xs 2))] [] ((fun _ => false, 0, 0, true, false, ad), (mm_I0 6 xs), (fun _ _ => 0))
  refine mm_iv 600 (by rfl) ?_
  show mm_k _ _ _ _ _ [some (.ref 0), some (.int (xs 1))] [] ((fun _ => false, 0, 0, true, false, ad), (mm_I0 6 xs), (fun _ _ => 0))
  refine mm_tk (c := (0 : Int32) = 0) (d := ¬ (0 : Int32) = 0) (by decide) ?_
  show mm_u _ _ _ _ _ _ [some (.ref 0), some (.int (xs 1))] [] ((fun _ => false, 0, 0, true, false, ad), (mm_I0 6 xs), (fun _ _ => 0))
  refine mm_ob (P := (0 : Int32) = 0 ∨ (0 : Int32) = 1) (by decide) ?_
  refine mm_q1 (r := 0) ⟨rfl, ?_⟩
  show mm_b _ _ _ _ _ [some (.ref 0), some (.int (xs 1)), some (.int (xs 2))] [.int 0] ((fun _ => false, 0, 0, true, false, ad), (mm_I0 6 xs), (fun _ _ => 0))
  refine mm_tk (c := (0 : Int32) = 0) (d := ¬ (0 : Int32) = 0) (by decide) ?_
  show mm_u _ _ _ _ _ _ [some (.ref 0), some (.int (xs 1)), some (.int (xs 2))] [] ((fun _ => false, 0, 0, true, false, ad), (mm_I0 6 xs), (fun _ _ => 0))
  refine mm_iv 600 (by rfl) ?_
  show mm_k _ _ _ _ _ [some (.ref 0), some (.int 1)] [] ((fun _ => false, 0, 0, true, false, ad), (mm_I0 6 xs), (fun _ _ => 0))
  refine mm_q1 (r := (-1)) ⟨rfl, ?_⟩
  show mm_b _ _ _ _ _ [some (.ref 0), none, none] [.int (-1)] ((fun _ => false, 0, 0, true, false, ad), (zI_421 xs), (fun _ _ => 0))
  refine mm_q1 (r := (-1)) ?_
  show mm_b _ _ _ _ _ [some (.ref 68), some (.ref 0), some (.ref 46), some (.ref 65), some (.int 0), none, none] [.int (-1)] ((fun _ => false, 599936, 6869426, true, false, ad), (zI_421 xs), (fun _ _ => 0))
  refine mm_ob (P := vp_in 1 (nI 6).toNatClampNeg) (mm_inl (by decide)) ?_
  show mm_b _ _ _ _ _ [some (.ref 68), some (.ref 0), some (.ref 46), some (.ref 65), some (.int 0), none, none] [.int (xs 1), .ref 46, .int (-1)] ((fun _ => false, 599936, 6869426, true, false, ad), (zI_421 xs), (fun _ _ => 0))
  refine mm_ob (P := vp_in 2 (nI 6).toNatClampNeg) (mm_inl (by decide)) ?_
  show mm_b _ _ _ _ _ [some (.ref 68), some (.ref 0), some (.ref 46), some (.ref 65), some (.int 0), none, none] [.int (xs 2), .int (xs 1), .ref 46, .int (-1)] ((fun _ => false, 599936, 6869426, true, false, ad), (zI_421 xs), (fun _ _ => 0))
  refine mm_e1 ?_
  refine mm_iv 600 (by rfl) ?_
  show mm_k _ _ _ _ _ [some (.ref 46), some (.int (xs 1)), some (.int (xs 2))] [] ((fun _ => false, 0, 0, true, false, ad), (zI_421 xs), (fun _ _ => 0))
  refine mm_iv 600 (by rfl) ?_
  show mm_k _ _ _ _ _ [some (.ref 46)] [] ((fun _ => false, 0, 0, true, false, ad), (zI_421 xs), (fun _ _ => 0))
  refine mm_q0 ⟨rfl, ?_⟩
  show mm_b _ _ _ _ _ [some (.ref 46), some (.int (xs 1)), some (.int (xs 2))] [] ((fun _ => false, 0, 0, true, false, ad), (zI_423 xs), (fun _ _ => 0))
  refine mm_iv 600 (by rfl) ?_
  show mm_k _ _ _ _ _ [some (.ref 46), some (.int (xs 1))] [] ((fun _ => false, 0, 0, true, false, ad), (zI_423 xs), (fun _ _ => 0))
  refine mm_tk (c := (0 : Int32) = 0) (d := ¬ (0 : Int32) = 0) (by decide) ?_
  show mm_u _ _ _ _ _ _ [some (.ref 46), some (.int (xs 1))] [] ((fun _ => false, 0, 0, true, false, ad), (zI_423 xs), (fun _ _ => 0))
  refine mm_ob (P := (0 : Int32) = 0 ∨ (0 : Int32) = 1) (by decide) ?_
  refine mm_q1 (r := 0) ⟨rfl, ?_⟩
  show mm_b _ _ _ _ _ [some (.ref 46), some (.int (xs 1)), some (.int (xs 2))] [.int 0] ((fun _ => false, 0, 0, true, false, ad), (zI_423 xs), (fun _ _ => 0))
  refine mm_tk (c := (0 : Int32) = 0) (d := ¬ (0 : Int32) = 0) (by decide) ?_
  show mm_u _ _ _ _ _ _ [some (.ref 46), some (.int (xs 1)), some (.int (xs 2))] [] ((fun _ => false, 0, 0, true, false, ad), (zI_423 xs), (fun _ _ => 0))
  refine mm_iv 600 (by rfl) ?_
  show mm_k _ _ _ _ _ [some (.ref 46), some (.int 1)] [] ((fun _ => false, 0, 0, true, false, ad), (zI_423 xs), (fun _ _ => 0))
  refine mm_q1 (r := (-1)) ⟨rfl, ?_⟩
  show mm_b _ _ _ _ _ [some (.ref 46), none, none] [.int (-1)] ((fun _ => false, 0, 0, true, false, ad), (zI_424 xs), (fun _ _ => 0))
  refine mm_q1 (r := (-1)) ?_
  show mm_b _ _ _ _ _ [some (.ref 68), some (.ref 0), some (.ref 46), some (.ref 65), some (.int 0), none, none] [.int (-1), .int (-1)] ((fun _ => false, 599936, 6869426, true, false, ad), (zI_424 xs), (fun _ _ => 0))
  refine mm_tk (c := ((-1) : Int32) = (-1)) (d := ¬ ((-1) : Int32) = (-1)) (by decide) ?_
  show mm_u _ _ _ _ _ _ [some (.ref 68), some (.ref 0), some (.ref 46), some (.ref 65), some (.int 0), none, none] [] ((fun _ => false, 599936, 6869426, true, false, ad), (zI_424 xs), (fun _ _ => 0))
  refine mm_tk (c := (((nI 6) - 6) : Int32) < 6) (d := ¬ (((nI 6) - 6) : Int32) < 6) (by decide) ?_
  show mm_u _ _ _ _ _ _ [some (.ref 68), some (.ref 0), some (.ref 46), some (.ref 65), some (.int 6), none, none] [] ((fun _ => false, 599936, 6869426, true, false, ad), (zI_424 xs), (fun _ _ => 0))
  refine mm_ob (P := (1 : Int32) = 0 ∨ (1 : Int32) = 1) (by decide) ?_
  exact rfl
def zI_441 (xs : Nat → Int32) : mmI := mm_up (mm_I0 6 xs) 0 7 1
def zI_442 (xs : Nat → Int32) : mmI := mm_up (zI_441 xs) 46 0 0
def zI_443 (xs : Nat → Int32) : mmI := mm_up (zI_442 xs) 46 11 0
def zI_444 (xs : Nat → Int32) : mmI := mm_up (zI_443 xs) 46 11 1
set_option maxRecDepth 20000 in
set_option maxHeartbeats 4000000 in
theorem op_11 (ad : Nat → Nat) (xs : Nat → Int32) : mm_w (fun v _ => v = some (.int 1)) (mm_wc 210) bk_law 575 [some (.ref 68), some (.ref 0), some (.ref 46), some (.ref 65), some (.int 0), none, none] [] (mm_s0 ad 6 xs) := by
  refine mm_go [] 600 ?_
  refine mm_e1 ?_
  refine mm_iv 600 (by rfl) ?_
  show mm_k _ _ _ _ _ [some (.ref 0)] [] ((fun _ => false, 0, 0, true, false, ad), (mm_I0 6 xs), (fun _ _ => 0))
  refine mm_tk (c := (0 : Int32) = 0) (d := ¬ (0 : Int32) = 0) (by decide) ?_
  show mm_u _ _ _ _ _ _ [some (.ref 0)] [] ((fun _ => false, 0, 0, true, false, ad), (mm_I0 6 xs), (fun _ _ => 0))
  refine mm_iv 600 (by rfl) ?_
  show mm_k _ _ _ _ _ [some (.ref 0), some (.int 1)] [] ((fun _ => false, 0, 0, true, false, ad), (mm_I0 6 xs), (fun _ _ => 0))
  refine mm_q1 (r := (-1)) ⟨rfl, ?_⟩
  show mm_b _ _ _ _ _ [some (.ref 0)] [.int (-1)] ((fun _ => false, 0, 0, true, false, ad), (zI_441 xs), (fun _ _ => 0))
  refine mm_q1 (r := (-1)) ?_
  show mm_b _ _ _ _ _ [some (.ref 68), some (.ref 0), some (.ref 46), some (.ref 65), some (.int 0), none, none] [.int (-1)] ((fun _ => false, 599936, 6869426, true, false, ad), (zI_441 xs), (fun _ _ => 0))
  refine mm_e1 ?_
  refine mm_iv 600 (by rfl) ?_
  show mm_k _ _ _ _ _ [some (.ref 46)] [] ((fun _ => false, 0, 0, true, false, ad), (zI_441 xs), (fun _ _ => 0))
  refine mm_iv 600 (by rfl) ?_
  show mm_k _ _ _ _ _ [some (.ref 46)] [] ((fun _ => false, 0, 0, true, false, ad), (zI_441 xs), (fun _ _ => 0))
  refine mm_q0 ⟨rfl, ?_⟩
  show mm_b _ _ _ _ _ [some (.ref 46)] [] ((fun _ => false, 0, 0, true, false, ad), (zI_443 xs), (fun _ _ => 0))
  refine mm_tk (c := (0 : Int32) = 0) (d := ¬ (0 : Int32) = 0) (by decide) ?_
  show mm_u _ _ _ _ _ _ [some (.ref 46)] [] ((fun _ => false, 0, 0, true, false, ad), (zI_443 xs), (fun _ _ => 0))
  refine mm_iv 600 (by rfl) ?_
  show mm_k _ _ _ _ _ [some (.ref 46), some (.int 1)] [] ((fun _ => false, 0, 0, true, false, ad), (zI_443 xs), (fun _ _ => 0))
  refine mm_q1 (r := (-1)) ⟨rfl, ?_⟩
  show mm_b _ _ _ _ _ [some (.ref 46)] [.int (-1)] ((fun _ => false, 0, 0, true, false, ad), (zI_444 xs), (fun _ _ => 0))
  refine mm_q1 (r := (-1)) ?_
  show mm_b _ _ _ _ _ [some (.ref 68), some (.ref 0), some (.ref 46), some (.ref 65), some (.int 0), none, none] [.int (-1), .int (-1)] ((fun _ => false, 599936, 6869426, true, false, ad), (zI_444 xs), (fun _ _ => 0))
  refine mm_tk (c := ((-1) : Int32) = (-1)) (d := ¬ ((-1) : Int32) = (-1)) (by decide) ?_
  show mm_u _ _ _ _ _ _ [some (.ref 68), some (.ref 0), some (.ref 46), some (.ref 65), some (.int 0), none, none] [] ((fun _ => false, 599936, 6869426, true, false, ad), (zI_444 xs), (fun _ _ => 0))
  refine mm_tk (c := (((nI 6) - 6) : Int32) < 6) (d := ¬ (((nI 6) - 6) : Int32) < 6) (by decide) ?_
  show mm_u _ _ _ _ _ _ [some (.ref 68), some (.ref 0), some (.ref 46), some (.ref 65), some (.int 6), none, none] [] ((fun _ => false, 599936, 6869426, true, false, ad), (zI_444 xs), (fun _ _ => 0))
  refine mm_ob (P := (1 : Int32) = 0 ∨ (1 : Int32) = 1) (by decide) ?_
  exact rfl
def zI_457 (xs : Nat → Int32) : mmI := mm_up (mm_I0 6 xs) 0 7 1
def zI_458 (xs : Nat → Int32) : mmI := mm_up (zI_457 xs) 46 0 0
def zI_459 (xs : Nat → Int32) : mmI := mm_up (zI_458 xs) 46 11 0
def zI_460 (xs : Nat → Int32) : mmI := mm_up (zI_459 xs) 46 11 1
set_option maxRecDepth 20000 in
set_option maxHeartbeats 4000000 in
theorem op_15 (ad : Nat → Nat) (xs : Nat → Int32) : mm_w (fun v _ => v = some (.int 1)) (mm_wc 210) bk_law 639 [some (.ref 68), some (.ref 0), some (.ref 46), some (.ref 65), some (.int 0), none, none] [] (mm_s0 ad 6 xs) := by
  refine mm_go [] 600 ?_
  refine mm_ob (P := vp_in 1 (nI 6).toNatClampNeg) (mm_inl (by decide)) ?_
  show mm_b _ _ _ _ _ [some (.ref 68), some (.ref 0), some (.ref 46), some (.ref 65), some (.int 0), none, none] [.int (xs 1), .ref 0] ((fun _ => false, 599936, 6869426, true, false, ad), (mm_I0 6 xs), (fun _ _ => 0))
  refine mm_e1 ?_
  refine mm_iv 600 (by rfl) ?_
  show mm_k _ _ _ _ _ [some (.ref 0), some (.int (xs 1))] [] ((fun _ => false, 0, 0, true, false, ad), (mm_I0 6 xs), (fun _ _ => 0))
  refine mm_iv 600 (by rfl) ?_
  show mm_k _ _ _ _ _ [some (.ref 0), some (.int (xs 1))] [] ((fun _ => false, 0, 0, true, false, ad), (mm_I0 6 xs), (fun _ _ => 0))
  refine mm_tk (c := (0 : Int32) = 0) (d := ¬ (0 : Int32) = 0) (by decide) ?_
  show mm_u _ _ _ _ _ _ [some (.ref 0), some (.int (xs 1))] [] ((fun _ => false, 0, 0, true, false, ad), (mm_I0 6 xs), (fun _ _ => 0))
  refine mm_ob (P := (0 : Int32) = 0 ∨ (0 : Int32) = 1) (by decide) ?_
  refine mm_q1 (r := 0) ⟨rfl, ?_⟩
  show mm_b _ _ _ _ _ [some (.ref 0), some (.int (xs 1))] [.int 0] ((fun _ => false, 0, 0, true, false, ad), (mm_I0 6 xs), (fun _ _ => 0))
  refine mm_el (c := ¬ (0 : Int32) = 0) (d := (0 : Int32) = 0) (by decide) ?_
  show mm_b _ _ _ _ _ [some (.ref 0), some (.int (xs 1))] [] ((fun _ => false, 0, 0, true, false, ad), (mm_I0 6 xs), (fun _ _ => 0))
  refine mm_iv 600 (by rfl) ?_
  show mm_k _ _ _ _ _ [some (.ref 0), some (.int 1)] [] ((fun _ => false, 0, 0, true, false, ad), (mm_I0 6 xs), (fun _ _ => 0))
  refine mm_q1 (r := (-1)) ⟨rfl, ?_⟩
  show mm_b _ _ _ _ _ [some (.ref 0), some (.int (xs 1))] [.int (-1)] ((fun _ => false, 0, 0, true, false, ad), (zI_457 xs), (fun _ _ => 0))
  refine mm_q1 (r := (-1)) ?_
  show mm_b _ _ _ _ _ [some (.ref 68), some (.ref 0), some (.ref 46), some (.ref 65), some (.int 0), none, none] [.int (-1)] ((fun _ => false, 599936, 6869426, true, false, ad), (zI_457 xs), (fun _ _ => 0))
  refine mm_ob (P := vp_in 1 (nI 6).toNatClampNeg) (mm_inl (by decide)) ?_
  show mm_b _ _ _ _ _ [some (.ref 68), some (.ref 0), some (.ref 46), some (.ref 65), some (.int 0), none, none] [.int (xs 1), .ref 46, .int (-1)] ((fun _ => false, 599936, 6869426, true, false, ad), (zI_457 xs), (fun _ _ => 0))
  refine mm_e1 ?_
  refine mm_iv 600 (by rfl) ?_
  show mm_k _ _ _ _ _ [some (.ref 46), some (.int (xs 1)), none] [] ((fun _ => false, 0, 0, true, false, ad), (zI_457 xs), (fun _ _ => 0))
  refine mm_iv 600 (by rfl) ?_
  show mm_k _ _ _ _ _ [some (.ref 46)] [] ((fun _ => false, 0, 0, true, false, ad), (zI_457 xs), (fun _ _ => 0))
  refine mm_q0 ⟨rfl, ?_⟩
  show mm_b _ _ _ _ _ [some (.ref 46), some (.int (xs 1)), none] [] ((fun _ => false, 0, 0, true, false, ad), (zI_459 xs), (fun _ _ => 0))
  refine mm_iv 600 (by rfl) ?_
  show mm_k _ _ _ _ _ [some (.ref 46), some (.int (xs 1))] [] ((fun _ => false, 0, 0, true, false, ad), (zI_459 xs), (fun _ _ => 0))
  refine mm_tk (c := (0 : Int32) = 0) (d := ¬ (0 : Int32) = 0) (by decide) ?_
  show mm_u _ _ _ _ _ _ [some (.ref 46), some (.int (xs 1))] [] ((fun _ => false, 0, 0, true, false, ad), (zI_459 xs), (fun _ _ => 0))
  refine mm_ob (P := (0 : Int32) = 0 ∨ (0 : Int32) = 1) (by decide) ?_
  refine mm_q1 (r := 0) ⟨rfl, ?_⟩
  show mm_b _ _ _ _ _ [some (.ref 46), some (.int (xs 1)), none] [.int 0] ((fun _ => false, 0, 0, true, false, ad), (zI_459 xs), (fun _ _ => 0))
  refine mm_el (c := ¬ (0 : Int32) = 0) (d := (0 : Int32) = 0) (by decide) ?_
  show mm_b _ _ _ _ _ [some (.ref 46), some (.int (xs 1)), none] [] ((fun _ => false, 0, 0, true, false, ad), (zI_459 xs), (fun _ _ => 0))
  refine mm_iv 600 (by rfl) ?_
  show mm_k _ _ _ _ _ [some (.ref 46), some (.int 1)] [] ((fun _ => false, 0, 0, true, false, ad), (zI_459 xs), (fun _ _ => 0))
  refine mm_q1 (r := (-1)) ⟨rfl, ?_⟩
  show mm_b _ _ _ _ _ [some (.ref 46), some (.int (xs 1)), none] [.int (-1)] ((fun _ => false, 0, 0, true, false, ad), (zI_460 xs), (fun _ _ => 0))
  refine mm_q1 (r := (-1)) ?_
  show mm_b _ _ _ _ _ [some (.ref 68), some (.ref 0), some (.ref 46), some (.ref 65), some (.int 0), none, none] [.int (-1), .int (-1)] ((fun _ => false, 599936, 6869426, true, false, ad), (zI_460 xs), (fun _ _ => 0))
  refine mm_tk (c := ((-1) : Int32) = (-1)) (d := ¬ ((-1) : Int32) = (-1)) (by decide) ?_
  show mm_u _ _ _ _ _ _ [some (.ref 68), some (.ref 0), some (.ref 46), some (.ref 65), some (.int 0), none, none] [] ((fun _ => false, 599936, 6869426, true, false, ad), (zI_460 xs), (fun _ _ => 0))
  refine mm_tk (c := (((nI 6) - 6) : Int32) < 6) (d := ¬ (((nI 6) - 6) : Int32) < 6) (by decide) ?_
  show mm_u _ _ _ _ _ _ [some (.ref 68), some (.ref 0), some (.ref 46), some (.ref 65), some (.int 6), none, none] [] ((fun _ => false, 599936, 6869426, true, false, ad), (zI_460 xs), (fun _ _ => 0))
  refine mm_ob (P := (1 : Int32) = 0 ∨ (1 : Int32) = 1) (by decide) ?_
  exact rfl
def zI_473 (xs : Nat → Int32) : mmI := mm_up (mm_I0 6 xs) 0 7 1
def zI_474 (xs : Nat → Int32) : mmI := mm_up (zI_473 xs) 46 0 0
def zI_475 (xs : Nat → Int32) : mmI := mm_up (zI_474 xs) 46 11 0
def zI_476 (xs : Nat → Int32) : mmI := mm_up (zI_475 xs) 46 11 1
set_option maxRecDepth 20000 in
set_option maxHeartbeats 4000000 in
theorem op_19 (ad : Nat → Nat) (xs : Nat → Int32) : mm_w (fun v _ => v = some (.int 1)) (mm_wc 210) bk_law 715 [some (.ref 68), some (.ref 0), some (.ref 46), some (.ref 65), some (.int 0), none, none] [] (mm_s0 ad 6 xs) := by
  refine mm_go [] 600 ?_
  refine mm_e1 ?_
  refine mm_iv 600 (by rfl) ?_
  show mm_k _ _ _ _ _ [some (.ref 0)] [] ((fun _ => false, 0, 0, true, false, ad), (mm_I0 6 xs), (fun _ _ => 0))
  refine mm_tk (c := (0 : Int32) = 0) (d := ¬ (0 : Int32) = 0) (by decide) ?_
  show mm_u _ _ _ _ _ _ [some (.ref 0)] [] ((fun _ => false, 0, 0, true, false, ad), (mm_I0 6 xs), (fun _ _ => 0))
  refine mm_iv 600 (by rfl) ?_
  show mm_k _ _ _ _ _ [some (.ref 0), some (.int 1)] [] ((fun _ => false, 0, 0, true, false, ad), (mm_I0 6 xs), (fun _ _ => 0))
  refine mm_q1 (r := (-1)) ⟨rfl, ?_⟩
  show mm_b _ _ _ _ _ [some (.ref 0)] [.int (-1)] ((fun _ => false, 0, 0, true, false, ad), (zI_473 xs), (fun _ _ => 0))
  refine mm_q1 (r := (-1)) ?_
  show mm_b _ _ _ _ _ [some (.ref 68), some (.ref 0), some (.ref 46), some (.ref 65), some (.int 0), none, none] [.int (-1)] ((fun _ => false, 599936, 6869426, true, false, ad), (zI_473 xs), (fun _ _ => 0))
  refine mm_e1 ?_
  refine mm_iv 600 (by rfl) ?_
  show mm_k _ _ _ _ _ [some (.ref 46)] [] ((fun _ => false, 0, 0, true, false, ad), (zI_473 xs), (fun _ _ => 0))
  refine mm_iv 600 (by rfl) ?_
  show mm_k _ _ _ _ _ [some (.ref 46)] [] ((fun _ => false, 0, 0, true, false, ad), (zI_473 xs), (fun _ _ => 0))
  refine mm_q0 ⟨rfl, ?_⟩
  show mm_b _ _ _ _ _ [some (.ref 46)] [] ((fun _ => false, 0, 0, true, false, ad), (zI_475 xs), (fun _ _ => 0))
  refine mm_el (c := ¬ (0 : Int32) = 0) (d := (0 : Int32) = 0) (by decide) ?_
  show mm_b _ _ _ _ _ [some (.ref 46)] [] ((fun _ => false, 0, 0, true, false, ad), (zI_475 xs), (fun _ _ => 0))
  refine mm_iv 600 (by rfl) ?_
  show mm_k _ _ _ _ _ [some (.ref 46), some (.int 1)] [] ((fun _ => false, 0, 0, true, false, ad), (zI_475 xs), (fun _ _ => 0))
  refine mm_q1 (r := (-1)) ⟨rfl, ?_⟩
  show mm_b _ _ _ _ _ [some (.ref 46)] [.int (-1)] ((fun _ => false, 0, 0, true, false, ad), (zI_476 xs), (fun _ _ => 0))
  refine mm_q1 (r := (-1)) ?_
  show mm_b _ _ _ _ _ [some (.ref 68), some (.ref 0), some (.ref 46), some (.ref 65), some (.int 0), none, none] [.int (-1), .int (-1)] ((fun _ => false, 599936, 6869426, true, false, ad), (zI_476 xs), (fun _ _ => 0))
  refine mm_tk (c := ((-1) : Int32) = (-1)) (d := ¬ ((-1) : Int32) = (-1)) (by decide) ?_
  show mm_u _ _ _ _ _ _ [some (.ref 68), some (.ref 0), some (.ref 46), some (.ref 65), some (.int 0), none, none] [] ((fun _ => false, 599936, 6869426, true, false, ad), (zI_476 xs), (fun _ _ => 0))
  refine mm_tk (c := (((nI 6) - 6) : Int32) < 6) (d := ¬ (((nI 6) - 6) : Int32) < 6) (by decide) ?_
  show mm_u _ _ _ _ _ _ [some (.ref 68), some (.ref 0), some (.ref 46), some (.ref 65), some (.int 6), none, none] [] ((fun _ => false, 599936, 6869426, true, false, ad), (zI_476 xs), (fun _ _ => 0))
  refine mm_ob (P := (1 : Int32) = 0 ∨ (1 : Int32) = 1) (by decide) ?_
  exact rfl
def zI_489 (xs : Nat → Int32) : mmI := mm_up (mm_I0 6 xs) 0 7 1
def zI_490 (xs : Nat → Int32) : mmI := mm_up (zI_489 xs) 46 0 0
def zI_491 (xs : Nat → Int32) : mmI := mm_up (zI_490 xs) 46 11 0
def zI_492 (xs : Nat → Int32) : mmI := mm_up (zI_491 xs) 46 11 1
set_option maxRecDepth 20000 in
set_option maxHeartbeats 4000000 in
theorem op_23 (ad : Nat → Nat) (xs : Nat → Int32) : mm_w (fun v _ => v = some (.int 1)) (mm_wc 210) bk_law 803 [some (.ref 68), some (.ref 0), some (.ref 46), some (.ref 65), some (.int 0), none, none] [] (mm_s0 ad 6 xs) := by
  refine mm_go [] 600 ?_
  refine mm_e1 ?_
  refine mm_iv 600 (by rfl) ?_
  show mm_k _ _ _ _ _ [some (.ref 0), none] [] ((fun _ => false, 0, 0, true, false, ad), (mm_I0 6 xs), (fun _ _ => 0))
  refine mm_el (c := ¬ (0 : Int32) = 0) (d := (0 : Int32) = 0) (by decide) ?_
  show mm_b _ _ _ _ _ [some (.ref 0), none] [] ((fun _ => false, 0, 0, true, false, ad), (mm_I0 6 xs), (fun _ _ => 0))
  refine mm_iv 600 (by rfl) ?_
  show mm_k _ _ _ _ _ [some (.ref 0), some (.int 1)] [] ((fun _ => false, 0, 0, true, false, ad), (mm_I0 6 xs), (fun _ _ => 0))
  refine mm_q1 (r := (-1)) ⟨rfl, ?_⟩
  show mm_b _ _ _ _ _ [some (.ref 0), none] [.int (-1)] ((fun _ => false, 0, 0, true, false, ad), (zI_489 xs), (fun _ _ => 0))
  refine mm_q1 (r := (-1)) ?_
  show mm_b _ _ _ _ _ [some (.ref 68), some (.ref 0), some (.ref 46), some (.ref 65), some (.int 0), none, none] [.int (-1)] ((fun _ => false, 599936, 6869426, true, false, ad), (zI_489 xs), (fun _ _ => 0))
  refine mm_e1 ?_
  refine mm_iv 600 (by rfl) ?_
  show mm_k _ _ _ _ _ [some (.ref 46), none] [] ((fun _ => false, 0, 0, true, false, ad), (zI_489 xs), (fun _ _ => 0))
  refine mm_iv 600 (by rfl) ?_
  show mm_k _ _ _ _ _ [some (.ref 46)] [] ((fun _ => false, 0, 0, true, false, ad), (zI_489 xs), (fun _ _ => 0))
  refine mm_q0 ⟨rfl, ?_⟩
  show mm_b _ _ _ _ _ [some (.ref 46), none] [] ((fun _ => false, 0, 0, true, false, ad), (zI_491 xs), (fun _ _ => 0))
  refine mm_el (c := ¬ (0 : Int32) = 0) (d := (0 : Int32) = 0) (by decide) ?_
  show mm_b _ _ _ _ _ [some (.ref 46), none] [] ((fun _ => false, 0, 0, true, false, ad), (zI_491 xs), (fun _ _ => 0))
  refine mm_iv 600 (by rfl) ?_
  show mm_k _ _ _ _ _ [some (.ref 46), some (.int 1)] [] ((fun _ => false, 0, 0, true, false, ad), (zI_491 xs), (fun _ _ => 0))
  refine mm_q1 (r := (-1)) ⟨rfl, ?_⟩
  show mm_b _ _ _ _ _ [some (.ref 46), none] [.int (-1)] ((fun _ => false, 0, 0, true, false, ad), (zI_492 xs), (fun _ _ => 0))
  refine mm_q1 (r := (-1)) ?_
  show mm_b _ _ _ _ _ [some (.ref 68), some (.ref 0), some (.ref 46), some (.ref 65), some (.int 0), none, none] [.int (-1), .int (-1)] ((fun _ => false, 599936, 6869426, true, false, ad), (zI_492 xs), (fun _ _ => 0))
  refine mm_tk (c := ((-1) : Int32) = (-1)) (d := ¬ ((-1) : Int32) = (-1)) (by decide) ?_
  show mm_u _ _ _ _ _ _ [some (.ref 68), some (.ref 0), some (.ref 46), some (.ref 65), some (.int 0), none, none] [] ((fun _ => false, 599936, 6869426, true, false, ad), (zI_492 xs), (fun _ _ => 0))
  refine mm_tk (c := (((nI 6) - 6) : Int32) < 6) (d := ¬ (((nI 6) - 6) : Int32) < 6) (by decide) ?_
  show mm_u _ _ _ _ _ _ [some (.ref 68), some (.ref 0), some (.ref 46), some (.ref 65), some (.int 6), none, none] [] ((fun _ => false, 599936, 6869426, true, false, ad), (zI_492 xs), (fun _ _ => 0))
  refine mm_ob (P := (1 : Int32) = 0 ∨ (1 : Int32) = 1) (by decide) ?_
  exact rfl
def zI_505 (xs : Nat → Int32) : mmI := mm_up (mm_I0 6 xs) 0 7 1
def zI_506 (xs : Nat → Int32) : mmI := mm_up (zI_505 xs) 46 0 0
def zI_507 (xs : Nat → Int32) : mmI := mm_up (zI_506 xs) 46 11 0
def zI_508 (xs : Nat → Int32) : mmI := mm_up (zI_507 xs) 46 11 1
set_option maxRecDepth 20000 in
set_option maxHeartbeats 4000000 in
theorem op_27 (ad : Nat → Nat) (xs : Nat → Int32) : mm_w (fun v _ => v = some (.int 1)) (mm_wc 210) bk_law 879 [some (.ref 68), some (.ref 0), some (.ref 46), some (.ref 65), some (.int 0), none, none] [] (mm_s0 ad 6 xs) := by
  refine mm_go [] 600 ?_
  refine mm_e1 ?_
  refine mm_iv 600 (by rfl) ?_
  show mm_k _ _ _ _ _ [some (.ref 0)] [] ((fun _ => false, 0, 0, true, false, ad), (mm_I0 6 xs), (fun _ _ => 0))
  refine mm_tk (c := (0 : Int32) = 0) (d := ¬ (0 : Int32) = 0) (by decide) ?_
  show mm_u _ _ _ _ _ _ [some (.ref 0)] [] ((fun _ => false, 0, 0, true, false, ad), (mm_I0 6 xs), (fun _ _ => 0))
  refine mm_iv 600 (by rfl) ?_
  show mm_k _ _ _ _ _ [some (.ref 0), some (.int 1)] [] ((fun _ => false, 0, 0, true, false, ad), (mm_I0 6 xs), (fun _ _ => 0))
  refine mm_q1 (r := (-1)) ⟨rfl, ?_⟩
  show mm_b _ _ _ _ _ [some (.ref 0)] [.int (-1)] ((fun _ => false, 0, 0, true, false, ad), (zI_505 xs), (fun _ _ => 0))
  refine mm_q1 (r := (-1)) ?_
  show mm_b _ _ _ _ _ [some (.ref 68), some (.ref 0), some (.ref 46), some (.ref 65), some (.int 0), none, none] [.int (-1)] ((fun _ => false, 599936, 6869426, true, false, ad), (zI_505 xs), (fun _ _ => 0))
  refine mm_e1 ?_
  refine mm_iv 600 (by rfl) ?_
  show mm_k _ _ _ _ _ [some (.ref 46), none, none, none, none, none] [] ((fun _ => false, 0, 0, true, false, ad), (zI_505 xs), (fun _ _ => 0))
  refine mm_iv 600 (by rfl) ?_
  show mm_k _ _ _ _ _ [some (.ref 46)] [] ((fun _ => false, 0, 0, true, false, ad), (zI_505 xs), (fun _ _ => 0))
  refine mm_q0 ⟨rfl, ?_⟩
  show mm_b _ _ _ _ _ [some (.ref 46), none, none, none, none, none] [] ((fun _ => false, 0, 0, true, false, ad), (zI_507 xs), (fun _ _ => 0))
  refine mm_el (c := ¬ (0 : Int32) = 0) (d := (0 : Int32) = 0) (by decide) ?_
  show mm_b _ _ _ _ _ [some (.ref 46), none, none, none, none, none] [] ((fun _ => false, 0, 0, true, false, ad), (zI_507 xs), (fun _ _ => 0))
  refine mm_iv 600 (by rfl) ?_
  show mm_k _ _ _ _ _ [some (.ref 46), some (.int 1)] [] ((fun _ => false, 0, 0, true, false, ad), (zI_507 xs), (fun _ _ => 0))
  refine mm_q1 (r := (-1)) ⟨rfl, ?_⟩
  show mm_b _ _ _ _ _ [some (.ref 46), none, none, none, none, none] [.int (-1)] ((fun _ => false, 0, 0, true, false, ad), (zI_508 xs), (fun _ _ => 0))
  refine mm_q1 (r := (-1)) ?_
  show mm_b _ _ _ _ _ [some (.ref 68), some (.ref 0), some (.ref 46), some (.ref 65), some (.int 0), none, none] [.int (-1), .int (-1)] ((fun _ => false, 599936, 6869426, true, false, ad), (zI_508 xs), (fun _ _ => 0))
  refine mm_tk (c := ((-1) : Int32) = (-1)) (d := ¬ ((-1) : Int32) = (-1)) (by decide) ?_
  show mm_u _ _ _ _ _ _ [some (.ref 68), some (.ref 0), some (.ref 46), some (.ref 65), some (.int 0), none, none] [] ((fun _ => false, 599936, 6869426, true, false, ad), (zI_508 xs), (fun _ _ => 0))
  refine mm_tk (c := (((nI 6) - 6) : Int32) < 6) (d := ¬ (((nI 6) - 6) : Int32) < 6) (by decide) ?_
  show mm_u _ _ _ _ _ _ [some (.ref 68), some (.ref 0), some (.ref 46), some (.ref 65), some (.int 6), none, none] [] ((fun _ => false, 599936, 6869426, true, false, ad), (zI_508 xs), (fun _ _ => 0))
  refine mm_ob (P := (1 : Int32) = 0 ∨ (1 : Int32) = 1) (by decide) ?_
  exact rfl
def zI_525 (xs : Nat → Int32) : mmI := mm_up (mm_I0 6 xs) 0 7 1
def zI_526 (xs : Nat → Int32) : mmI := mm_up (zI_525 xs) 46 0 0
def zI_527 (xs : Nat → Int32) : mmI := mm_up (zI_526 xs) 46 11 0
def zI_528 (xs : Nat → Int32) : mmI := mm_up (zI_527 xs) 46 11 1
set_option maxRecDepth 20000 in
set_option maxHeartbeats 4000000 in
theorem op_31 (ad : Nat → Nat) (xs : Nat → Int32) : mm_w (fun v _ => v = some (.int 1)) (mm_wc 210) bk_law 996 [some (.ref 68), some (.ref 0), some (.ref 46), some (.ref 65), some (.int 0), none, none] [] (mm_s0 ad 6 xs) := by
  refine mm_go [] 600 ?_
  refine mm_ob (P := vp_in 1 (nI 6).toNatClampNeg) (mm_inl (by decide)) ?_
  show mm_b _ _ _ _ _ [some (.ref 68), some (.ref 0), some (.ref 46), some (.ref 65), some (.int 0), none, none] [.int (xs 1), .ref 0] ((fun _ => false, 599936, 6869426, true, false, ad), (mm_I0 6 xs), (fun _ _ => 0))
  refine mm_e1 ?_
  refine mm_iv 600 (by rfl) ?_
  show mm_k _ _ _ _ _ [some (.ref 0), some (.int (xs 1))] [] ((fun _ => false, 0, 0, true, false, ad), (mm_I0 6 xs), (fun _ _ => 0))
  refine mm_iv 600 (by rfl) ?_
  show mm_k _ _ _ _ _ [some (.ref 0), some (.int (xs 1)), some (.int 3)] [] ((fun _ => false, 0, 0, true, false, ad), (mm_I0 6 xs), (fun _ _ => 0))
  refine mm_el (c := ¬ (0 : Int32) = 0) (d := (0 : Int32) = 0) (by decide) ?_
  show mm_b _ _ _ _ _ [some (.ref 0), some (.int (xs 1)), some (.int 3)] [] ((fun _ => false, 0, 0, true, false, ad), (mm_I0 6 xs), (fun _ _ => 0))
  refine mm_ob (P := (1 : Int32) = 0 ∨ (1 : Int32) = 1) (by decide) ?_
  refine mm_q1 (r := 1) ⟨rfl, ?_⟩
  show mm_b _ _ _ _ _ [some (.ref 0), some (.int (xs 1))] [.int 1] ((fun _ => false, 0, 0, true, false, ad), (zI_525 xs), (fun _ _ => 0))
  refine mm_el (c := (1 : Int32) = 0) (d := ¬ (1 : Int32) = 0) (by decide) ?_
  show mm_b _ _ _ _ _ [some (.ref 0), some (.int (xs 1))] [] ((fun _ => false, 0, 0, true, false, ad), (zI_525 xs), (fun _ _ => 0))
  refine mm_q1 (r := (-1)) ?_
  show mm_b _ _ _ _ _ [some (.ref 68), some (.ref 0), some (.ref 46), some (.ref 65), some (.int 0), none, none] [.int (-1)] ((fun _ => false, 599936, 6869426, true, false, ad), (zI_525 xs), (fun _ _ => 0))
  refine mm_ob (P := vp_in 1 (nI 6).toNatClampNeg) (mm_inl (by decide)) ?_
  show mm_b _ _ _ _ _ [some (.ref 68), some (.ref 0), some (.ref 46), some (.ref 65), some (.int 0), none, none] [.int (xs 1), .ref 46, .int (-1)] ((fun _ => false, 599936, 6869426, true, false, ad), (zI_525 xs), (fun _ _ => 0))
  refine mm_e1 ?_
  refine mm_iv 600 (by rfl) ?_
  show mm_k _ _ _ _ _ [some (.ref 46), some (.int (xs 1)), none, none, none, none, none, none, none, none] [] ((fun _ => false, 0, 0, true, false, ad), (zI_525 xs), (fun _ _ => 0))
  refine mm_iv 600 (by rfl) ?_
  show mm_k _ _ _ _ _ [some (.ref 46)] [] ((fun _ => false, 0, 0, true, false, ad), (zI_525 xs), (fun _ _ => 0))
  refine mm_q0 ⟨rfl, ?_⟩
  show mm_b _ _ _ _ _ [some (.ref 46), some (.int (xs 1)), none, none, none, none, none, none, none, none] [] ((fun _ => false, 0, 0, true, false, ad), (zI_527 xs), (fun _ _ => 0))
  refine mm_iv 600 (by rfl) ?_
  show mm_k _ _ _ _ _ [some (.ref 46), some (.int (xs 1)), some (.int 3)] [] ((fun _ => false, 0, 0, true, false, ad), (zI_527 xs), (fun _ _ => 0))
  refine mm_el (c := ¬ (0 : Int32) = 0) (d := (0 : Int32) = 0) (by decide) ?_
  show mm_b _ _ _ _ _ [some (.ref 46), some (.int (xs 1)), some (.int 3)] [] ((fun _ => false, 0, 0, true, false, ad), (zI_527 xs), (fun _ _ => 0))
  refine mm_q1 (r := 1) ⟨rfl, ?_⟩
  show mm_b _ _ _ _ _ [some (.ref 46), some (.int (xs 1)), none, none, none, none, none, none, none, none] [.int 1] ((fun _ => false, 0, 0, true, false, ad), (zI_527 xs), (fun _ _ => 0))
  refine mm_el (c := (1 : Int32) = 0) (d := ¬ (1 : Int32) = 0) (by decide) ?_
  show mm_b _ _ _ _ _ [some (.ref 46), some (.int (xs 1)), some (.int 1), none, none, none, none, none, none, none] [] ((fun _ => false, 0, 0, true, false, ad), (zI_527 xs), (fun _ _ => 0))
  refine mm_iv 600 (by rfl) ?_
  show mm_k _ _ _ _ _ [some (.ref 46), some (.int 1)] [] ((fun _ => false, 0, 0, true, false, ad), (zI_527 xs), (fun _ _ => 0))
  refine mm_q1 (r := (-1)) ⟨rfl, ?_⟩
  show mm_b _ _ _ _ _ [some (.ref 46), some (.int (xs 1)), some (.int 1), none, none, none, none, none, none, none] [.int (-1)] ((fun _ => false, 0, 0, true, false, ad), (zI_528 xs), (fun _ _ => 0))
  refine mm_q1 (r := (-1)) ?_
  show mm_b _ _ _ _ _ [some (.ref 68), some (.ref 0), some (.ref 46), some (.ref 65), some (.int 0), none, none] [.int (-1), .int (-1)] ((fun _ => false, 599936, 6869426, true, false, ad), (zI_528 xs), (fun _ _ => 0))
  refine mm_tk (c := ((-1) : Int32) = (-1)) (d := ¬ ((-1) : Int32) = (-1)) (by decide) ?_
  show mm_u _ _ _ _ _ _ [some (.ref 68), some (.ref 0), some (.ref 46), some (.ref 65), some (.int 0), none, none] [] ((fun _ => false, 599936, 6869426, true, false, ad), (zI_528 xs), (fun _ _ => 0))
  refine mm_tk (c := (((nI 6) - 6) : Int32) < 6) (d := ¬ (((nI 6) - 6) : Int32) < 6) (by decide) ?_
  show mm_u _ _ _ _ _ _ [some (.ref 68), some (.ref 0), some (.ref 46), some (.ref 65), some (.int 6), none, none] [] ((fun _ => false, 599936, 6869426, true, false, ad), (zI_528 xs), (fun _ _ => 0))
  refine mm_ob (P := (1 : Int32) = 0 ∨ (1 : Int32) = 1) (by decide) ?_
  exact rfl
def zI_545 (xs : Nat → Int32) : mmI := mm_up (mm_I0 6 xs) 0 7 1
def zI_546 (xs : Nat → Int32) : mmI := mm_up (zI_545 xs) 46 0 0
def zI_547 (xs : Nat → Int32) : mmI := mm_up (zI_546 xs) 46 11 0
def zI_548 (xs : Nat → Int32) : mmI := mm_up (zI_547 xs) 46 11 1
set_option maxRecDepth 20000 in
set_option maxHeartbeats 4000000 in
theorem op_35 (ad : Nat → Nat) (xs : Nat → Int32) : mm_w (fun v _ => v = some (.int 1)) (mm_wc 210) bk_law 1137 [some (.ref 68), some (.ref 0), some (.ref 46), some (.ref 65), some (.int 0), none, none] [] (mm_s0 ad 6 xs) := by
  refine mm_go [] 600 ?_
  refine mm_ob (P := vp_in 1 (nI 6).toNatClampNeg) (mm_inl (by decide)) ?_
  show mm_b _ _ _ _ _ [some (.ref 68), some (.ref 0), some (.ref 46), some (.ref 65), some (.int 0), none, none] [.int (xs 1), .ref 0] ((fun _ => false, 599936, 6869426, true, false, ad), (mm_I0 6 xs), (fun _ _ => 0))
  refine mm_e1 ?_
  refine mm_iv 600 (by rfl) ?_
  show mm_k _ _ _ _ _ [some (.ref 0), some (.int (xs 1))] [] ((fun _ => false, 0, 0, true, false, ad), (mm_I0 6 xs), (fun _ _ => 0))
  refine mm_tk (c := (0 : Int32) = 0) (d := ¬ (0 : Int32) = 0) (by decide) ?_
  show mm_u _ _ _ _ _ _ [some (.ref 0), some (.int (xs 1))] [] ((fun _ => false, 0, 0, true, false, ad), (mm_I0 6 xs), (fun _ _ => 0))
  refine mm_iv 600 (by rfl) ?_
  show mm_k _ _ _ _ _ [some (.ref 0), some (.int 1)] [] ((fun _ => false, 0, 0, true, false, ad), (mm_I0 6 xs), (fun _ _ => 0))
  refine mm_q1 (r := (-1)) ⟨rfl, ?_⟩
  show mm_b _ _ _ _ _ [some (.ref 0), none] [.int (-1)] ((fun _ => false, 0, 0, true, false, ad), (zI_545 xs), (fun _ _ => 0))
  refine mm_q1 (r := (-1)) ?_
  show mm_b _ _ _ _ _ [some (.ref 68), some (.ref 0), some (.ref 46), some (.ref 65), some (.int 0), none, none] [.int (-1)] ((fun _ => false, 599936, 6869426, true, false, ad), (zI_545 xs), (fun _ _ => 0))
  refine mm_ob (P := vp_in 1 (nI 6).toNatClampNeg) (mm_inl (by decide)) ?_
  show mm_b _ _ _ _ _ [some (.ref 68), some (.ref 0), some (.ref 46), some (.ref 65), some (.int 0), none, none] [.int (xs 1), .ref 46, .int (-1)] ((fun _ => false, 599936, 6869426, true, false, ad), (zI_545 xs), (fun _ _ => 0))
  refine mm_e1 ?_
  refine mm_iv 600 (by rfl) ?_
  show mm_k _ _ _ _ _ [some (.ref 46), some (.int (xs 1))] [] ((fun _ => false, 0, 0, true, false, ad), (zI_545 xs), (fun _ _ => 0))
  refine mm_iv 600 (by rfl) ?_
  show mm_k _ _ _ _ _ [some (.ref 46)] [] ((fun _ => false, 0, 0, true, false, ad), (zI_545 xs), (fun _ _ => 0))
  refine mm_q0 ⟨rfl, ?_⟩
  show mm_b _ _ _ _ _ [some (.ref 46), some (.int (xs 1))] [] ((fun _ => false, 0, 0, true, false, ad), (zI_547 xs), (fun _ _ => 0))
  refine mm_tk (c := (0 : Int32) = 0) (d := ¬ (0 : Int32) = 0) (by decide) ?_
  show mm_u _ _ _ _ _ _ [some (.ref 46), some (.int (xs 1))] [] ((fun _ => false, 0, 0, true, false, ad), (zI_547 xs), (fun _ _ => 0))
  refine mm_iv 600 (by rfl) ?_
  show mm_k _ _ _ _ _ [some (.ref 46), some (.int 1)] [] ((fun _ => false, 0, 0, true, false, ad), (zI_547 xs), (fun _ _ => 0))
  refine mm_q1 (r := (-1)) ⟨rfl, ?_⟩
  show mm_b _ _ _ _ _ [some (.ref 46), none] [.int (-1)] ((fun _ => false, 0, 0, true, false, ad), (zI_548 xs), (fun _ _ => 0))
  refine mm_q1 (r := (-1)) ?_
  show mm_b _ _ _ _ _ [some (.ref 68), some (.ref 0), some (.ref 46), some (.ref 65), some (.int 0), none, none] [.int (-1), .int (-1)] ((fun _ => false, 599936, 6869426, true, false, ad), (zI_548 xs), (fun _ _ => 0))
  refine mm_tk (c := ((-1) : Int32) = (-1)) (d := ¬ ((-1) : Int32) = (-1)) (by decide) ?_
  show mm_u _ _ _ _ _ _ [some (.ref 68), some (.ref 0), some (.ref 46), some (.ref 65), some (.int 0), none, none] [] ((fun _ => false, 599936, 6869426, true, false, ad), (zI_548 xs), (fun _ _ => 0))
  refine mm_tk (c := (((nI 6) - 6) : Int32) < 6) (d := ¬ (((nI 6) - 6) : Int32) < 6) (by decide) ?_
  show mm_u _ _ _ _ _ _ [some (.ref 68), some (.ref 0), some (.ref 46), some (.ref 65), some (.int 6), none, none] [] ((fun _ => false, 599936, 6869426, true, false, ad), (zI_548 xs), (fun _ _ => 0))
  refine mm_ob (P := (1 : Int32) = 0 ∨ (1 : Int32) = 1) (by decide) ?_
  exact rfl
def zI_577 (xs : Nat → Int32) : mmI := mm_up (mm_I0 6 xs) 46 0 1
set_option maxRecDepth 20000 in
set_option maxHeartbeats 4000000 in
theorem op_39 (ad : Nat → Nat) (xs : Nat → Int32) : mm_w (fun v _ => v = some (.int 1)) (mm_wc 210) bk_law 1237 [some (.ref 68), some (.ref 0), some (.ref 46), some (.ref 65), some (.int 0), none, none] [] (mm_s0 ad 6 xs) := by
  refine mm_go [] 600 ?_
  refine mm_ob (P := vp_in 1 (nI 6).toNatClampNeg) (mm_inl (by decide)) ?_
  show mm_b _ _ _ _ _ [some (.ref 68), some (.ref 0), some (.ref 46), some (.ref 65), some (.int 0), none, none] [.int (xs 1), .ref 0] ((fun _ => false, 599936, 6869426, true, false, ad), (mm_I0 6 xs), (fun _ _ => 0))
  refine mm_e2 (Nat.le_of_ble_eq_true (by rfl)) (Nat.le_of_ble_eq_true (by rfl)) ?_
  refine mm_l4 (by exact trivial) (Nat.le_refl _) (Nat.le_refl _) ?_
  refine mm_go [] 600 ?_
  refine mm_tk (c := (0 : Int32) = 0) (d := ¬ (0 : Int32) = 0) (by decide) ?_
  show mm_u _ _ _ _ _ _ [some (.ref 0), some (.int (xs 1)), some (.int 0), some (.int 0)] [] ((fun _ => false, 1, 6, true, false, ad), (mm_I0 6 xs), (fun _ _ => 0))
  refine mm_ob (P := _ ∧ _ ∧ _) ⟨rfl, rfl, rfl⟩ ?_
  refine mm_q1 (r := 1) ?_
  show mm_b _ _ _ _ _ [some (.ref 68), some (.ref 0), some (.ref 46), some (.ref 65), some (.int 0), none, none] [.int 1] ((fun _ => false, 599935, 6869420, true, false, ad), (mm_I0 6 xs), (fun _ _ => 0))
  refine mm_ob (P := vp_in 1 (nI 6).toNatClampNeg) (mm_inl (by decide)) ?_
  show mm_b _ _ _ _ _ [some (.ref 68), some (.ref 0), some (.ref 46), some (.ref 65), some (.int 0), some (.int 1), none] [.int (xs 1), .ref 46] ((fun _ => false, 599935, 6869420, true, false, ad), (mm_I0 6 xs), (fun _ _ => 0))
  refine mm_e1 ?_
  refine mm_iv 600 (by rfl) ?_
  show mm_k _ _ _ _ _ [some (.ref 46), some (.int (xs 1)), none, none] [] ((fun _ => false, 0, 0, true, false, ad), (mm_I0 6 xs), (fun _ _ => 0))
  refine mm_tk (c := (0 : Int32) = 0) (d := ¬ (0 : Int32) = 0) (by decide) ?_
  show mm_u _ _ _ _ _ _ [some (.ref 46), some (.int (xs 1)), some (.int 0), some (.int 0)] [] ((fun _ => false, 0, 0, true, false, ad), (mm_I0 6 xs), (fun _ _ => 0))
  refine mm_q1 (r := 0) ?_
  show mm_b _ _ _ _ _ [some (.ref 68), some (.ref 0), some (.ref 46), some (.ref 65), some (.int 0), some (.int 1), none] [.int 0] ((fun _ => false, 599935, 6869420, true, false, ad), (zI_577 xs), (fun _ _ => 0))
  refine mm_e1 ?_
  refine mm_iv 600 (by rfl) ?_
  show mm_k _ _ _ _ _ [some (.ref 46)] [] ((fun _ => false, 0, 0, true, false, ad), (zI_577 xs), (fun _ _ => 0))
  refine mm_q1 (r := 1) ?_
  show mm_b _ _ _ _ _ [some (.ref 68), some (.ref 0), some (.ref 46), some (.ref 65), some (.int 0), some (.int 1), some (.int 0)] [.int 1] ((fun _ => false, 599935, 6869420, true, false, ad), (zI_577 xs), (fun _ _ => 0))
  refine mm_tk (c := (1 : Int32) = 1) (d := ¬ (1 : Int32) = 1) (by decide) ?_
  show mm_u _ _ _ _ _ _ [some (.ref 68), some (.ref 0), some (.ref 46), some (.ref 65), some (.int 0), some (.int 1), some (.int 0)] [] ((fun _ => false, 599935, 6869420, true, false, ad), (zI_577 xs), (fun _ _ => 0))
  refine mm_tk (c := ¬ (1 : Int32) = 0) (d := (1 : Int32) = 0) (by decide) ?_
  show mm_u _ _ _ _ _ _ [some (.ref 68), some (.ref 0), some (.ref 46), some (.ref 65), some (.int 0), some (.int 1), some (.int 0)] [] ((fun _ => false, 599935, 6869420, true, false, ad), (zI_577 xs), (fun _ _ => 0))
  refine mm_tk (c := (((nI 6) - 6) : Int32) < 6) (d := ¬ (((nI 6) - 6) : Int32) < 6) (by decide) ?_
  show mm_u _ _ _ _ _ _ [some (.ref 68), some (.ref 0), some (.ref 46), some (.ref 65), some (.int 6), none, none] [] ((fun _ => false, 599935, 6869420, true, false, ad), (zI_577 xs), (fun _ _ => 0))
  refine mm_ob (P := (1 : Int32) = 0 ∨ (1 : Int32) = 1) (by decide) ?_
  exact rfl
