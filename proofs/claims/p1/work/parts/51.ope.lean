/-! one call on a fresh object: the calls -/
/- needs: 0 1 20 21 22 23 24 25 26 27 28 29 30 32 40 41 42 50 -/
def zI_1 (xs : Nat → Int32) : mmI := mm_up (mm_I0 6 xs) 2 0 ((Int32.toInt8 ((Int32.toInt8 ((((xs 1) : Int32).toUInt32 >>> ((24 : Int32).toUInt32 &&& Int32.toUInt32 31)).toInt32)).toInt32)).toInt32)
def zI_2 (xs : Nat → Int32) : mmI := mm_up (zI_1 xs) 1 1 1
def zI_3 (xs : Nat → Int32) : mmI := mm_up (zI_2 xs) 2 1 ((Int32.toInt8 ((Int32.toInt8 ((((xs 1) : Int32).toUInt32 >>> ((16 : Int32).toUInt32 &&& Int32.toUInt32 31)).toInt32)).toInt32)).toInt32)
def zI_4 (xs : Nat → Int32) : mmI := mm_up (zI_3 xs) 1 1 2
def zI_5 (xs : Nat → Int32) : mmI := mm_up (zI_4 xs) 2 2 ((Int32.toInt8 ((Int32.toInt8 ((((xs 1) : Int32).toUInt32 >>> ((8 : Int32).toUInt32 &&& Int32.toUInt32 31)).toInt32)).toInt32)).toInt32)
def zI_6 (xs : Nat → Int32) : mmI := mm_up (zI_5 xs) 1 1 3
def zI_7 (xs : Nat → Int32) : mmI := mm_up (zI_6 xs) 2 3 ((Int32.toInt8 ((Int32.toInt8 ((((xs 1) : Int32).toUInt32 >>> ((0 : Int32).toUInt32 &&& Int32.toUInt32 31)).toInt32)).toInt32)).toInt32)
def zI_8 (xs : Nat → Int32) : mmI := mm_up (zI_7 xs) 1 1 4
def zI_9 (xs : Nat → Int32) : mmI := mm_up (zI_8 xs) 2 4 ((Int32.toInt8 ((Int32.toInt8 ((((xs 2) : Int32).toUInt32 >>> ((24 : Int32).toUInt32 &&& Int32.toUInt32 31)).toInt32)).toInt32)).toInt32)
def zI_10 (xs : Nat → Int32) : mmI := mm_up (zI_9 xs) 1 1 5
def zI_11 (xs : Nat → Int32) : mmI := mm_up (zI_10 xs) 2 5 ((Int32.toInt8 ((Int32.toInt8 ((((xs 2) : Int32).toUInt32 >>> ((16 : Int32).toUInt32 &&& Int32.toUInt32 31)).toInt32)).toInt32)).toInt32)
def zI_12 (xs : Nat → Int32) : mmI := mm_up (zI_11 xs) 1 1 6
def zI_13 (xs : Nat → Int32) : mmI := mm_up (zI_12 xs) 2 6 ((Int32.toInt8 ((Int32.toInt8 ((((xs 2) : Int32).toUInt32 >>> ((8 : Int32).toUInt32 &&& Int32.toUInt32 31)).toInt32)).toInt32)).toInt32)
def zI_14 (xs : Nat → Int32) : mmI := mm_up (zI_13 xs) 1 1 7
def zI_15 (xs : Nat → Int32) : mmI := mm_up (zI_14 xs) 2 7 ((Int32.toInt8 ((Int32.toInt8 ((((xs 2) : Int32).toUInt32 >>> ((0 : Int32).toUInt32 &&& Int32.toUInt32 31)).toInt32)).toInt32)).toInt32)
def zI_16 (xs : Nat → Int32) : mmI := mm_up (zI_15 xs) 1 1 8
def zI_17 (xs : Nat → Int32) : mmI := mm_up (zI_16 xs) 2 8 ((Int32.toInt8 ((Int32.toInt8 ((((xs 3) : Int32).toUInt32 >>> ((24 : Int32).toUInt32 &&& Int32.toUInt32 31)).toInt32)).toInt32)).toInt32)
def zI_18 (xs : Nat → Int32) : mmI := mm_up (zI_17 xs) 1 1 9
def zI_19 (xs : Nat → Int32) : mmI := mm_up (zI_18 xs) 2 9 ((Int32.toInt8 ((Int32.toInt8 ((((xs 3) : Int32).toUInt32 >>> ((16 : Int32).toUInt32 &&& Int32.toUInt32 31)).toInt32)).toInt32)).toInt32)
def zI_20 (xs : Nat → Int32) : mmI := mm_up (zI_19 xs) 1 1 10
def zI_21 (xs : Nat → Int32) : mmI := mm_up (zI_20 xs) 2 10 ((Int32.toInt8 ((Int32.toInt8 ((((xs 3) : Int32).toUInt32 >>> ((8 : Int32).toUInt32 &&& Int32.toUInt32 31)).toInt32)).toInt32)).toInt32)
def zI_22 (xs : Nat → Int32) : mmI := mm_up (zI_21 xs) 1 1 11
def zI_23 (xs : Nat → Int32) : mmI := mm_up (zI_22 xs) 2 11 ((Int32.toInt8 ((Int32.toInt8 ((((xs 3) : Int32).toUInt32 >>> ((0 : Int32).toUInt32 &&& Int32.toUInt32 31)).toInt32)).toInt32)).toInt32)
def zI_24 (xs : Nat → Int32) : mmI := mm_up (zI_23 xs) 1 1 12
def zI_25 (xs : Nat → Int32) : mmI := mm_up (zI_24 xs) 2 12 ((Int32.toInt8 ((Int32.toInt8 ((((xs 4) : Int32).toUInt32 >>> ((24 : Int32).toUInt32 &&& Int32.toUInt32 31)).toInt32)).toInt32)).toInt32)
def zI_26 (xs : Nat → Int32) : mmI := mm_up (zI_25 xs) 1 1 13
def zI_27 (xs : Nat → Int32) : mmI := mm_up (zI_26 xs) 2 13 ((Int32.toInt8 ((Int32.toInt8 ((((xs 4) : Int32).toUInt32 >>> ((16 : Int32).toUInt32 &&& Int32.toUInt32 31)).toInt32)).toInt32)).toInt32)
def zI_28 (xs : Nat → Int32) : mmI := mm_up (zI_27 xs) 1 1 14
def zI_29 (xs : Nat → Int32) : mmI := mm_up (zI_28 xs) 2 14 ((Int32.toInt8 ((Int32.toInt8 ((((xs 4) : Int32).toUInt32 >>> ((8 : Int32).toUInt32 &&& Int32.toUInt32 31)).toInt32)).toInt32)).toInt32)
def zI_30 (xs : Nat → Int32) : mmI := mm_up (zI_29 xs) 1 1 15
def zI_31 (xs : Nat → Int32) : mmI := mm_up (zI_30 xs) 2 15 ((Int32.toInt8 ((Int32.toInt8 ((((xs 4) : Int32).toUInt32 >>> ((0 : Int32).toUInt32 &&& Int32.toUInt32 31)).toInt32)).toInt32)).toInt32)
def zI_32 (xs : Nat → Int32) : mmI := mm_up (zI_31 xs) 1 1 16
def zI_33 (xs : Nat → Int32) : mmI := mm_up (zI_32 xs) 2 16 ((Int32.toInt8 ((Int32.toInt8 ((((xs 5) : Int32).toUInt32 >>> ((24 : Int32).toUInt32 &&& Int32.toUInt32 31)).toInt32)).toInt32)).toInt32)
def zI_34 (xs : Nat → Int32) : mmI := mm_up (zI_33 xs) 1 1 17
def zI_35 (xs : Nat → Int32) : mmI := mm_up (zI_34 xs) 2 17 ((Int32.toInt8 ((Int32.toInt8 ((((xs 5) : Int32).toUInt32 >>> ((16 : Int32).toUInt32 &&& Int32.toUInt32 31)).toInt32)).toInt32)).toInt32)
def zI_36 (xs : Nat → Int32) : mmI := mm_up (zI_35 xs) 1 1 18
def zI_37 (xs : Nat → Int32) : mmI := mm_up (zI_36 xs) 2 18 ((Int32.toInt8 ((Int32.toInt8 ((((xs 5) : Int32).toUInt32 >>> ((8 : Int32).toUInt32 &&& Int32.toUInt32 31)).toInt32)).toInt32)).toInt32)
def zI_38 (xs : Nat → Int32) : mmI := mm_up (zI_37 xs) 1 1 19
def zI_39 (xs : Nat → Int32) : mmI := mm_up (zI_38 xs) 2 19 ((Int32.toInt8 ((Int32.toInt8 ((((xs 5) : Int32).toUInt32 >>> ((0 : Int32).toUInt32 &&& Int32.toUInt32 31)).toInt32)).toInt32)).toInt32)
def zI_40 (xs : Nat → Int32) : mmI := mm_up (zI_39 xs) 1 1 20
def zI_41 (xs : Nat → Int32) : mmI := mm_up (zI_40 xs) 46 0 0
def zI_42 (xs : Nat → Int32) : mmI := mm_up (zI_41 xs) 47 0 (((xs 1) >>> (24 &&& 31)) &&& 255)
def zI_43 (xs : Nat → Int32) : mmI := mm_up (zI_42 xs) 46 2 1
def zI_44 (xs : Nat → Int32) : mmI := mm_up (zI_43 xs) 47 1 (((xs 1) >>> (16 &&& 31)) &&& 255)
def zI_45 (xs : Nat → Int32) : mmI := mm_up (zI_44 xs) 46 2 2
def zI_46 (xs : Nat → Int32) : mmI := mm_up (zI_45 xs) 47 2 (((xs 1) >>> (8 &&& 31)) &&& 255)
def zI_47 (xs : Nat → Int32) : mmI := mm_up (zI_46 xs) 46 2 3
def zI_48 (xs : Nat → Int32) : mmI := mm_up (zI_47 xs) 47 3 (((xs 1) >>> (0 &&& 31)) &&& 255)
def zI_49 (xs : Nat → Int32) : mmI := mm_up (zI_48 xs) 46 2 4
def zI_50 (xs : Nat → Int32) : mmI := mm_up (zI_49 xs) 47 4 (((xs 2) >>> (24 &&& 31)) &&& 255)
def zI_51 (xs : Nat → Int32) : mmI := mm_up (zI_50 xs) 46 2 5
def zI_52 (xs : Nat → Int32) : mmI := mm_up (zI_51 xs) 47 5 (((xs 2) >>> (16 &&& 31)) &&& 255)
def zI_53 (xs : Nat → Int32) : mmI := mm_up (zI_52 xs) 46 2 6
def zI_54 (xs : Nat → Int32) : mmI := mm_up (zI_53 xs) 47 6 (((xs 2) >>> (8 &&& 31)) &&& 255)
def zI_55 (xs : Nat → Int32) : mmI := mm_up (zI_54 xs) 46 2 7
def zI_56 (xs : Nat → Int32) : mmI := mm_up (zI_55 xs) 47 7 (((xs 2) >>> (0 &&& 31)) &&& 255)
def zI_57 (xs : Nat → Int32) : mmI := mm_up (zI_56 xs) 46 2 8
def zI_58 (xs : Nat → Int32) : mmI := mm_up (zI_57 xs) 47 8 (((xs 3) >>> (24 &&& 31)) &&& 255)
def zI_59 (xs : Nat → Int32) : mmI := mm_up (zI_58 xs) 46 2 9
def zI_60 (xs : Nat → Int32) : mmI := mm_up (zI_59 xs) 47 9 (((xs 3) >>> (16 &&& 31)) &&& 255)
def zI_61 (xs : Nat → Int32) : mmI := mm_up (zI_60 xs) 46 2 10
def zI_62 (xs : Nat → Int32) : mmI := mm_up (zI_61 xs) 47 10 (((xs 3) >>> (8 &&& 31)) &&& 255)
def zI_63 (xs : Nat → Int32) : mmI := mm_up (zI_62 xs) 46 2 11
def zI_64 (xs : Nat → Int32) : mmI := mm_up (zI_63 xs) 47 11 (((xs 3) >>> (0 &&& 31)) &&& 255)
def zI_65 (xs : Nat → Int32) : mmI := mm_up (zI_64 xs) 46 2 12
def zI_66 (xs : Nat → Int32) : mmI := mm_up (zI_65 xs) 47 12 (((xs 4) >>> (24 &&& 31)) &&& 255)
def zI_67 (xs : Nat → Int32) : mmI := mm_up (zI_66 xs) 46 2 13
def zI_68 (xs : Nat → Int32) : mmI := mm_up (zI_67 xs) 47 13 (((xs 4) >>> (16 &&& 31)) &&& 255)
def zI_69 (xs : Nat → Int32) : mmI := mm_up (zI_68 xs) 46 2 14
def zI_70 (xs : Nat → Int32) : mmI := mm_up (zI_69 xs) 47 14 (((xs 4) >>> (8 &&& 31)) &&& 255)
def zI_71 (xs : Nat → Int32) : mmI := mm_up (zI_70 xs) 46 2 15
def zI_72 (xs : Nat → Int32) : mmI := mm_up (zI_71 xs) 47 15 (((xs 4) >>> (0 &&& 31)) &&& 255)
def zI_73 (xs : Nat → Int32) : mmI := mm_up (zI_72 xs) 46 2 16
def zI_74 (xs : Nat → Int32) : mmI := mm_up (zI_73 xs) 47 16 (((xs 5) >>> (24 &&& 31)) &&& 255)
def zI_75 (xs : Nat → Int32) : mmI := mm_up (zI_74 xs) 46 2 17
def zI_76 (xs : Nat → Int32) : mmI := mm_up (zI_75 xs) 47 17 (((xs 5) >>> (16 &&& 31)) &&& 255)
def zI_77 (xs : Nat → Int32) : mmI := mm_up (zI_76 xs) 46 2 18
def zI_78 (xs : Nat → Int32) : mmI := mm_up (zI_77 xs) 47 18 (((xs 5) >>> (8 &&& 31)) &&& 255)
def zI_79 (xs : Nat → Int32) : mmI := mm_up (zI_78 xs) 46 2 19
def zI_80 (xs : Nat → Int32) : mmI := mm_up (zI_79 xs) 47 19 (((xs 5) >>> (0 &&& 31)) &&& 255)
def zI_81 (xs : Nat → Int32) : mmI := mm_up (zI_80 xs) 46 2 20
set_option maxRecDepth 20000 in
set_option maxHeartbeats 4000000 in
theorem op_0 (ad : Nat → Nat) (xs : Nat → Int32) : mm_w (fun v _ => v = some (.int 1)) (mm_wc 210) bk_law 224 [some (.ref 68), some (.ref 0), some (.ref 46), some (.ref 65), some (.int 0), none, none] [] (mm_s0 ad 6 xs) := by
  refine mm_go [] 600 ?_
  refine mm_ob (P := vp_in 1 (nI 6).toNatClampNeg) (mm_inl (by decide)) ?_
  show mm_b _ _ _ _ _ [some (.ref 68), some (.ref 0), some (.ref 46), some (.ref 65), some (.int 0), none, none] [.int (xs 1), .ref 0] ((fun _ => false, 599936, 6869426, true, false, ad), (mm_I0 6 xs), (fun _ _ => 0))
  refine mm_ob (P := vp_in 2 (nI 6).toNatClampNeg) (mm_inl (by decide)) ?_
  show mm_b _ _ _ _ _ [some (.ref 68), some (.ref 0), some (.ref 46), some (.ref 65), some (.int 0), none, none] [.int (xs 2), .int (xs 1), .ref 0] ((fun _ => false, 599936, 6869426, true, false, ad), (mm_I0 6 xs), (fun _ _ => 0))
  refine mm_ob (P := vp_in 3 (nI 6).toNatClampNeg) (mm_inl (by decide)) ?_
  show mm_b _ _ _ _ _ [some (.ref 68), some (.ref 0), some (.ref 46), some (.ref 65), some (.int 0), none, none] [.int (xs 3), .int (xs 2), .int (xs 1), .ref 0] ((fun _ => false, 599936, 6869426, true, false, ad), (mm_I0 6 xs), (fun _ _ => 0))
  refine mm_ob (P := vp_in 4 (nI 6).toNatClampNeg) (mm_inl (by decide)) ?_
  show mm_b _ _ _ _ _ [some (.ref 68), some (.ref 0), some (.ref 46), some (.ref 65), some (.int 0), none, none] [.int (xs 4), .int (xs 3), .int (xs 2), .int (xs 1), .ref 0] ((fun _ => false, 599936, 6869426, true, false, ad), (mm_I0 6 xs), (fun _ _ => 0))
  refine mm_ob (P := vp_in 5 (nI 6).toNatClampNeg) (mm_inl (by decide)) ?_
  show mm_b _ _ _ _ _ [some (.ref 68), some (.ref 0), some (.ref 46), some (.ref 65), some (.int 0), none, none] [.int (xs 5), .int (xs 4), .int (xs 3), .int (xs 2), .int (xs 1), .ref 0] ((fun _ => false, 599936, 6869426, true, false, ad), (mm_I0 6 xs), (fun _ _ => 0))
  refine mm_e1 ?_
  refine mm_iv 600 (by rfl) ?_
  show mm_k _ _ _ _ _ [some (.ref 0), some (.int (xs 1)), some (.int (xs 2)), some (.int (xs 3)), some (.int (xs 4)), some (.int (xs 5))] [] ((fun _ => false, 0, 0, true, false, ad), (mm_I0 6 xs), (fun _ _ => 0))
  refine mm_iv 600 (by rfl) ?_
  show mm_k _ _ _ _ _ [some (.ref 1)] [] ((fun _ => false, 0, 0, true, false, ad), (mm_I0 6 xs), (fun _ _ => 0))
  refine mm_el (c := (900 : Int32) < 20) (d := ¬ (900 : Int32) < 20) (by decide) ?_
  show mm_b _ _ _ _ _ [some (.ref 1)] [] ((fun _ => false, 0, 0, true, false, ad), (mm_I0 6 xs), (fun _ _ => 0))
  refine mm_ob (P := (1 : Int32) = 0 ∨ (1 : Int32) = 1) (by decide) ?_
  refine mm_q1 (r := 1) ⟨rfl, ?_⟩
  show mm_b _ _ _ _ _ [some (.ref 0), some (.int (xs 1)), some (.int (xs 2)), some (.int (xs 3)), some (.int (xs 4)), some (.int (xs 5))] [.int 1] ((fun _ => false, 0, 0, true, false, ad), (mm_I0 6 xs), (fun _ _ => 0))
  refine mm_tk (c := ¬ (1 : Int32) = 0) (d := (1 : Int32) = 0) (by decide) ?_
  show mm_u _ _ _ _ _ _ [some (.ref 0), some (.int (xs 1)), some (.int (xs 2)), some (.int (xs 3)), some (.int (xs 4)), some (.int (xs 5))] [] ((fun _ => false, 0, 0, true, false, ad), (mm_I0 6 xs), (fun _ _ => 0))
  refine mm_iv 600 (by rfl) ?_
  show mm_k _ _ _ _ _ [some (.ref 1), some (.int (xs 1)), none] [] ((fun _ => false, 0, 0, true, false, ad), (mm_I0 6 xs), (fun _ _ => 0))
  refine mm_el (c := (24 : Int32) < 0) (d := ¬ (24 : Int32) < 0) (by decide) ?_
  show mm_b _ _ _ _ _ [some (.ref 1), some (.int (xs 1)), some (.int 24)] [] ((fun _ => false, 0, 0, true, false, ad), (mm_I0 6 xs), (fun _ _ => 0))
  refine mm_el (c := ((nI 900) : Int32) ≤ 0) (d := ¬ ((nI 900) : Int32) ≤ 0) (by decide) ?_
  show mm_b _ _ _ _ _ [some (.ref 1), some (.int (xs 1)), some (.int 24)] [] ((fun _ => false, 0, 0, true, false, ad), (mm_I0 6 xs), (fun _ _ => 0))
  refine mm_ob (P := vp_in 0 900) (mm_inl (by decide)) ?_
  show mm_b _ _ _ _ _ [some (.ref 1), some (.int (xs 1)), some (.int 24)] [] ((fun _ => false, 0, 0, true, false, ad), (zI_1 xs), (fun _ _ => 0))
  refine mm_el (c := (16 : Int32) < 0) (d := ¬ (16 : Int32) < 0) (by decide) ?_
  show mm_b _ _ _ _ _ [some (.ref 1), some (.int (xs 1)), some (.int 16)] [] ((fun _ => false, 0, 0, true, false, ad), (zI_2 xs), (fun _ _ => 0))
  refine mm_el (c := ((nI 900) : Int32) ≤ 1) (d := ¬ ((nI 900) : Int32) ≤ 1) (by decide) ?_
  show mm_b _ _ _ _ _ [some (.ref 1), some (.int (xs 1)), some (.int 16)] [] ((fun _ => false, 0, 0, true, false, ad), (zI_2 xs), (fun _ _ => 0))
  refine mm_ob (P := vp_in 1 900) (mm_inl (by decide)) ?_
  show mm_b _ _ _ _ _ [some (.ref 1), some (.int (xs 1)), some (.int 16)] [] ((fun _ => false, 0, 0, true, false, ad), (zI_3 xs), (fun _ _ => 0))
  refine mm_el (c := (8 : Int32) < 0) (d := ¬ (8 : Int32) < 0) (by decide) ?_
  show mm_b _ _ _ _ _ [some (.ref 1), some (.int (xs 1)), some (.int 8)] [] ((fun _ => false, 0, 0, true, false, ad), (zI_4 xs), (fun _ _ => 0))
  refine mm_el (c := ((nI 900) : Int32) ≤ 2) (d := ¬ ((nI 900) : Int32) ≤ 2) (by decide) ?_
  show mm_b _ _ _ _ _ [some (.ref 1), some (.int (xs 1)), some (.int 8)] [] ((fun _ => false, 0, 0, true, false, ad), (zI_4 xs), (fun _ _ => 0))
  refine mm_ob (P := vp_in 2 900) (mm_inl (by decide)) ?_
  show mm_b _ _ _ _ _ [some (.ref 1), some (.int (xs 1)), some (.int 8)] [] ((fun _ => false, 0, 0, true, false, ad), (zI_5 xs), (fun _ _ => 0))
  refine mm_el (c := (0 : Int32) < 0) (d := ¬ (0 : Int32) < 0) (by decide) ?_
  show mm_b _ _ _ _ _ [some (.ref 1), some (.int (xs 1)), some (.int 0)] [] ((fun _ => false, 0, 0, true, false, ad), (zI_6 xs), (fun _ _ => 0))
  refine mm_el (c := ((nI 900) : Int32) ≤ 3) (d := ¬ ((nI 900) : Int32) ≤ 3) (by decide) ?_
  show mm_b _ _ _ _ _ [some (.ref 1), some (.int (xs 1)), some (.int 0)] [] ((fun _ => false, 0, 0, true, false, ad), (zI_6 xs), (fun _ _ => 0))
  refine mm_ob (P := vp_in 3 900) (mm_inl (by decide)) ?_
  show mm_b _ _ _ _ _ [some (.ref 1), some (.int (xs 1)), some (.int 0)] [] ((fun _ => false, 0, 0, true, false, ad), (zI_7 xs), (fun _ _ => 0))
  refine mm_tk (c := ((-8) : Int32) < 0) (d := ¬ ((-8) : Int32) < 0) (by decide) ?_
  show mm_u _ _ _ _ _ _ [some (.ref 1), some (.int (xs 1)), some (.int (-8))] [] ((fun _ => false, 0, 0, true, false, ad), (zI_8 xs), (fun _ _ => 0))
  refine mm_q0 ⟨rfl, ?_⟩
  show mm_b _ _ _ _ _ [some (.ref 0), some (.int (xs 1)), some (.int (xs 2)), some (.int (xs 3)), some (.int (xs 4)), some (.int (xs 5))] [] ((fun _ => false, 0, 0, true, false, ad), (zI_8 xs), (fun _ _ => 0))
  refine mm_iv 600 (by rfl) ?_
  show mm_k _ _ _ _ _ [some (.ref 1), some (.int (xs 2)), none] [] ((fun _ => false, 0, 0, true, false, ad), (zI_8 xs), (fun _ _ => 0))
  refine mm_el (c := (24 : Int32) < 0) (d := ¬ (24 : Int32) < 0) (by decide) ?_
  show mm_b _ _ _ _ _ [some (.ref 1), some (.int (xs 2)), some (.int 24)] [] ((fun _ => false, 0, 0, true, false, ad), (zI_8 xs), (fun _ _ => 0))
  refine mm_el (c := ((nI 900) : Int32) ≤ 4) (d := ¬ ((nI 900) : Int32) ≤ 4) (by decide) ?_
  show mm_b _ _ _ _ _ [some (.ref 1), some (.int (xs 2)), some (.int 24)] [] ((fun _ => false, 0, 0, true, false, ad), (zI_8 xs), (fun _ _ => 0))
  refine mm_ob (P := vp_in 4 900) (mm_inl (by decide)) ?_
  show mm_b _ _ _ _ _ [some (.ref 1), some (.int (xs 2)), some (.int 24)] [] ((fun _ => false, 0, 0, true, false, ad), (zI_9 xs), (fun _ _ => 0))
  refine mm_el (c := (16 : Int32) < 0) (d := ¬ (16 : Int32) < 0) (by decide) ?_
  show mm_b _ _ _ _ _ [some (.ref 1), some (.int (xs 2)), some (.int 16)] [] ((fun _ => false, 0, 0, true, false, ad), (zI_10 xs), (fun _ _ => 0))
  refine mm_el (c := ((nI 900) : Int32) ≤ 5) (d := ¬ ((nI 900) : Int32) ≤ 5) (by decide) ?_
  show mm_b _ _ _ _ _ [some (.ref 1), some (.int (xs 2)), some (.int 16)] [] ((fun _ => false, 0, 0, true, false, ad), (zI_10 xs), (fun _ _ => 0))
  refine mm_ob (P := vp_in 5 900) (mm_inl (by decide)) ?_
  show mm_b _ _ _ _ _ [some (.ref 1), some (.int (xs 2)), some (.int 16)] [] ((fun _ => false, 0, 0, true, false, ad), (zI_11 xs), (fun _ _ => 0))
  refine mm_el (c := (8 : Int32) < 0) (d := ¬ (8 : Int32) < 0) (by decide) ?_
  show mm_b _ _ _ _ _ [some (.ref 1), some (.int (xs 2)), some (.int 8)] [] ((fun _ => false, 0, 0, true, false, ad), (zI_12 xs), (fun _ _ => 0))
  refine mm_el (c := ((nI 900) : Int32) ≤ 6) (d := ¬ ((nI 900) : Int32) ≤ 6) (by decide) ?_
  show mm_b _ _ _ _ _ [some (.ref 1), some (.int (xs 2)), some (.int 8)] [] ((fun _ => false, 0, 0, true, false, ad), (zI_12 xs), (fun _ _ => 0))
  refine mm_ob (P := vp_in 6 900) (mm_inl (by decide)) ?_
  show mm_b _ _ _ _ _ [some (.ref 1), some (.int (xs 2)), some (.int 8)] [] ((fun _ => false, 0, 0, true, false, ad), (zI_13 xs), (fun _ _ => 0))
  refine mm_el (c := (0 : Int32) < 0) (d := ¬ (0 : Int32) < 0) (by decide) ?_
  show mm_b _ _ _ _ _ [some (.ref 1), some (.int (xs 2)), some (.int 0)] [] ((fun _ => false, 0, 0, true, false, ad), (zI_14 xs), (fun _ _ => 0))
  refine mm_el (c := ((nI 900) : Int32) ≤ 7) (d := ¬ ((nI 900) : Int32) ≤ 7) (by decide) ?_
  show mm_b _ _ _ _ _ [some (.ref 1), some (.int (xs 2)), some (.int 0)] [] ((fun _ => false, 0, 0, true, false, ad), (zI_14 xs), (fun _ _ => 0))
  refine mm_ob (P := vp_in 7 900) (mm_inl (by decide)) ?_
  show mm_b _ _ _ _ _ [some (.ref 1), some (.int (xs 2)), some (.int 0)] [] ((fun _ => false, 0, 0, true, false, ad), (zI_15 xs), (fun _ _ => 0))
  refine mm_tk (c := ((-8) : Int32) < 0) (d := ¬ ((-8) : Int32) < 0) (by decide) ?_
  show mm_u _ _ _ _ _ _ [some (.ref 1), some (.int (xs 2)), some (.int (-8))] [] ((fun _ => false, 0, 0, true, false, ad), (zI_16 xs), (fun _ _ => 0))
  refine mm_q0 ⟨rfl, ?_⟩
  show mm_b _ _ _ _ _ [some (.ref 0), some (.int (xs 1)), some (.int (xs 2)), some (.int (xs 3)), some (.int (xs 4)), some (.int (xs 5))] [] ((fun _ => false, 0, 0, true, false, ad), (zI_16 xs), (fun _ _ => 0))
  refine mm_iv 600 (by rfl) ?_
  show mm_k _ _ _ _ _ [some (.ref 1), some (.int (xs 3)), none] [] ((fun _ => false, 0, 0, true, false, ad), (zI_16 xs), (fun _ _ => 0))
  refine mm_el (c := (24 : Int32) < 0) (d := ¬ (24 : Int32) < 0) (by decide) ?_
  show mm_b _ _ _ _ _ [some (.ref 1), some (.int (xs 3)), some (.int 24)] [] ((fun _ => false, 0, 0, true, false, ad), (zI_16 xs), (fun _ _ => 0))
  refine mm_el (c := ((nI 900) : Int32) ≤ 8) (d := ¬ ((nI 900) : Int32) ≤ 8) (by decide) ?_
  show mm_b _ _ _ _ _ [some (.ref 1), some (.int (xs 3)), some (.int 24)] [] ((fun _ => false, 0, 0, true, false, ad), (zI_16 xs), (fun _ _ => 0))
  refine mm_ob (P := vp_in 8 900) (mm_inl (by decide)) ?_
  show mm_b _ _ _ _ _ [some (.ref 1), some (.int (xs 3)), some (.int 24)] [] ((fun _ => false, 0, 0, true, false, ad), (zI_17 xs), (fun _ _ => 0))
  refine mm_el (c := (16 : Int32) < 0) (d := ¬ (16 : Int32) < 0) (by decide) ?_
  show mm_b _ _ _ _ _ [some (.ref 1), some (.int (xs 3)), some (.int 16)] [] ((fun _ => false, 0, 0, true, false, ad), (zI_18 xs), (fun _ _ => 0))
  refine mm_el (c := ((nI 900) : Int32) ≤ 9) (d := ¬ ((nI 900) : Int32) ≤ 9) (by decide) ?_
  show mm_b _ _ _ _ _ [some (.ref 1), some (.int (xs 3)), some (.int 16)] [] ((fun _ => false, 0, 0, true, false, ad), (zI_18 xs), (fun _ _ => 0))
  refine mm_ob (P := vp_in 9 900) (mm_inl (by decide)) ?_
  show mm_b _ _ _ _ _ [some (.ref 1), some (.int (xs 3)), some (.int 16)] [] ((fun _ => false, 0, 0, true, false, ad), (zI_19 xs), (fun _ _ => 0))
  refine mm_el (c := (8 : Int32) < 0) (d := ¬ (8 : Int32) < 0) (by decide) ?_
  show mm_b _ _ _ _ _ [some (.ref 1), some (.int (xs 3)), some (.int 8)] [] ((fun _ => false, 0, 0, true, false, ad), (zI_20 xs), (fun _ _ => 0))
  refine mm_el (c := ((nI 900) : Int32) ≤ 10) (d := ¬ ((nI 900) : Int32) ≤ 10) (by decide) ?_
  show mm_b _ _ _ _ _ [some (.ref 1), some (.int (xs 3)), some (.int 8)] [] ((fun _ => false, 0, 0, true, false, ad), (zI_20 xs), (fun _ _ => 0))
  refine mm_ob (P := vp_in 10 900) (mm_inl (by decide)) ?_
  show mm_b _ _ _ _ _ [some (.ref 1), some (.int (xs 3)), some (.int 8)] [] ((fun _ => false, 0, 0, true, false, ad), (zI_21 xs), (fun _ _ => 0))
  refine mm_el (c := (0 : Int32) < 0) (d := ¬ (0 : Int32) < 0) (by decide) ?_
  show mm_b _ _ _ _ _ [some (.ref 1), some (.int (xs 3)), some (.int 0)] [] ((fun _ => false, 0, 0, true, false, ad), (zI_22 xs), (fun _ _ => 0))
  refine mm_el (c := ((nI 900) : Int32) ≤ 11) (d := ¬ ((nI 900) : Int32) ≤ 11) (by decide) ?_
  show mm_b _ _ _ _ _ [some (.ref 1), some (.int (xs 3)), some (.int 0)] [] ((fun _ => false, 0, 0, true, false, ad), (zI_22 xs), (fun _ _ => 0))
  refine mm_ob (P := vp_in 11 900) (mm_inl (by decide)) ?_
  show mm_b _ _ _ _ _ [some (.ref 1), some (.int (xs 3)), some (.int 0)] [] ((fun _ => false, 0, 0, true, false, ad), (zI_23 xs), (fun _ _ => 0))
  refine mm_tk (c := ((-8) : Int32) < 0) (d := ¬ ((-8) : Int32) < 0) (by decide) ?_
  show mm_u _ _ _ _ _ _ [some (.ref 1), some (.int (xs 3)), some (.int (-8))] [] ((fun _ => false, 0, 0, true, false, ad), (zI_24 xs), (fun _ _ => 0))
  refine mm_q0 ⟨rfl, ?_⟩
  show mm_b _ _ _ _ _ [some (.ref 0), some (.int (xs 1)), some (.int (xs 2)), some (.int (xs 3)), some (.int (xs 4)), some (.int (xs 5))] [] ((fun _ => false, 0, 0, true, false, ad), (zI_24 xs), (fun _ _ => 0))
  refine mm_iv 600 (by rfl) ?_
  show mm_k _ _ _ _ _ [some (.ref 1), some (.int (xs 4)), none] [] ((fun _ => false, 0, 0, true, false, ad), (zI_24 xs), (fun _ _ => 0))
  refine mm_el (c := (24 : Int32) < 0) (d := ¬ (24 : Int32) < 0) (by decide) ?_
  show mm_b _ _ _ _ _ [some (.ref 1), some (.int (xs 4)), some (.int 24)] [] ((fun _ => false, 0, 0, true, false, ad), (zI_24 xs), (fun _ _ => 0))
  refine mm_el (c := ((nI 900) : Int32) ≤ 12) (d := ¬ ((nI 900) : Int32) ≤ 12) (by decide) ?_
  show mm_b _ _ _ _ _ [some (.ref 1), some (.int (xs 4)), some (.int 24)] [] ((fun _ => false, 0, 0, true, false, ad), (zI_24 xs), (fun _ _ => 0))
  refine mm_ob (P := vp_in 12 900) (mm_inl (by decide)) ?_
  show mm_b _ _ _ _ _ [some (.ref 1), some (.int (xs 4)), some (.int 24)] [] ((fun _ => false, 0, 0, true, false, ad), (zI_25 xs), (fun _ _ => 0))
  refine mm_el (c := (16 : Int32) < 0) (d := ¬ (16 : Int32) < 0) (by decide) ?_
  show mm_b _ _ _ _ _ [some (.ref 1), some (.int (xs 4)), some (.int 16)] [] ((fun _ => false, 0, 0, true, false, ad), (zI_26 xs), (fun _ _ => 0))
  refine mm_el (c := ((nI 900) : Int32) ≤ 13) (d := ¬ ((nI 900) : Int32) ≤ 13) (by decide) ?_
  show mm_b _ _ _ _ _ [some (.ref 1), some (.int (xs 4)), some (.int 16)] [] ((fun _ => false, 0, 0, true, false, ad), (zI_26 xs), (fun _ _ => 0))
  refine mm_ob (P := vp_in 13 900) (mm_inl (by decide)) ?_
  show mm_b _ _ _ _ _ [some (.ref 1), some (.int (xs 4)), some (.int 16)] [] ((fun _ => false, 0, 0, true, false, ad), (zI_27 xs), (fun _ _ => 0))
  refine mm_el (c := (8 : Int32) < 0) (d := ¬ (8 : Int32) < 0) (by decide) ?_
  show mm_b _ _ _ _ _ [some (.ref 1), some (.int (xs 4)), some (.int 8)] [] ((fun _ => false, 0, 0, true, false, ad), (zI_28 xs), (fun _ _ => 0))
  refine mm_el (c := ((nI 900) : Int32) ≤ 14) (d := ¬ ((nI 900) : Int32) ≤ 14) (by decide) ?_
  show mm_b _ _ _ _ _ [some (.ref 1), some (.int (xs 4)), some (.int 8)] [] ((fun _ => false, 0, 0, true, false, ad), (zI_28 xs), (fun _ _ => 0))
  refine mm_ob (P := vp_in 14 900) (mm_inl (by decide)) ?_
  show mm_b _ _ _ _ _ [some (.ref 1), some (.int (xs 4)), some (.int 8)] [] ((fun _ => false, 0, 0, true, false, ad), (zI_29 xs), (fun _ _ => 0))
  refine mm_el (c := (0 : Int32) < 0) (d := ¬ (0 : Int32) < 0) (by decide) ?_
  show mm_b _ _ _ _ _ [some (.ref 1), some (.int (xs 4)), some (.int 0)] [] ((fun _ => false, 0, 0, true, false, ad), (zI_30 xs), (fun _ _ => 0))
  refine mm_el (c := ((nI 900) : Int32) ≤ 15) (d := ¬ ((nI 900) : Int32) ≤ 15) (by decide) ?_
  show mm_b _ _ _ _ _ [some (.ref 1), some (.int (xs 4)), some (.int 0)] [] ((fun _ => false, 0, 0, true, false, ad), (zI_30 xs), (fun _ _ => 0))
  refine mm_ob (P := vp_in 15 900) (mm_inl (by decide)) ?_
  show mm_b _ _ _ _ _ [some (.ref 1), some (.int (xs 4)), some (.int 0)] [] ((fun _ => false, 0, 0, true, false, ad), (zI_31 xs), (fun _ _ => 0))
  refine mm_tk (c := ((-8) : Int32) < 0) (d := ¬ ((-8) : Int32) < 0) (by decide) ?_
  show mm_u _ _ _ _ _ _ [some (.ref 1), some (.int (xs 4)), some (.int (-8))] [] ((fun _ => false, 0, 0, true, false, ad), (zI_32 xs), (fun _ _ => 0))
  refine mm_q0 ⟨rfl, ?_⟩
  show mm_b _ _ _ _ _ [some (.ref 0), some (.int (xs 1)), some (.int (xs 2)), some (.int (xs 3)), some (.int (xs 4)), some (.int (xs 5))] [] ((fun _ => false, 0, 0, true, false, ad), (zI_32 xs), (fun _ _ => 0))
  refine mm_iv 600 (by rfl) ?_
  show mm_k _ _ _ _ _ [some (.ref 1), some (.int (xs 5)), none] [] ((fun _ => false, 0, 0, true, false, ad), (zI_32 xs), (fun _ _ => 0))
  refine mm_el (c := (24 : Int32) < 0) (d := ¬ (24 : Int32) < 0) (by decide) ?_
  show mm_b _ _ _ _ _ [some (.ref 1), some (.int (xs 5)), some (.int 24)] [] ((fun _ => false, 0, 0, true, false, ad), (zI_32 xs), (fun _ _ => 0))
  refine mm_el (c := ((nI 900) : Int32) ≤ 16) (d := ¬ ((nI 900) : Int32) ≤ 16) (by decide) ?_
  show mm_b _ _ _ _ _ [some (.ref 1), some (.int (xs 5)), some (.int 24)] [] ((fun _ => false, 0, 0, true, false, ad), (zI_32 xs), (fun _ _ => 0))
  refine mm_ob (P := vp_in 16 900) (mm_inl (by decide)) ?_
  show mm_b _ _ _ _ _ [some (.ref 1), some (.int (xs 5)), some (.int 24)] [] ((fun _ => false, 0, 0, true, false, ad), (zI_33 xs), (fun _ _ => 0))
  refine mm_el (c := (16 : Int32) < 0) (d := ¬ (16 : Int32) < 0) (by decide) ?_
  show mm_b _ _ _ _ _ [some (.ref 1), some (.int (xs 5)), some (.int 16)] [] ((fun _ => false, 0, 0, true, false, ad), (zI_34 xs), (fun _ _ => 0))
  refine mm_el (c := ((nI 900) : Int32) ≤ 17) (d := ¬ ((nI 900) : Int32) ≤ 17) (by decide) ?_
  show mm_b _ _ _ _ _ [some (.ref 1), some (.int (xs 5)), some (.int 16)] [] ((fun _ => false, 0, 0, true, false, ad), (zI_34 xs), (fun _ _ => 0))
  refine mm_ob (P := vp_in 17 900) (mm_inl (by decide)) ?_
  show mm_b _ _ _ _ _ [some (.ref 1), some (.int (xs 5)), some (.int 16)] [] ((fun _ => false, 0, 0, true, false, ad), (zI_35 xs), (fun _ _ => 0))
  refine mm_el (c := (8 : Int32) < 0) (d := ¬ (8 : Int32) < 0) (by decide) ?_
  show mm_b _ _ _ _ _ [some (.ref 1), some (.int (xs 5)), some (.int 8)] [] ((fun _ => false, 0, 0, true, false, ad), (zI_36 xs), (fun _ _ => 0))
  refine mm_el (c := ((nI 900) : Int32) ≤ 18) (d := ¬ ((nI 900) : Int32) ≤ 18) (by decide) ?_
  show mm_b _ _ _ _ _ [some (.ref 1), some (.int (xs 5)), some (.int 8)] [] ((fun _ => false, 0, 0, true, false, ad), (zI_36 xs), (fun _ _ => 0))
  refine mm_ob (P := vp_in 18 900) (mm_inl (by decide)) ?_
  show mm_b _ _ _ _ _ [some (.ref 1), some (.int (xs 5)), some (.int 8)] [] ((fun _ => false, 0, 0, true, false, ad), (zI_37 xs), (fun _ _ => 0))
  refine mm_el (c := (0 : Int32) < 0) (d := ¬ (0 : Int32) < 0) (by decide) ?_
  show mm_b _ _ _ _ _ [some (.ref 1), some (.int (xs 5)), some (.int 0)] [] ((fun _ => false, 0, 0, true, false, ad), (zI_38 xs), (fun _ _ => 0))
  refine mm_el (c := ((nI 900) : Int32) ≤ 19) (d := ¬ ((nI 900) : Int32) ≤ 19) (by decide) ?_
  show mm_b _ _ _ _ _ [some (.ref 1), some (.int (xs 5)), some (.int 0)] [] ((fun _ => false, 0, 0, true, false, ad), (zI_38 xs), (fun _ _ => 0))
  refine mm_ob (P := vp_in 19 900) (mm_inl (by decide)) ?_
  show mm_b _ _ _ _ _ [some (.ref 1), some (.int (xs 5)), some (.int 0)] [] ((fun _ => false, 0, 0, true, false, ad), (zI_39 xs), (fun _ _ => 0))
  refine mm_tk (c := ((-8) : Int32) < 0) (d := ¬ ((-8) : Int32) < 0) (by decide) ?_
  show mm_u _ _ _ _ _ _ [some (.ref 1), some (.int (xs 5)), some (.int (-8))] [] ((fun _ => false, 0, 0, true, false, ad), (zI_40 xs), (fun _ _ => 0))
  refine mm_q0 ⟨rfl, ?_⟩
  show mm_b _ _ _ _ _ [some (.ref 0), some (.int (xs 1)), some (.int (xs 2)), some (.int (xs 3)), some (.int (xs 4)), some (.int (xs 5))] [] ((fun _ => false, 0, 0, true, false, ad), (zI_40 xs), (fun _ _ => 0))
  refine mm_q1 (r := 20) ?_
  show mm_b _ _ _ _ _ [some (.ref 68), some (.ref 0), some (.ref 46), some (.ref 65), some (.int 0), none, none] [.int 20] ((fun _ => false, 599936, 6869426, true, false, ad), (zI_40 xs), (fun _ _ => 0))
  refine mm_ob (P := vp_in 1 (nI 6).toNatClampNeg) (mm_inl (by decide)) ?_
  show mm_b _ _ _ _ _ [some (.ref 68), some (.ref 0), some (.ref 46), some (.ref 65), some (.int 0), none, none] [.int (xs 1), .ref 46, .int 20] ((fun _ => false, 599936, 6869426, true, false, ad), (zI_40 xs), (fun _ _ => 0))
  refine mm_ob (P := vp_in 2 (nI 6).toNatClampNeg) (mm_inl (by decide)) ?_
  show mm_b _ _ _ _ _ [some (.ref 68), some (.ref 0), some (.ref 46), some (.ref 65), some (.int 0), none, none] [.int (xs 2), .int (xs 1), .ref 46, .int 20] ((fun _ => false, 599936, 6869426, true, false, ad), (zI_40 xs), (fun _ _ => 0))
  refine mm_ob (P := vp_in 3 (nI 6).toNatClampNeg) (mm_inl (by decide)) ?_
  show mm_b _ _ _ _ _ [some (.ref 68), some (.ref 0), some (.ref 46), some (.ref 65), some (.int 0), none, none] [.int (xs 3), .int (xs 2), .int (xs 1), .ref 46, .int 20] ((fun _ => false, 599936, 6869426, true, false, ad), (zI_40 xs), (fun _ _ => 0))
  refine mm_ob (P := vp_in 4 (nI 6).toNatClampNeg) (mm_inl (by decide)) ?_
  show mm_b _ _ _ _ _ [some (.ref 68), some (.ref 0), some (.ref 46), some (.ref 65), some (.int 0), none, none] [.int (xs 4), .int (xs 3), .int (xs 2), .int (xs 1), .ref 46, .int 20] ((fun _ => false, 599936, 6869426, true, false, ad), (zI_40 xs), (fun _ _ => 0))
  refine mm_ob (P := vp_in 5 (nI 6).toNatClampNeg) (mm_inl (by decide)) ?_
  show mm_b _ _ _ _ _ [some (.ref 68), some (.ref 0), some (.ref 46), some (.ref 65), some (.int 0), none, none] [.int (xs 5), .int (xs 4), .int (xs 3), .int (xs 2), .int (xs 1), .ref 46, .int 20] ((fun _ => false, 599936, 6869426, true, false, ad), (zI_40 xs), (fun _ _ => 0))
  refine mm_e1 ?_
  refine mm_iv 600 (by rfl) ?_
  show mm_k _ _ _ _ _ [some (.ref 46), some (.int (xs 1)), some (.int (xs 2)), some (.int (xs 3)), some (.int (xs 4)), some (.int (xs 5)), none, none] [] ((fun _ => false, 0, 0, true, false, ad), (zI_40 xs), (fun _ _ => 0))
  refine mm_tk (c := (20 : Int32) ≤ 900) (d := ¬ (20 : Int32) ≤ 900) (by decide) ?_
  show mm_u _ _ _ _ _ _ [some (.ref 46), some (.int (xs 1)), some (.int (xs 2)), some (.int (xs 3)), some (.int (xs 4)), some (.int (xs 5)), none, none] [] ((fun _ => false, 0, 0, true, false, ad), (zI_41 xs), (fun _ _ => 0))
  refine mm_el (c := (20 : Int32) ≤ 0) (d := ¬ (20 : Int32) ≤ 0) (by decide) ?_
  show mm_b _ _ _ _ _ [some (.ref 46), some (.int (xs 1)), some (.int (xs 2)), some (.int (xs 3)), some (.int (xs 4)), some (.int (xs 5)), some (.int 0), none] [] ((fun _ => false, 0, 0, true, false, ad), (zI_41 xs), (fun _ _ => 0))
  refine mm_el (c := (4 : Int32) ≤ 0) (d := ¬ (4 : Int32) ≤ 0) (by decide) ?_
  show mm_b _ _ _ _ _ [some (.ref 46), some (.int (xs 1)), some (.int (xs 2)), some (.int (xs 3)), some (.int (xs 4)), some (.int (xs 5)), some (.int 0), none] [] ((fun _ => false, 0, 0, true, false, ad), (zI_41 xs), (fun _ _ => 0))
  refine mm_ob (P := ¬ (4 : Int32) = 0) (by decide) ?_
  refine mm_ob (P := vp_in 0 900) (mm_inl (by decide)) ?_
  show mm_b _ _ _ _ _ [some (.ref 46), some (.int (xs 1)), some (.int (xs 2)), some (.int (xs 3)), some (.int (xs 4)), some (.int (xs 5)), some (.int 0), some (.int (xs 1))] [] ((fun _ => false, 0, 0, true, false, ad), (zI_42 xs), (fun _ _ => 0))
  refine mm_el (c := (20 : Int32) ≤ 1) (d := ¬ (20 : Int32) ≤ 1) (by decide) ?_
  show mm_b _ _ _ _ _ [some (.ref 46), some (.int (xs 1)), some (.int (xs 2)), some (.int (xs 3)), some (.int (xs 4)), some (.int (xs 5)), some (.int 1), none] [] ((fun _ => false, 0, 0, true, false, ad), (zI_43 xs), (fun _ _ => 0))
  refine mm_el (c := (4 : Int32) ≤ 1) (d := ¬ (4 : Int32) ≤ 1) (by decide) ?_
  show mm_b _ _ _ _ _ [some (.ref 46), some (.int (xs 1)), some (.int (xs 2)), some (.int (xs 3)), some (.int (xs 4)), some (.int (xs 5)), some (.int 1), none] [] ((fun _ => false, 0, 0, true, false, ad), (zI_43 xs), (fun _ _ => 0))
  refine mm_ob (P := ¬ (4 : Int32) = 0) (by decide) ?_
  refine mm_ob (P := vp_in 1 900) (mm_inl (by decide)) ?_
  show mm_b _ _ _ _ _ [some (.ref 46), some (.int (xs 1)), some (.int (xs 2)), some (.int (xs 3)), some (.int (xs 4)), some (.int (xs 5)), some (.int 1), some (.int (xs 1))] [] ((fun _ => false, 0, 0, true, false, ad), (zI_44 xs), (fun _ _ => 0))
  refine mm_el (c := (20 : Int32) ≤ 2) (d := ¬ (20 : Int32) ≤ 2) (by decide) ?_
  show mm_b _ _ _ _ _ [some (.ref 46), some (.int (xs 1)), some (.int (xs 2)), some (.int (xs 3)), some (.int (xs 4)), some (.int (xs 5)), some (.int 2), none] [] ((fun _ => false, 0, 0, true, false, ad), (zI_45 xs), (fun _ _ => 0))
  refine mm_el (c := (4 : Int32) ≤ 2) (d := ¬ (4 : Int32) ≤ 2) (by decide) ?_
  show mm_b _ _ _ _ _ [some (.ref 46), some (.int (xs 1)), some (.int (xs 2)), some (.int (xs 3)), some (.int (xs 4)), some (.int (xs 5)), some (.int 2), none] [] ((fun _ => false, 0, 0, true, false, ad), (zI_45 xs), (fun _ _ => 0))
  refine mm_ob (P := ¬ (4 : Int32) = 0) (by decide) ?_
  refine mm_ob (P := vp_in 2 900) (mm_inl (by decide)) ?_
  show mm_b _ _ _ _ _ [some (.ref 46), some (.int (xs 1)), some (.int (xs 2)), some (.int (xs 3)), some (.int (xs 4)), some (.int (xs 5)), some (.int 2), some (.int (xs 1))] [] ((fun _ => false, 0, 0, true, false, ad), (zI_46 xs), (fun _ _ => 0))
  refine mm_el (c := (20 : Int32) ≤ 3) (d := ¬ (20 : Int32) ≤ 3) (by decide) ?_
  show mm_b _ _ _ _ _ [some (.ref 46), some (.int (xs 1)), some (.int (xs 2)), some (.int (xs 3)), some (.int (xs 4)), some (.int (xs 5)), some (.int 3), none] [] ((fun _ => false, 0, 0, true, false, ad), (zI_47 xs), (fun _ _ => 0))
  refine mm_el (c := (4 : Int32) ≤ 3) (d := ¬ (4 : Int32) ≤ 3) (by decide) ?_
  show mm_b _ _ _ _ _ [some (.ref 46), some (.int (xs 1)), some (.int (xs 2)), some (.int (xs 3)), some (.int (xs 4)), some (.int (xs 5)), some (.int 3), none] [] ((fun _ => false, 0, 0, true, false, ad), (zI_47 xs), (fun _ _ => 0))
  refine mm_ob (P := ¬ (4 : Int32) = 0) (by decide) ?_
  refine mm_ob (P := vp_in 3 900) (mm_inl (by decide)) ?_
  show mm_b _ _ _ _ _ [some (.ref 46), some (.int (xs 1)), some (.int (xs 2)), some (.int (xs 3)), some (.int (xs 4)), some (.int (xs 5)), some (.int 3), some (.int (xs 1))] [] ((fun _ => false, 0, 0, true, false, ad), (zI_48 xs), (fun _ _ => 0))
  refine mm_el (c := (20 : Int32) ≤ 4) (d := ¬ (20 : Int32) ≤ 4) (by decide) ?_
  show mm_b _ _ _ _ _ [some (.ref 46), some (.int (xs 1)), some (.int (xs 2)), some (.int (xs 3)), some (.int (xs 4)), some (.int (xs 5)), some (.int 4), none] [] ((fun _ => false, 0, 0, true, false, ad), (zI_49 xs), (fun _ _ => 0))
  refine mm_tk (c := (4 : Int32) ≤ 4) (d := ¬ (4 : Int32) ≤ 4) (by decide) ?_
  show mm_u _ _ _ _ _ _ [some (.ref 46), some (.int (xs 1)), some (.int (xs 2)), some (.int (xs 3)), some (.int (xs 4)), some (.int (xs 5)), some (.int 4), none] [] ((fun _ => false, 0, 0, true, false, ad), (zI_49 xs), (fun _ _ => 0))
  refine mm_el (c := (8 : Int32) ≤ 4) (d := ¬ (8 : Int32) ≤ 4) (by decide) ?_
  show mm_b _ _ _ _ _ [some (.ref 46), some (.int (xs 1)), some (.int (xs 2)), some (.int (xs 3)), some (.int (xs 4)), some (.int (xs 5)), some (.int 4), none] [] ((fun _ => false, 0, 0, true, false, ad), (zI_49 xs), (fun _ _ => 0))
  refine mm_ob (P := ¬ (4 : Int32) = 0) (by decide) ?_
  refine mm_ob (P := vp_in 4 900) (mm_inl (by decide)) ?_
  show mm_b _ _ _ _ _ [some (.ref 46), some (.int (xs 1)), some (.int (xs 2)), some (.int (xs 3)), some (.int (xs 4)), some (.int (xs 5)), some (.int 4), some (.int (xs 2))] [] ((fun _ => false, 0, 0, true, false, ad), (zI_50 xs), (fun _ _ => 0))
  refine mm_el (c := (20 : Int32) ≤ 5) (d := ¬ (20 : Int32) ≤ 5) (by decide) ?_
  show mm_b _ _ _ _ _ [some (.ref 46), some (.int (xs 1)), some (.int (xs 2)), some (.int (xs 3)), some (.int (xs 4)), some (.int (xs 5)), some (.int 5), none] [] ((fun _ => false, 0, 0, true, false, ad), (zI_51 xs), (fun _ _ => 0))
  refine mm_tk (c := (4 : Int32) ≤ 5) (d := ¬ (4 : Int32) ≤ 5) (by decide) ?_
  show mm_u _ _ _ _ _ _ [some (.ref 46), some (.int (xs 1)), some (.int (xs 2)), some (.int (xs 3)), some (.int (xs 4)), some (.int (xs 5)), some (.int 5), none] [] ((fun _ => false, 0, 0, true, false, ad), (zI_51 xs), (fun _ _ => 0))
  refine mm_el (c := (8 : Int32) ≤ 5) (d := ¬ (8 : Int32) ≤ 5) (by decide) ?_
  show mm_b _ _ _ _ _ [some (.ref 46), some (.int (xs 1)), some (.int (xs 2)), some (.int (xs 3)), some (.int (xs 4)), some (.int (xs 5)), some (.int 5), none] [] ((fun _ => false, 0, 0, true, false, ad), (zI_51 xs), (fun _ _ => 0))
  refine mm_ob (P := ¬ (4 : Int32) = 0) (by decide) ?_
  refine mm_ob (P := vp_in 5 900) (mm_inl (by decide)) ?_
  show mm_b _ _ _ _ _ [some (.ref 46), some (.int (xs 1)), some (.int (xs 2)), some (.int (xs 3)), some (.int (xs 4)), some (.int (xs 5)), some (.int 5), some (.int (xs 2))] [] ((fun _ => false, 0, 0, true, false, ad), (zI_52 xs), (fun _ _ => 0))
  refine mm_el (c := (20 : Int32) ≤ 6) (d := ¬ (20 : Int32) ≤ 6) (by decide) ?_
  show mm_b _ _ _ _ _ [some (.ref 46), some (.int (xs 1)), some (.int (xs 2)), some (.int (xs 3)), some (.int (xs 4)), some (.int (xs 5)), some (.int 6), none] [] ((fun _ => false, 0, 0, true, false, ad), (zI_53 xs), (fun _ _ => 0))
  refine mm_tk (c := (4 : Int32) ≤ 6) (d := ¬ (4 : Int32) ≤ 6) (by decide) ?_
  show mm_u _ _ _ _ _ _ [some (.ref 46), some (.int (xs 1)), some (.int (xs 2)), some (.int (xs 3)), some (.int (xs 4)), some (.int (xs 5)), some (.int 6), none] [] ((fun _ => false, 0, 0, true, false, ad), (zI_53 xs), (fun _ _ => 0))
  refine mm_el (c := (8 : Int32) ≤ 6) (d := ¬ (8 : Int32) ≤ 6) (by decide) ?_
  show mm_b _ _ _ _ _ [some (.ref 46), some (.int (xs 1)), some (.int (xs 2)), some (.int (xs 3)), some (.int (xs 4)), some (.int (xs 5)), some (.int 6), none] [] ((fun _ => false, 0, 0, true, false, ad), (zI_53 xs), (fun _ _ => 0))
  refine mm_ob (P := ¬ (4 : Int32) = 0) (by decide) ?_
  refine mm_ob (P := vp_in 6 900) (mm_inl (by decide)) ?_
  show mm_b _ _ _ _ _ [some (.ref 46), some (.int (xs 1)), some (.int (xs 2)), some (.int (xs 3)), some (.int (xs 4)), some (.int (xs 5)), some (.int 6), some (.int (xs 2))] [] ((fun _ => false, 0, 0, true, false, ad), (zI_54 xs), (fun _ _ => 0))
  refine mm_el (c := (20 : Int32) ≤ 7) (d := ¬ (20 : Int32) ≤ 7) (by decide) ?_
  show mm_b _ _ _ _ _ [some (.ref 46), some (.int (xs 1)), some (.int (xs 2)), some (.int (xs 3)), some (.int (xs 4)), some (.int (xs 5)), some (.int 7), none] [] ((fun _ => false, 0, 0, true, false, ad), (zI_55 xs), (fun _ _ => 0))
  refine mm_tk (c := (4 : Int32) ≤ 7) (d := ¬ (4 : Int32) ≤ 7) (by decide) ?_
  show mm_u _ _ _ _ _ _ [some (.ref 46), some (.int (xs 1)), some (.int (xs 2)), some (.int (xs 3)), some (.int (xs 4)), some (.int (xs 5)), some (.int 7), none] [] ((fun _ => false, 0, 0, true, false, ad), (zI_55 xs), (fun _ _ => 0))
  refine mm_el (c := (8 : Int32) ≤ 7) (d := ¬ (8 : Int32) ≤ 7) (by decide) ?_
  show mm_b _ _ _ _ _ [some (.ref 46), some (.int (xs 1)), some (.int (xs 2)), some (.int (xs 3)), some (.int (xs 4)), some (.int (xs 5)), some (.int 7), none] [] ((fun _ => false, 0, 0, true, false, ad), (zI_55 xs), (fun _ _ => 0))
  refine mm_ob (P := ¬ (4 : Int32) = 0) (by decide) ?_
  refine mm_ob (P := vp_in 7 900) (mm_inl (by decide)) ?_
  show mm_b _ _ _ _ _ [some (.ref 46), some (.int (xs 1)), some (.int (xs 2)), some (.int (xs 3)), some (.int (xs 4)), some (.int (xs 5)), some (.int 7), some (.int (xs 2))] [] ((fun _ => false, 0, 0, true, false, ad), (zI_56 xs), (fun _ _ => 0))
  refine mm_el (c := (20 : Int32) ≤ 8) (d := ¬ (20 : Int32) ≤ 8) (by decide) ?_
  show mm_b _ _ _ _ _ [some (.ref 46), some (.int (xs 1)), some (.int (xs 2)), some (.int (xs 3)), some (.int (xs 4)), some (.int (xs 5)), some (.int 8), none] [] ((fun _ => false, 0, 0, true, false, ad), (zI_57 xs), (fun _ _ => 0))
  refine mm_tk (c := (4 : Int32) ≤ 8) (d := ¬ (4 : Int32) ≤ 8) (by decide) ?_
  show mm_u _ _ _ _ _ _ [some (.ref 46), some (.int (xs 1)), some (.int (xs 2)), some (.int (xs 3)), some (.int (xs 4)), some (.int (xs 5)), some (.int 8), none] [] ((fun _ => false, 0, 0, true, false, ad), (zI_57 xs), (fun _ _ => 0))
  refine mm_tk (c := (8 : Int32) ≤ 8) (d := ¬ (8 : Int32) ≤ 8) (by decide) ?_
  show mm_u _ _ _ _ _ _ [some (.ref 46), some (.int (xs 1)), some (.int (xs 2)), some (.int (xs 3)), some (.int (xs 4)), some (.int (xs 5)), some (.int 8), none] [] ((fun _ => false, 0, 0, true, false, ad), (zI_57 xs), (fun _ _ => 0))
  refine mm_el (c := (12 : Int32) ≤ 8) (d := ¬ (12 : Int32) ≤ 8) (by decide) ?_
  show mm_b _ _ _ _ _ [some (.ref 46), some (.int (xs 1)), some (.int (xs 2)), some (.int (xs 3)), some (.int (xs 4)), some (.int (xs 5)), some (.int 8), none] [] ((fun _ => false, 0, 0, true, false, ad), (zI_57 xs), (fun _ _ => 0))
  refine mm_ob (P := ¬ (4 : Int32) = 0) (by decide) ?_
  refine mm_ob (P := vp_in 8 900) (mm_inl (by decide)) ?_
  show mm_b _ _ _ _ _ [some (.ref 46), some (.int (xs 1)), some (.int (xs 2)), some (.int (xs 3)), some (.int (xs 4)), some (.int (xs 5)), some (.int 8), some (.int (xs 3))] [] ((fun _ => false, 0, 0, true, false, ad), (zI_58 xs), (fun _ _ => 0))
  refine mm_el (c := (20 : Int32) ≤ 9) (d := ¬ (20 : Int32) ≤ 9) (by decide) ?_
  show mm_b _ _ _ _ _ [some (.ref 46), some (.int (xs 1)), some (.int (xs 2)), some (.int (xs 3)), some (.int (xs 4)), some (.int (xs 5)), some (.int 9), none] [] ((fun _ => false, 0, 0, true, false, ad), (zI_59 xs), (fun _ _ => 0))
  refine mm_tk (c := (4 : Int32) ≤ 9) (d := ¬ (4 : Int32) ≤ 9) (by decide) ?_
  show mm_u _ _ _ _ _ _ [some (.ref 46), some (.int (xs 1)), some (.int (xs 2)), some (.int (xs 3)), some (.int (xs 4)), some (.int (xs 5)), some (.int 9), none] [] ((fun _ => false, 0, 0, true, false, ad), (zI_59 xs), (fun _ _ => 0))
  refine mm_tk (c := (8 : Int32) ≤ 9) (d := ¬ (8 : Int32) ≤ 9) (by decide) ?_
  show mm_u _ _ _ _ _ _ [some (.ref 46), some (.int (xs 1)), some (.int (xs 2)), some (.int (xs 3)), some (.int (xs 4)), some (.int (xs 5)), some (.int 9), none] [] ((fun _ => false, 0, 0, true, false, ad), (zI_59 xs), (fun _ _ => 0))
  refine mm_el (c := (12 : Int32) ≤ 9) (d := ¬ (12 : Int32) ≤ 9) (by decide) ?_
  show mm_b _ _ _ _ _ [some (.ref 46), some (.int (xs 1)), some (.int (xs 2)), some (.int (xs 3)), some (.int (xs 4)), some (.int (xs 5)), some (.int 9), none] [] ((fun _ => false, 0, 0, true, false, ad), (zI_59 xs), (fun _ _ => 0))
  refine mm_ob (P := ¬ (4 : Int32) = 0) (by decide) ?_
  refine mm_ob (P := vp_in 9 900) (mm_inl (by decide)) ?_
  show mm_b _ _ _ _ _ [some (.ref 46), some (.int (xs 1)), some (.int (xs 2)), some (.int (xs 3)), some (.int (xs 4)), some (.int (xs 5)), some (.int 9), some (.int (xs 3))] [] ((fun _ => false, 0, 0, true, false, ad), (zI_60 xs), (fun _ _ => 0))
  refine mm_el (c := (20 : Int32) ≤ 10) (d := ¬ (20 : Int32) ≤ 10) (by decide) ?_
  show mm_b _ _ _ _ _ [some (.ref 46), some (.int (xs 1)), some (.int (xs 2)), some (.int (xs 3)), some (.int (xs 4)), some (.int (xs 5)), some (.int 10), none] [] ((fun _ => false, 0, 0, true, false, ad), (zI_61 xs), (fun _ _ => 0))
  refine mm_tk (c := (4 : Int32) ≤ 10) (d := ¬ (4 : Int32) ≤ 10) (by decide) ?_
  show mm_u _ _ _ _ _ _ [some (.ref 46), some (.int (xs 1)), some (.int (xs 2)), some (.int (xs 3)), some (.int (xs 4)), some (.int (xs 5)), some (.int 10), none] [] ((fun _ => false, 0, 0, true, false, ad), (zI_61 xs), (fun _ _ => 0))
  refine mm_tk (c := (8 : Int32) ≤ 10) (d := ¬ (8 : Int32) ≤ 10) (by decide) ?_
  show mm_u _ _ _ _ _ _ [some (.ref 46), some (.int (xs 1)), some (.int (xs 2)), some (.int (xs 3)), some (.int (xs 4)), some (.int (xs 5)), some (.int 10), none] [] ((fun _ => false, 0, 0, true, false, ad), (zI_61 xs), (fun _ _ => 0))
  refine mm_el (c := (12 : Int32) ≤ 10) (d := ¬ (12 : Int32) ≤ 10) (by decide) ?_
  show mm_b _ _ _ _ _ [some (.ref 46), some (.int (xs 1)), some (.int (xs 2)), some (.int (xs 3)), some (.int (xs 4)), some (.int (xs 5)), some (.int 10), none] [] ((fun _ => false, 0, 0, true, false, ad), (zI_61 xs), (fun _ _ => 0))
  refine mm_ob (P := ¬ (4 : Int32) = 0) (by decide) ?_
  refine mm_ob (P := vp_in 10 900) (mm_inl (by decide)) ?_
  show mm_b _ _ _ _ _ [some (.ref 46), some (.int (xs 1)), some (.int (xs 2)), some (.int (xs 3)), some (.int (xs 4)), some (.int (xs 5)), some (.int 10), some (.int (xs 3))] [] ((fun _ => false, 0, 0, true, false, ad), (zI_62 xs), (fun _ _ => 0))
  refine mm_el (c := (20 : Int32) ≤ 11) (d := ¬ (20 : Int32) ≤ 11) (by decide) ?_
  show mm_b _ _ _ _ _ [some (.ref 46), some (.int (xs 1)), some (.int (xs 2)), some (.int (xs 3)), some (.int (xs 4)), some (.int (xs 5)), some (.int 11), none] [] ((fun _ => false, 0, 0, true, false, ad), (zI_63 xs), (fun _ _ => 0))
  refine mm_tk (c := (4 : Int32) ≤ 11) (d := ¬ (4 : Int32) ≤ 11) (by decide) ?_
  show mm_u _ _ _ _ _ _ [some (.ref 46), some (.int (xs 1)), some (.int (xs 2)), some (.int (xs 3)), some (.int (xs 4)), some (.int (xs 5)), some (.int 11), none] [] ((fun _ => false, 0, 0, true, false, ad), (zI_63 xs), (fun _ _ => 0))
  refine mm_tk (c := (8 : Int32) ≤ 11) (d := ¬ (8 : Int32) ≤ 11) (by decide) ?_
  show mm_u _ _ _ _ _ _ [some (.ref 46), some (.int (xs 1)), some (.int (xs 2)), some (.int (xs 3)), some (.int (xs 4)), some (.int (xs 5)), some (.int 11), none] [] ((fun _ => false, 0, 0, true, false, ad), (zI_63 xs), (fun _ _ => 0))
  refine mm_el (c := (12 : Int32) ≤ 11) (d := ¬ (12 : Int32) ≤ 11) (by decide) ?_
  show mm_b _ _ _ _ _ [some (.ref 46), some (.int (xs 1)), some (.int (xs 2)), some (.int (xs 3)), some (.int (xs 4)), some (.int (xs 5)), some (.int 11), none] [] ((fun _ => false, 0, 0, true, false, ad), (zI_63 xs), (fun _ _ => 0))
  refine mm_ob (P := ¬ (4 : Int32) = 0) (by decide) ?_
  refine mm_ob (P := vp_in 11 900) (mm_inl (by decide)) ?_
  show mm_b _ _ _ _ _ [some (.ref 46), some (.int (xs 1)), some (.int (xs 2)), some (.int (xs 3)), some (.int (xs 4)), some (.int (xs 5)), some (.int 11), some (.int (xs 3))] [] ((fun _ => false, 0, 0, true, false, ad), (zI_64 xs), (fun _ _ => 0))
  refine mm_el (c := (20 : Int32) ≤ 12) (d := ¬ (20 : Int32) ≤ 12) (by decide) ?_
  show mm_b _ _ _ _ _ [some (.ref 46), some (.int (xs 1)), some (.int (xs 2)), some (.int (xs 3)), some (.int (xs 4)), some (.int (xs 5)), some (.int 12), none] [] ((fun _ => false, 0, 0, true, false, ad), (zI_65 xs), (fun _ _ => 0))
  refine mm_tk (c := (4 : Int32) ≤ 12) (d := ¬ (4 : Int32) ≤ 12) (by decide) ?_
  show mm_u _ _ _ _ _ _ [some (.ref 46), some (.int (xs 1)), some (.int (xs 2)), some (.int (xs 3)), some (.int (xs 4)), some (.int (xs 5)), some (.int 12), none] [] ((fun _ => false, 0, 0, true, false, ad), (zI_65 xs), (fun _ _ => 0))
  refine mm_tk (c := (8 : Int32) ≤ 12) (d := ¬ (8 : Int32) ≤ 12) (by decide) ?_
  show mm_u _ _ _ _ _ _ [some (.ref 46), some (.int (xs 1)), some (.int (xs 2)), some (.int (xs 3)), some (.int (xs 4)), some (.int (xs 5)), some (.int 12), none] [] ((fun _ => false, 0, 0, true, false, ad), (zI_65 xs), (fun _ _ => 0))
  refine mm_tk (c := (12 : Int32) ≤ 12) (d := ¬ (12 : Int32) ≤ 12) (by decide) ?_
  show mm_u _ _ _ _ _ _ [some (.ref 46), some (.int (xs 1)), some (.int (xs 2)), some (.int (xs 3)), some (.int (xs 4)), some (.int (xs 5)), some (.int 12), none] [] ((fun _ => false, 0, 0, true, false, ad), (zI_65 xs), (fun _ _ => 0))
  refine mm_el (c := (16 : Int32) ≤ 12) (d := ¬ (16 : Int32) ≤ 12) (by decide) ?_
  show mm_b _ _ _ _ _ [some (.ref 46), some (.int (xs 1)), some (.int (xs 2)), some (.int (xs 3)), some (.int (xs 4)), some (.int (xs 5)), some (.int 12), none] [] ((fun _ => false, 0, 0, true, false, ad), (zI_65 xs), (fun _ _ => 0))
  refine mm_ob (P := ¬ (4 : Int32) = 0) (by decide) ?_
  refine mm_ob (P := vp_in 12 900) (mm_inl (by decide)) ?_
  show mm_b _ _ _ _ _ [some (.ref 46), some (.int (xs 1)), some (.int (xs 2)), some (.int (xs 3)), some (.int (xs 4)), some (.int (xs 5)), some (.int 12), some (.int (xs 4))] [] ((fun _ => false, 0, 0, true, false, ad), (zI_66 xs), (fun _ _ => 0))
  refine mm_el (c := (20 : Int32) ≤ 13) (d := ¬ (20 : Int32) ≤ 13) (by decide) ?_
  show mm_b _ _ _ _ _ [some (.ref 46), some (.int (xs 1)), some (.int (xs 2)), some (.int (xs 3)), some (.int (xs 4)), some (.int (xs 5)), some (.int 13), none] [] ((fun _ => false, 0, 0, true, false, ad), (zI_67 xs), (fun _ _ => 0))
  refine mm_tk (c := (4 : Int32) ≤ 13) (d := ¬ (4 : Int32) ≤ 13) (by decide) ?_
  show mm_u _ _ _ _ _ _ [some (.ref 46), some (.int (xs 1)), some (.int (xs 2)), some (.int (xs 3)), some (.int (xs 4)), some (.int (xs 5)), some (.int 13), none] [] ((fun _ => false, 0, 0, true, false, ad), (zI_67 xs), (fun _ _ => 0))
  refine mm_tk (c := (8 : Int32) ≤ 13) (d := ¬ (8 : Int32) ≤ 13) (by decide) ?_
  show mm_u _ _ _ _ _ _ [some (.ref 46), some (.int (xs 1)), some (.int (xs 2)), some (.int (xs 3)), some (.int (xs 4)), some (.int (xs 5)), some (.int 13), none] [] ((fun _ => false, 0, 0, true, false, ad), (zI_67 xs), (fun _ _ => 0))
  refine mm_tk (c := (12 : Int32) ≤ 13) (d := ¬ (12 : Int32) ≤ 13) (by decide) ?_
  show mm_u _ _ _ _ _ _ [some (.ref 46), some (.int (xs 1)), some (.int (xs 2)), some (.int (xs 3)), some (.int (xs 4)), some (.int (xs 5)), some (.int 13), none] [] ((fun _ => false, 0, 0, true, false, ad), (zI_67 xs), (fun _ _ => 0))
  refine mm_el (c := (16 : Int32) ≤ 13) (d := ¬ (16 : Int32) ≤ 13) (by decide) ?_
  show mm_b _ _ _ _ _ [some (.ref 46), some (.int (xs 1)), some (.int (xs 2)), some (.int (xs 3)), some (.int (xs 4)), some (.int (xs 5)), some (.int 13), none] [] ((fun _ => false, 0, 0, true, false, ad), (zI_67 xs), (fun _ _ => 0))
  refine mm_ob (P := ¬ (4 : Int32) = 0) (by decide) ?_
  refine mm_ob (P := vp_in 13 900) (mm_inl (by decide)) ?_
  show mm_b _ _ _ _ _ [some (.ref 46), some (.int (xs 1)), some (.int (xs 2)), some (.int (xs 3)), some (.int (xs 4)), some (.int (xs 5)), some (.int 13), some (.int (xs 4))] [] ((fun _ => false, 0, 0, true, false, ad), (zI_68 xs), (fun _ _ => 0))
  refine mm_el (c := (20 : Int32) ≤ 14) (d := ¬ (20 : Int32) ≤ 14) (by decide) ?_
  show mm_b _ _ _ _ _ [some (.ref 46), some (.int (xs 1)), some (.int (xs 2)), some (.int (xs 3)), some (.int (xs 4)), some (.int (xs 5)), some (.int 14), none] [] ((fun _ => false, 0, 0, true, false, ad), (zI_69 xs), (fun _ _ => 0))
  refine mm_tk (c := (4 : Int32) ≤ 14) (d := ¬ (4 : Int32) ≤ 14) (by decide) ?_
  show mm_u _ _ _ _ _ _ [some (.ref 46), some (.int (xs 1)), some (.int (xs 2)), some (.int (xs 3)), some (.int (xs 4)), some (.int (xs 5)), some (.int 14), none] [] ((fun _ => false, 0, 0, true, false, ad), (zI_69 xs), (fun _ _ => 0))
  refine mm_tk (c := (8 : Int32) ≤ 14) (d := ¬ (8 : Int32) ≤ 14) (by decide) ?_
  show mm_u _ _ _ _ _ _ [some (.ref 46), some (.int (xs 1)), some (.int (xs 2)), some (.int (xs 3)), some (.int (xs 4)), some (.int (xs 5)), some (.int 14), none] [] ((fun _ => false, 0, 0, true, false, ad), (zI_69 xs), (fun _ _ => 0))
  refine mm_tk (c := (12 : Int32) ≤ 14) (d := ¬ (12 : Int32) ≤ 14) (by decide) ?_
  show mm_u _ _ _ _ _ _ [some (.ref 46), some (.int (xs 1)), some (.int (xs 2)), some (.int (xs 3)), some (.int (xs 4)), some (.int (xs 5)), some (.int 14), none] [] ((fun _ => false, 0, 0, true, false, ad), (zI_69 xs), (fun _ _ => 0))
  refine mm_el (c := (16 : Int32) ≤ 14) (d := ¬ (16 : Int32) ≤ 14) (by decide) ?_
  show mm_b _ _ _ _ _ [some (.ref 46), some (.int (xs 1)), some (.int (xs 2)), some (.int (xs 3)), some (.int (xs 4)), some (.int (xs 5)), some (.int 14), none] [] ((fun _ => false, 0, 0, true, false, ad), (zI_69 xs), (fun _ _ => 0))
  refine mm_ob (P := ¬ (4 : Int32) = 0) (by decide) ?_
  refine mm_ob (P := vp_in 14 900) (mm_inl (by decide)) ?_
  show mm_b _ _ _ _ _ [some (.ref 46), some (.int (xs 1)), some (.int (xs 2)), some (.int (xs 3)), some (.int (xs 4)), some (.int (xs 5)), some (.int 14), some (.int (xs 4))] [] ((fun _ => false, 0, 0, true, false, ad), (zI_70 xs), (fun _ _ => 0))
  refine mm_el (c := (20 : Int32) ≤ 15) (d := ¬ (20 : Int32) ≤ 15) (by decide) ?_
  show mm_b _ _ _ _ _ [some (.ref 46), some (.int (xs 1)), some (.int (xs 2)), some (.int (xs 3)), some (.int (xs 4)), some (.int (xs 5)), some (.int 15), none] [] ((fun _ => false, 0, 0, true, false, ad), (zI_71 xs), (fun _ _ => 0))
  refine mm_tk (c := (4 : Int32) ≤ 15) (d := ¬ (4 : Int32) ≤ 15) (by decide) ?_
  show mm_u _ _ _ _ _ _ [some (.ref 46), some (.int (xs 1)), some (.int (xs 2)), some (.int (xs 3)), some (.int (xs 4)), some (.int (xs 5)), some (.int 15), none] [] ((fun _ => false, 0, 0, true, false, ad), (zI_71 xs), (fun _ _ => 0))
  refine mm_tk (c := (8 : Int32) ≤ 15) (d := ¬ (8 : Int32) ≤ 15) (by decide) ?_
  show mm_u _ _ _ _ _ _ [some (.ref 46), some (.int (xs 1)), some (.int (xs 2)), some (.int (xs 3)), some (.int (xs 4)), some (.int (xs 5)), some (.int 15), none] [] ((fun _ => false, 0, 0, true, false, ad), (zI_71 xs), (fun _ _ => 0))
  refine mm_tk (c := (12 : Int32) ≤ 15) (d := ¬ (12 : Int32) ≤ 15) (by decide) ?_
  show mm_u _ _ _ _ _ _ [some (.ref 46), some (.int (xs 1)), some (.int (xs 2)), some (.int (xs 3)), some (.int (xs 4)), some (.int (xs 5)), some (.int 15), none] [] ((fun _ => false, 0, 0, true, false, ad), (zI_71 xs), (fun _ _ => 0))
  refine mm_el (c := (16 : Int32) ≤ 15) (d := ¬ (16 : Int32) ≤ 15) (by decide) ?_
  show mm_b _ _ _ _ _ [some (.ref 46), some (.int (xs 1)), some (.int (xs 2)), some (.int (xs 3)), some (.int (xs 4)), some (.int (xs 5)), some (.int 15), none] [] ((fun _ => false, 0, 0, true, false, ad), (zI_71 xs), (fun _ _ => 0))
  refine mm_ob (P := ¬ (4 : Int32) = 0) (by decide) ?_
  refine mm_ob (P := vp_in 15 900) (mm_inl (by decide)) ?_
  show mm_b _ _ _ _ _ [some (.ref 46), some (.int (xs 1)), some (.int (xs 2)), some (.int (xs 3)), some (.int (xs 4)), some (.int (xs 5)), some (.int 15), some (.int (xs 4))] [] ((fun _ => false, 0, 0, true, false, ad), (zI_72 xs), (fun _ _ => 0))
  refine mm_el (c := (20 : Int32) ≤ 16) (d := ¬ (20 : Int32) ≤ 16) (by decide) ?_
  show mm_b _ _ _ _ _ [some (.ref 46), some (.int (xs 1)), some (.int (xs 2)), some (.int (xs 3)), some (.int (xs 4)), some (.int (xs 5)), some (.int 16), none] [] ((fun _ => false, 0, 0, true, false, ad), (zI_73 xs), (fun _ _ => 0))
  refine mm_tk (c := (4 : Int32) ≤ 16) (d := ¬ (4 : Int32) ≤ 16) (by decide) ?_
  show mm_u _ _ _ _ _ _ [some (.ref 46), some (.int (xs 1)), some (.int (xs 2)), some (.int (xs 3)), some (.int (xs 4)), some (.int (xs 5)), some (.int 16), none] [] ((fun _ => false, 0, 0, true, false, ad), (zI_73 xs), (fun _ _ => 0))
  refine mm_tk (c := (8 : Int32) ≤ 16) (d := ¬ (8 : Int32) ≤ 16) (by decide) ?_
  show mm_u _ _ _ _ _ _ [some (.ref 46), some (.int (xs 1)), some (.int (xs 2)), some (.int (xs 3)), some (.int (xs 4)), some (.int (xs 5)), some (.int 16), none] [] ((fun _ => false, 0, 0, true, false, ad), (zI_73 xs), (fun _ _ => 0))
  refine mm_tk (c := (12 : Int32) ≤ 16) (d := ¬ (12 : Int32) ≤ 16) (by decide) ?_
  show mm_u _ _ _ _ _ _ [some (.ref 46), some (.int (xs 1)), some (.int (xs 2)), some (.int (xs 3)), some (.int (xs 4)), some (.int (xs 5)), some (.int 16), none] [] ((fun _ => false, 0, 0, true, false, ad), (zI_73 xs), (fun _ _ => 0))
  refine mm_tk (c := (16 : Int32) ≤ 16) (d := ¬ (16 : Int32) ≤ 16) (by decide) ?_
  show mm_u _ _ _ _ _ _ [some (.ref 46), some (.int (xs 1)), some (.int (xs 2)), some (.int (xs 3)), some (.int (xs 4)), some (.int (xs 5)), some (.int 16), none] [] ((fun _ => false, 0, 0, true, false, ad), (zI_73 xs), (fun _ _ => 0))
  refine mm_ob (P := ¬ (4 : Int32) = 0) (by decide) ?_
  refine mm_ob (P := vp_in 16 900) (mm_inl (by decide)) ?_
  show mm_b _ _ _ _ _ [some (.ref 46), some (.int (xs 1)), some (.int (xs 2)), some (.int (xs 3)), some (.int (xs 4)), some (.int (xs 5)), some (.int 16), some (.int (xs 5))] [] ((fun _ => false, 0, 0, true, false, ad), (zI_74 xs), (fun _ _ => 0))
  refine mm_el (c := (20 : Int32) ≤ 17) (d := ¬ (20 : Int32) ≤ 17) (by decide) ?_
  show mm_b _ _ _ _ _ [some (.ref 46), some (.int (xs 1)), some (.int (xs 2)), some (.int (xs 3)), some (.int (xs 4)), some (.int (xs 5)), some (.int 17), none] [] ((fun _ => false, 0, 0, true, false, ad), (zI_75 xs), (fun _ _ => 0))
  refine mm_tk (c := (4 : Int32) ≤ 17) (d := ¬ (4 : Int32) ≤ 17) (by decide) ?_
  show mm_u _ _ _ _ _ _ [some (.ref 46), some (.int (xs 1)), some (.int (xs 2)), some (.int (xs 3)), some (.int (xs 4)), some (.int (xs 5)), some (.int 17), none] [] ((fun _ => false, 0, 0, true, false, ad), (zI_75 xs), (fun _ _ => 0))
  refine mm_tk (c := (8 : Int32) ≤ 17) (d := ¬ (8 : Int32) ≤ 17) (by decide) ?_
  show mm_u _ _ _ _ _ _ [some (.ref 46), some (.int (xs 1)), some (.int (xs 2)), some (.int (xs 3)), some (.int (xs 4)), some (.int (xs 5)), some (.int 17), none] [] ((fun _ => false, 0, 0, true, false, ad), (zI_75 xs), (fun _ _ => 0))
  refine mm_tk (c := (12 : Int32) ≤ 17) (d := ¬ (12 : Int32) ≤ 17) (by decide) ?_
  show mm_u _ _ _ _ _ _ [some (.ref 46), some (.int (xs 1)), some (.int (xs 2)), some (.int (xs 3)), some (.int (xs 4)), some (.int (xs 5)), some (.int 17), none] [] ((fun _ => false, 0, 0, true, false, ad), (zI_75 xs), (fun _ _ => 0))
  refine mm_tk (c := (16 : Int32) ≤ 17) (d := ¬ (16 : Int32) ≤ 17) (by decide) ?_
  show mm_u _ _ _ _ _ _ [some (.ref 46), some (.int (xs 1)), some (.int (xs 2)), some (.int (xs 3)), some (.int (xs 4)), some (.int (xs 5)), some (.int 17), none] [] ((fun _ => false, 0, 0, true, false, ad), (zI_75 xs), (fun _ _ => 0))
  refine mm_ob (P := ¬ (4 : Int32) = 0) (by decide) ?_
  refine mm_ob (P := vp_in 17 900) (mm_inl (by decide)) ?_
  show mm_b _ _ _ _ _ [some (.ref 46), some (.int (xs 1)), some (.int (xs 2)), some (.int (xs 3)), some (.int (xs 4)), some (.int (xs 5)), some (.int 17), some (.int (xs 5))] [] ((fun _ => false, 0, 0, true, false, ad), (zI_76 xs), (fun _ _ => 0))
  refine mm_el (c := (20 : Int32) ≤ 18) (d := ¬ (20 : Int32) ≤ 18) (by decide) ?_
  show mm_b _ _ _ _ _ [some (.ref 46), some (.int (xs 1)), some (.int (xs 2)), some (.int (xs 3)), some (.int (xs 4)), some (.int (xs 5)), some (.int 18), none] [] ((fun _ => false, 0, 0, true, false, ad), (zI_77 xs), (fun _ _ => 0))
  refine mm_tk (c := (4 : Int32) ≤ 18) (d := ¬ (4 : Int32) ≤ 18) (by decide) ?_
  show mm_u _ _ _ _ _ _ [some (.ref 46), some (.int (xs 1)), some (.int (xs 2)), some (.int (xs 3)), some (.int (xs 4)), some (.int (xs 5)), some (.int 18), none] [] ((fun _ => false, 0, 0, true, false, ad), (zI_77 xs), (fun _ _ => 0))
  refine mm_tk (c := (8 : Int32) ≤ 18) (d := ¬ (8 : Int32) ≤ 18) (by decide) ?_
  show mm_u _ _ _ _ _ _ [some (.ref 46), some (.int (xs 1)), some (.int (xs 2)), some (.int (xs 3)), some (.int (xs 4)), some (.int (xs 5)), some (.int 18), none] [] ((fun _ => false, 0, 0, true, false, ad), (zI_77 xs), (fun _ _ => 0))
  refine mm_tk (c := (12 : Int32) ≤ 18) (d := ¬ (12 : Int32) ≤ 18) (by decide) ?_
  show mm_u _ _ _ _ _ _ [some (.ref 46), some (.int (xs 1)), some (.int (xs 2)), some (.int (xs 3)), some (.int (xs 4)), some (.int (xs 5)), some (.int 18), none] [] ((fun _ => false, 0, 0, true, false, ad), (zI_77 xs), (fun _ _ => 0))
  refine mm_tk (c := (16 : Int32) ≤ 18) (d := ¬ (16 : Int32) ≤ 18) (by decide) ?_
  show mm_u _ _ _ _ _ _ [some (.ref 46), some (.int (xs 1)), some (.int (xs 2)), some (.int (xs 3)), some (.int (xs 4)), some (.int (xs 5)), some (.int 18), none] [] ((fun _ => false, 0, 0, true, false, ad), (zI_77 xs), (fun _ _ => 0))
  refine mm_ob (P := ¬ (4 : Int32) = 0) (by decide) ?_
  refine mm_ob (P := vp_in 18 900) (mm_inl (by decide)) ?_
  show mm_b _ _ _ _ _ [some (.ref 46), some (.int (xs 1)), some (.int (xs 2)), some (.int (xs 3)), some (.int (xs 4)), some (.int (xs 5)), some (.int 18), some (.int (xs 5))] [] ((fun _ => false, 0, 0, true, false, ad), (zI_78 xs), (fun _ _ => 0))
  refine mm_el (c := (20 : Int32) ≤ 19) (d := ¬ (20 : Int32) ≤ 19) (by decide) ?_
  show mm_b _ _ _ _ _ [some (.ref 46), some (.int (xs 1)), some (.int (xs 2)), some (.int (xs 3)), some (.int (xs 4)), some (.int (xs 5)), some (.int 19), none] [] ((fun _ => false, 0, 0, true, false, ad), (zI_79 xs), (fun _ _ => 0))
  refine mm_tk (c := (4 : Int32) ≤ 19) (d := ¬ (4 : Int32) ≤ 19) (by decide) ?_
  show mm_u _ _ _ _ _ _ [some (.ref 46), some (.int (xs 1)), some (.int (xs 2)), some (.int (xs 3)), some (.int (xs 4)), some (.int (xs 5)), some (.int 19), none] [] ((fun _ => false, 0, 0, true, false, ad), (zI_79 xs), (fun _ _ => 0))
  refine mm_tk (c := (8 : Int32) ≤ 19) (d := ¬ (8 : Int32) ≤ 19) (by decide) ?_
  show mm_u _ _ _ _ _ _ [some (.ref 46), some (.int (xs 1)), some (.int (xs 2)), some (.int (xs 3)), some (.int (xs 4)), some (.int (xs 5)), some (.int 19), none] [] ((fun _ => false, 0, 0, true, false, ad), (zI_79 xs), (fun _ _ => 0))
  refine mm_tk (c := (12 : Int32) ≤ 19) (d := ¬ (12 : Int32) ≤ 19) (by decide) ?_
  show mm_u _ _ _ _ _ _ [some (.ref 46), some (.int (xs 1)), some (.int (xs 2)), some (.int (xs 3)), some (.int (xs 4)), some (.int (xs 5)), some (.int 19), none] [] ((fun _ => false, 0, 0, true, false, ad), (zI_79 xs), (fun _ _ => 0))
  refine mm_tk (c := (16 : Int32) ≤ 19) (d := ¬ (16 : Int32) ≤ 19) (by decide) ?_
  show mm_u _ _ _ _ _ _ [some (.ref 46), some (.int (xs 1)), some (.int (xs 2)), some (.int (xs 3)), some (.int (xs 4)), some (.int (xs 5)), some (.int 19), none] [] ((fun _ => false, 0, 0, true, false, ad), (zI_79 xs), (fun _ _ => 0))
  refine mm_ob (P := ¬ (4 : Int32) = 0) (by decide) ?_
  refine mm_ob (P := vp_in 19 900) (mm_inl (by decide)) ?_
  show mm_b _ _ _ _ _ [some (.ref 46), some (.int (xs 1)), some (.int (xs 2)), some (.int (xs 3)), some (.int (xs 4)), some (.int (xs 5)), some (.int 19), some (.int (xs 5))] [] ((fun _ => false, 0, 0, true, false, ad), (zI_80 xs), (fun _ _ => 0))
  refine mm_tk (c := (20 : Int32) ≤ 20) (d := ¬ (20 : Int32) ≤ 20) (by decide) ?_
  show mm_u _ _ _ _ _ _ [some (.ref 46), some (.int (xs 1)), some (.int (xs 2)), some (.int (xs 3)), some (.int (xs 4)), some (.int (xs 5)), some (.int 20), none] [] ((fun _ => false, 0, 0, true, false, ad), (zI_81 xs), (fun _ _ => 0))
  refine mm_q1 (r := 20) ?_
  show mm_b _ _ _ _ _ [some (.ref 68), some (.ref 0), some (.ref 46), some (.ref 65), some (.int 0), none, none] [.int 20, .int 20] ((fun _ => false, 599936, 6869426, true, false, ad), (zI_81 xs), (fun _ _ => 0))
  refine mm_tk (c := (20 : Int32) = 20) (d := ¬ (20 : Int32) = 20) (by decide) ?_
  show mm_u _ _ _ _ _ _ [some (.ref 68), some (.ref 0), some (.ref 46), some (.ref 65), some (.int 0), none, none] [] ((fun _ => false, 599936, 6869426, true, false, ad), (zI_81 xs), (fun _ _ => 0))
  refine mm_tk (c := (((nI 6) - 6) : Int32) < 6) (d := ¬ (((nI 6) - 6) : Int32) < 6) (by decide) ?_
  show mm_u _ _ _ _ _ _ [some (.ref 68), some (.ref 0), some (.ref 46), some (.ref 65), some (.int 6), none, none] [] ((fun _ => false, 599936, 6869426, true, false, ad), (zI_81 xs), (fun _ _ => 0))
  refine mm_ob (P := (1 : Int32) = 0 ∨ (1 : Int32) = 1) (by decide) ?_
  exact rfl
