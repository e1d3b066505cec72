/-! one call on a fresh object: the law at scripts of at most 6 ints -/
/- needs: 0 1 20 21 22 23 24 25 26 27 28 29 30 32 40 41 42 43 50 51 -/
theorem op_end (ad : Nat → Nat) (xs : Nat → Int32) : mm_w (fun v _ => v = some (.int 1)) (mm_wc 210) bk_law 1331 [some (.ref 68), some (.ref 0), some (.ref 46), some (.ref 65), some (.int 0), none, none] [] (mm_s0 ad 6 xs) := by
  refine mm_go [] 600 ?_
  refine mm_tk (c := (((nI 6) - 6) : Int32) < 6) (d := ¬ (((nI 6) - 6) : Int32) < 6) (by decide) ?_
  show mm_u _ _ _ _ _ _ [some (.ref 68), some (.ref 0), some (.ref 46), some (.ref 65), some (.int 6), none, none] [] ((fun _ => false, 599936, 6869426, true, false, ad), (mm_I0 6 xs), (fun _ _ => 0))
  refine mm_ob (P := (1 : Int32) = 0 ∨ (1 : Int32) = 1) (by decide) ?_
  exact rfl
theorem mm_swa {x : Int32} {lo hi : Int} {offs : Array Int} {A : Prop} {B : Int → Prop} (hA : A) (hB : ∀ off, ¬ x.toInt < lo → ¬ hi < x.toInt → offs[(x.toInt - lo).toNat]? = some off → B off) : (x.toInt < lo ∨ hi < x.toInt → A) ∧ ∀ off, ¬ x.toInt < lo → ¬ hi < x.toInt → offs[(x.toInt - lo).toNat]? = some off → B off := ⟨fun _ => hA, hB⟩
theorem op_1 (ad : Nat → Nat) (xs : Nat → Int32) : mm_w (fun v _ => v = some (.int 1)) (mm_wc 210) bk_law 297 [some (.ref 68), some (.ref 0), some (.ref 46), some (.ref 65), some (.int 0), none, none] [] (mm_s0 ad 6 xs) := by
  by_cases h : xs 1 = 0
  · have q := op_1b ad xs
    rw [mm_xat_eq h] at q
    exact q
  · exact op_1a ad xs h
theorem op_40 (ad : Nat → Nat) (xs : Nat → Int32) : mm_w (fun v _ => v = some (.int 1)) (mm_wc 210) bk_law 1293 [some (.ref 68), some (.ref 0), some (.ref 46), some (.ref 65), some (.int 0), none, none] [] (mm_s0 ad 6 xs) := by
  by_cases h : xs 1 < 0
  · exact op_40a ad xs h
  by_cases h2 : 10 < xs 1
  · exact op_40b ad xs h2
  have key : ∀ v : Int32, xs 1 = v → mm_w (fun v _ => v = some (.int 1)) (mm_wc 210) bk_law 1293 [some (.ref 68), some (.ref 0), some (.ref 46), some (.ref 65), some (.int 0), none, none] [] (mm_s0 ad 6 (mm_xat xs 1 v)) → mm_w (fun v _ => v = some (.int 1)) (mm_wc 210) bk_law 1293 [some (.ref 68), some (.ref 0), some (.ref 46), some (.ref 65), some (.int 0), none, none] [] (mm_s0 ad 6 xs) := fun v hv q => by rw [mm_xat_eq hv] at q; exact q
  simp only [Int32.lt_iff_toInt_lt, li_0, li_3] at h h2
  have hc : (xs 1).toInt = 0 ∨ (xs 1).toInt = 1 ∨ (xs 1).toInt = 2 ∨ (xs 1).toInt = 3 ∨ (xs 1).toInt = 4 ∨ (xs 1).toInt = 5 ∨ (xs 1).toInt = 6 ∨ (xs 1).toInt = 7 ∨ (xs 1).toInt = 8 ∨ (xs 1).toInt = 9 ∨ (xs 1).toInt = 10 := by omega
  rcases hc with hc | hc | hc | hc | hc | hc | hc | hc | hc | hc | hc
  · exact key 0 (Int32.toInt_inj.mp hc) (op_40_0 ad xs)
  · exact key 1 (Int32.toInt_inj.mp hc) (op_40_1 ad xs)
  · exact key 2 (Int32.toInt_inj.mp hc) (op_40_2 ad xs)
  · exact key 3 (Int32.toInt_inj.mp hc) (op_40_3 ad xs)
  · exact key 4 (Int32.toInt_inj.mp hc) (op_40_4 ad xs)
  · exact key 5 (Int32.toInt_inj.mp hc) (op_40_5 ad xs)
  · exact key 6 (Int32.toInt_inj.mp hc) (op_40_6 ad xs)
  · exact key 7 (Int32.toInt_inj.mp hc) (op_40_7 ad xs)
  · exact key 8 (Int32.toInt_inj.mp hc) (op_40_8 ad xs)
  · exact key 9 (Int32.toInt_inj.mp hc) (op_40_9 ad xs)
  · exact key 10 (Int32.toInt_inj.mp hc) (op_40_10 ad xs)
set_option maxRecDepth 20000 in
set_option maxHeartbeats 4000000 in
theorem mm_p6 (ad : Nat → Nat) (xs : Nat → Int32) : mm_w (fun v _ => v = some (.int 1)) (mm_wc 210) bk_law 23 [some (.ref 68), some (.ref 0), some (.ref 46), some (.ref 65), some (.int 0), none, none] [] (mm_s0 ad 6 xs) := by
  refine mm_go [224, 297, 322, 335, 348, 385, 410, 459, 496, 509, 522, 575, 588, 601, 626, 639, 664, 689, 702, 715, 728, 753, 778, 803, 816, 853, 866, 879, 892, 917, 942, 996, 1021, 1075, 1100, 1137, 1162, 1199, 1212, 1237, 1293, 1318, 1331] 2 ?_
  refine mm_el (c := (nI 6 - 6 : Int32) < 0) (d := ¬ (nI 6 - 6 : Int32) < 0) (by decide) ?_
  refine mm_ob (P := vp_in 0 (nI 6).toNatClampNeg) (mm_inl (by decide)) ?_
  refine mm_swa (x := xs 0 &&& 63) (lo := 0) (hi := 41) (op_end ad xs) (fun off h1 h2 h3 => ?_)
  generalize (xs 0 &&& 63).toInt = n at h1 h2 h3
  have hc : n = 0 ∨ n = 1 ∨ n = 2 ∨ n = 3 ∨ n = 4 ∨ n = 5 ∨ n = 6 ∨ n = 7 ∨ n = 8 ∨ n = 9 ∨ n = 10 ∨ n = 11 ∨ n = 12 ∨ n = 13 ∨ n = 14 ∨ n = 15 ∨ n = 16 ∨ n = 17 ∨ n = 18 ∨ n = 19 ∨ n = 20 ∨ n = 21 ∨ n = 22 ∨ n = 23 ∨ n = 24 ∨ n = 25 ∨ n = 26 ∨ n = 27 ∨ n = 28 ∨ n = 29 ∨ n = 30 ∨ n = 31 ∨ n = 32 ∨ n = 33 ∨ n = 34 ∨ n = 35 ∨ n = 36 ∨ n = 37 ∨ n = 38 ∨ n = 39 ∨ n = 40 ∨ n = 41 := by omega
  rcases hc with rfl | rfl | rfl | rfl | rfl | rfl | rfl | rfl | rfl | rfl | rfl | rfl | rfl | rfl | rfl | rfl | rfl | rfl | rfl | rfl | rfl | rfl | rfl | rfl | rfl | rfl | rfl | rfl | rfl | rfl | rfl | rfl | rfl | rfl | rfl | rfl | rfl | rfl | rfl | rfl | rfl | rfl
  · cases (show (some 184 : Option Int) = some off from h3); exact op_0 ad xs
  · cases (show (some 257 : Option Int) = some off from h3); exact op_1 ad xs
  · cases (show (some 282 : Option Int) = some off from h3); exact op_2 ad xs
  · cases (show (some 295 : Option Int) = some off from h3); exact op_3 ad xs
  · cases (show (some 308 : Option Int) = some off from h3); exact op_4 ad xs
  · cases (show (some 345 : Option Int) = some off from h3); exact op_5 ad xs
  · cases (show (some 370 : Option Int) = some off from h3); exact op_6 ad xs
  · cases (show (some 419 : Option Int) = some off from h3); exact op_7 ad xs
  · cases (show (some 456 : Option Int) = some off from h3); exact op_8 ad xs
  · cases (show (some 469 : Option Int) = some off from h3); exact op_9 ad xs
  · cases (show (some 482 : Option Int) = some off from h3); exact op_10 ad xs
  · cases (show (some 535 : Option Int) = some off from h3); exact op_11 ad xs
  · cases (show (some 548 : Option Int) = some off from h3); exact op_12 ad xs
  · cases (show (some 561 : Option Int) = some off from h3); exact op_13 ad xs
  · cases (show (some 586 : Option Int) = some off from h3); exact op_14 ad xs
  · cases (show (some 599 : Option Int) = some off from h3); exact op_15 ad xs
  · cases (show (some 624 : Option Int) = some off from h3); exact op_16 ad xs
  · cases (show (some 649 : Option Int) = some off from h3); exact op_17 ad xs
  · cases (show (some 662 : Option Int) = some off from h3); exact op_18 ad xs
  · cases (show (some 675 : Option Int) = some off from h3); exact op_19 ad xs
  · cases (show (some 688 : Option Int) = some off from h3); exact op_20 ad xs
  · cases (show (some 713 : Option Int) = some off from h3); exact op_21 ad xs
  · cases (show (some 738 : Option Int) = some off from h3); exact op_22 ad xs
  · cases (show (some 763 : Option Int) = some off from h3); exact op_23 ad xs
  · cases (show (some 776 : Option Int) = some off from h3); exact op_24 ad xs
  · cases (show (some 813 : Option Int) = some off from h3); exact op_25 ad xs
  · cases (show (some 826 : Option Int) = some off from h3); exact op_26 ad xs
  · cases (show (some 839 : Option Int) = some off from h3); exact op_27 ad xs
  · cases (show (some 852 : Option Int) = some off from h3); exact op_28 ad xs
  · cases (show (some 877 : Option Int) = some off from h3); exact op_29 ad xs
  · cases (show (some 902 : Option Int) = some off from h3); exact op_30 ad xs
  · cases (show (some 956 : Option Int) = some off from h3); exact op_31 ad xs
  · cases (show (some 981 : Option Int) = some off from h3); exact op_32 ad xs
  · cases (show (some 1035 : Option Int) = some off from h3); exact op_33 ad xs
  · cases (show (some 1060 : Option Int) = some off from h3); exact op_34 ad xs
  · cases (show (some 1097 : Option Int) = some off from h3); exact op_35 ad xs
  · cases (show (some 1122 : Option Int) = some off from h3); exact op_36 ad xs
  · cases (show (some 1159 : Option Int) = some off from h3); exact op_37 ad xs
  · cases (show (some 1172 : Option Int) = some off from h3); exact op_38 ad xs
  · cases (show (some 1197 : Option Int) = some off from h3); exact op_39 ad xs
  · cases (show (some 1253 : Option Int) = some off from h3); exact op_40 ad xs
  · cases (show (some 1278 : Option Int) = some off from h3); exact op_41 ad xs
set_option maxRecDepth 20000 in
theorem mm_pure6 (L : Nat) (xs : Nat → Int32) (hL : L ≤ 6) : mm_pure L xs := by
  intro ad
  have hc : L = 0 ∨ L = 1 ∨ L = 2 ∨ L = 3 ∨ L = 4 ∨ L = 5 ∨ L = 6 := by omega
  rcases hc with rfl | rfl | rfl | rfl | rfl | rfl | rfl
  · refine mm_go [] 9 ?_
    refine mm_tk (c := (nI 0 - 6 : Int32) < 0) (d := ¬ (nI 0 - 6 : Int32) < 0) (by decide) ?_
    refine mm_ob (P := (1 : Int32) = 0 ∨ (1 : Int32) = 1) (by decide) ?_
    exact rfl
  · refine mm_go [] 9 ?_
    refine mm_tk (c := (nI 1 - 6 : Int32) < 0) (d := ¬ (nI 1 - 6 : Int32) < 0) (by decide) ?_
    refine mm_ob (P := (1 : Int32) = 0 ∨ (1 : Int32) = 1) (by decide) ?_
    exact rfl
  · refine mm_go [] 9 ?_
    refine mm_tk (c := (nI 2 - 6 : Int32) < 0) (d := ¬ (nI 2 - 6 : Int32) < 0) (by decide) ?_
    refine mm_ob (P := (1 : Int32) = 0 ∨ (1 : Int32) = 1) (by decide) ?_
    exact rfl
  · refine mm_go [] 9 ?_
    refine mm_tk (c := (nI 3 - 6 : Int32) < 0) (d := ¬ (nI 3 - 6 : Int32) < 0) (by decide) ?_
    refine mm_ob (P := (1 : Int32) = 0 ∨ (1 : Int32) = 1) (by decide) ?_
    exact rfl
  · refine mm_go [] 9 ?_
    refine mm_tk (c := (nI 4 - 6 : Int32) < 0) (d := ¬ (nI 4 - 6 : Int32) < 0) (by decide) ?_
    refine mm_ob (P := (1 : Int32) = 0 ∨ (1 : Int32) = 1) (by decide) ?_
    exact rfl
  · refine mm_go [] 9 ?_
    refine mm_tk (c := (nI 5 - 6 : Int32) < 0) (d := ¬ (nI 5 - 6 : Int32) < 0) (by decide) ?_
    refine mm_ob (P := (1 : Int32) = 0 ∨ (1 : Int32) = 1) (by decide) ?_
    exact rfl
  · exact mm_p6 ad xs
