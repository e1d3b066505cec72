/-! what the tables say of each method of the program -/
theorem mm_t1 {w : Cond} (h : w ∈ tables_1_1) : w ∈ mm_ws ∨ goodWord w = false := by
  have h2 : w ∈ lw_tbl := List.mem_append.mpr (Or.inr (List.mem_append.mpr (Or.inl h)))
  cases hg : goodWord w with
  | false => exact Or.inr rfl
  | true => exact Or.inl (List.mem_filter.mpr ⟨h2, hg⟩)
theorem mm_t2 {w : Cond} (h : w ∈ tables_1_2) : w ∈ mm_ws ∨ goodWord w = false := by
  have h2 : w ∈ lw_tbl := List.mem_append.mpr (Or.inr (List.mem_append.mpr (Or.inr (List.mem_append.mpr (Or.inl h)))))
  cases hg : goodWord w with
  | false => exact Or.inr rfl
  | true => exact Or.inl (List.mem_filter.mpr ⟨h2, hg⟩)
theorem mm_t3 {w : Cond} (h : w ∈ tables_1_3) : w ∈ mm_ws ∨ goodWord w = false := by
  have h2 : w ∈ lw_tbl := List.mem_append.mpr (Or.inr (List.mem_append.mpr (Or.inr (List.mem_append.mpr (Or.inr (List.mem_append.mpr (Or.inl h)))))))
  cases hg : goodWord w with
  | false => exact Or.inr rfl
  | true => exact Or.inl (List.mem_filter.mpr ⟨h2, hg⟩)
theorem mm_t4 {w : Cond} (h : w ∈ tables_1_4) : w ∈ mm_ws ∨ goodWord w = false := by
  have h2 : w ∈ lw_tbl := List.mem_append.mpr (Or.inr (List.mem_append.mpr (Or.inr (List.mem_append.mpr (Or.inr (List.mem_append.mpr (Or.inr (List.mem_append.mpr (Or.inl h)))))))))
  cases hg : goodWord w with
  | false => exact Or.inr rfl
  | true => exact Or.inl (List.mem_filter.mpr ⟨h2, hg⟩)
theorem mm_t5 {w : Cond} (h : w ∈ tables_1_5) : w ∈ mm_ws ∨ goodWord w = false := by
  have h2 : w ∈ lw_tbl := List.mem_append.mpr (Or.inr (List.mem_append.mpr (Or.inr (List.mem_append.mpr (Or.inr (List.mem_append.mpr (Or.inr (List.mem_append.mpr (Or.inr (List.mem_append.mpr (Or.inl h)))))))))))
  cases hg : goodWord w with
  | false => exact Or.inr rfl
  | true => exact Or.inl (List.mem_filter.mpr ⟨h2, hg⟩)
theorem mm_t6 {w : Cond} (h : w ∈ tables_1_6) : w ∈ mm_ws ∨ goodWord w = false := by
  have h2 : w ∈ lw_tbl := List.mem_append.mpr (Or.inr (List.mem_append.mpr (Or.inr (List.mem_append.mpr (Or.inr (List.mem_append.mpr (Or.inr (List.mem_append.mpr (Or.inr (List.mem_append.mpr (Or.inr (List.mem_append.mpr (Or.inl h)))))))))))))
  cases hg : goodWord w with
  | false => exact Or.inr rfl
  | true => exact Or.inl (List.mem_filter.mpr ⟨h2, hg⟩)
theorem mm_t7 {w : Cond} (h : w ∈ tables_1_7) : w ∈ mm_ws ∨ goodWord w = false := by
  have h2 : w ∈ lw_tbl := List.mem_append.mpr (Or.inr (List.mem_append.mpr (Or.inr (List.mem_append.mpr (Or.inr (List.mem_append.mpr (Or.inr (List.mem_append.mpr (Or.inr (List.mem_append.mpr (Or.inr (List.mem_append.mpr (Or.inr (List.mem_append.mpr (Or.inl h)))))))))))))))
  cases hg : goodWord w with
  | false => exact Or.inr rfl
  | true => exact Or.inl (List.mem_filter.mpr ⟨h2, hg⟩)
theorem mm_t8 {w : Cond} (h : w ∈ tables_1_8) : w ∈ mm_ws ∨ goodWord w = false := by
  have h2 : w ∈ lw_tbl := List.mem_append.mpr (Or.inr (List.mem_append.mpr (Or.inr (List.mem_append.mpr (Or.inr (List.mem_append.mpr (Or.inr (List.mem_append.mpr (Or.inr (List.mem_append.mpr (Or.inr (List.mem_append.mpr (Or.inr (List.mem_append.mpr (Or.inr (List.mem_append.mpr (Or.inl h)))))))))))))))))
  cases hg : goodWord w with
  | false => exact Or.inr rfl
  | true => exact Or.inl (List.mem_filter.mpr ⟨h2, hg⟩)
theorem mm_t9 {w : Cond} (h : w ∈ tables_1_9) : w ∈ mm_ws ∨ goodWord w = false := by
  have h2 : w ∈ lw_tbl := List.mem_append.mpr (Or.inr (List.mem_append.mpr (Or.inr (List.mem_append.mpr (Or.inr (List.mem_append.mpr (Or.inr (List.mem_append.mpr (Or.inr (List.mem_append.mpr (Or.inr (List.mem_append.mpr (Or.inr (List.mem_append.mpr (Or.inr (List.mem_append.mpr (Or.inr (h))))))))))))))))))
  cases hg : goodWord w with
  | false => exact Or.inr rfl
  | true => exact Or.inl (List.mem_filter.mpr ⟨h2, hg⟩)
theorem mm_tw {w : Cond} (h : w ∈ mm_ws ∨ goodWord w = false) (hg : goodWord w = true) : w ∈ mm_ws := by
  rcases h with h | h
  · exact h
  · rw [h] at hg; cases hg
theorem cw_0 : Cond.code yX0_lay cX0_lay 2 none ∈ mm_ws := mm_tw (mm_t3 (List.mem_of_getElem? (i := 53) rfl)) rfl
theorem cw_1 : Cond.code yX0_findFans cX0_findFans 4 none ∈ mm_ws := mm_tw (mm_t3 (List.mem_of_getElem? (i := 57) rfl)) rfl
theorem cw_2 : Cond.code yX0_isIn cX0_isIn 13 (some .boolean) ∈ mm_ws := mm_tw (mm_t3 (List.mem_of_getElem? (i := 61) rfl)) rfl
theorem cw_3 : Cond.code yX0_findUnlikeFans cX0_findUnlikeFans 3 none ∈ mm_ws := mm_tw (mm_t3 (List.mem_of_getElem? (i := 84) rfl)) rfl
theorem cw_4 : Cond.code yX0_findTricks cX0_findTricks 4 none ∈ mm_ws := mm_tw (mm_t3 (List.mem_of_getElem? (i := 91) rfl)) rfl
theorem cw_5 : Cond.code yX0_findLit cX0_findLit 4 none ∈ mm_ws := mm_tw (mm_t3 (List.mem_of_getElem? (i := 95) rfl)) rfl
theorem cw_6 : Cond.code yX0_litBy cX0_litBy 4 (some .int) ∈ mm_ws := mm_tw (mm_t3 (List.mem_of_getElem? (i := 99) rfl)) rfl
theorem cw_7 : Cond.code yX0_isNear cX0_isNear 6 (some .boolean) ∈ mm_ws := mm_tw (mm_t3 (List.mem_of_getElem? (i := 103) rfl)) rfl
theorem cw_8 : Cond.code yX0_lightersOf cX0_lightersOf 4 (some .int) ∈ mm_ws := mm_tw (mm_t3 (List.mem_of_getElem? (i := 194) rfl)) rfl
theorem cw_9 : Cond.code yX0_breathBy cX0_breathBy 4 (some .int) ∈ mm_ws := mm_tw (mm_t3 (List.mem_of_getElem? (i := 163) rfl)) rfl
theorem cw_10 : Cond.code yX0_wayOf cX0_wayOf 2 (some .int) ∈ mm_ws := mm_tw (mm_t3 (List.mem_of_getElem? (i := 69) rfl)) rfl
theorem cw_11 : Cond.code yX0_placeOf cX0_placeOf 2 (some .int) ∈ mm_ws := mm_tw (mm_t3 (List.mem_of_getElem? (i := 65) rfl)) rfl
theorem cw_12 : Cond.code yX0_personOf cX0_personOf 2 (some .int) ∈ mm_ws := mm_tw (mm_t3 (List.mem_of_getElem? (i := 73) rfl)) rfl
theorem cw_13 : Cond.code yX0_unlikeFansWithCandles cX0_unlikeFansWithCandles 1 (some .int) ∈ mm_ws := mm_tw (mm_t3 (List.mem_of_getElem? (i := 178) rfl)) rfl
theorem cw_14 : Cond.code yX0_outOfAllFans cX0_outOfAllFans 3 (some .int) ∈ mm_ws := mm_tw (mm_t3 (List.mem_of_getElem? (i := 186) rfl)) rfl
theorem cw_15 : Cond.code yX0_allCandles cX0_allCandles 1 (some .int) ∈ mm_ws := mm_tw (mm_t3 (List.mem_of_getElem? (i := 111) rfl)) rfl
theorem cw_16 : Cond.code yX0_allBurning cX0_allBurning 1 (some .int) ∈ mm_ws := mm_tw (mm_t3 (List.mem_of_getElem? (i := 107) rfl)) rfl
theorem cw_17 : Cond.code yX0_burningIn cX0_burningIn 2 (some .int) ∈ mm_ws := mm_tw (mm_t3 (List.mem_of_getElem? (i := 202) rfl)) rfl
theorem cw_18 : Cond.code yX0_countIn cX0_countIn 2 (some .int) ∈ mm_ws := mm_tw (mm_t3 (List.mem_of_getElem? (i := 222) rfl)) rfl
theorem cw_19 : Cond.code yX0_dazedIn cX0_dazedIn 2 (some .int) ∈ mm_ws := mm_tw (mm_t3 (List.mem_of_getElem? (i := 210) rfl)) rfl
theorem cw_20 : Cond.code yX0_burns cX0_burns 3 (some .boolean) ∈ mm_ws := mm_tw (mm_t4 (List.mem_of_getElem? (i := 26) rfl)) rfl
theorem cw_21 : Cond.code yX0_withLit cX0_withLit 3 (some .int) ∈ mm_ws := mm_tw (mm_t4 (List.mem_of_getElem? (i := 31) rfl)) rfl
theorem cw_22 : Cond.code yX0_without cX0_without 3 (some .int) ∈ mm_ws := mm_tw (mm_t6 (List.mem_of_getElem? (i := 31) rfl)) rfl
theorem cw_23 : Cond.code yX0_moment cX0_moment 5 (some .int) ∈ mm_ws := mm_tw (mm_t3 (List.mem_of_getElem? (i := 115) rfl)) rfl
theorem cw_24 : Cond.code yX0_behind cX0_behind 7 (some .int) ∈ mm_ws := mm_tw (mm_t3 (List.mem_of_getElem? (i := 232) rfl)) rfl
theorem cw_25 : Cond.code yX0_gainOf cX0_gainOf 3 (some .int) ∈ mm_ws := mm_tw (mm_t3 (List.mem_of_getElem? (i := 218) rfl)) rfl
theorem cw_26 : Cond.code yX0_greediest cX0_greediest 6 (some .int) ∈ mm_ws := mm_tw (mm_t4 (List.mem_of_getElem? (i := 0) rfl)) rfl
theorem cw_27 : Cond.code yX0_behindGreed cX0_behindGreed 5 (some .int) ∈ mm_ws := mm_tw (mm_t5 (List.mem_of_getElem? (i := 27) rfl)) rfl
theorem cw_28 : Cond.code yX0_seatGuest cX0_seatGuest 3 none ∈ mm_ws := mm_tw (mm_t6 (List.mem_of_getElem? (i := 11) rfl)) rfl
theorem cw_29 : Cond.code yX0_fanWithGuest cX0_fanWithGuest 3 (some .int) ∈ mm_ws := mm_tw (mm_t6 (List.mem_of_getElem? (i := 19) rfl)) rfl
theorem cw_30 : Cond.code yX0_wayBetween cX0_wayBetween 3 (some .int) ∈ mm_ws := mm_tw (mm_t4 (List.mem_of_getElem? (i := 229) rfl)) rfl
theorem cw_31 : Cond.code yX1_clear cX1_clear 1 none ∈ mm_ws := mm_tw (mm_t2 (List.mem_of_getElem? (i := 113) rfl)) rfl
theorem cw_32 : Cond.code yX1_lacks cX1_lacks 1 (some .boolean) ∈ mm_ws := mm_tw (mm_t3 (List.mem_of_getElem? (i := 45) rfl)) rfl
theorem cw_33 : Cond.code yX1_trickCount cX1_trickCount 3 (some .int) ∈ mm_ws := mm_tw (mm_t3 (List.mem_of_getElem? (i := 23) rfl)) rfl
theorem cw_34 : Cond.code yX2_start cX2_start 1 none ∈ mm_ws := mm_tw (mm_t4 (List.mem_of_getElem? (i := 153) rfl)) rfl
theorem cw_35 : Cond.code yX2_add cX2_add 3 none ∈ mm_ws := mm_tw (mm_t4 (List.mem_of_getElem? (i := 159) rfl)) rfl
theorem cw_36 : Cond.code yX2_list cX2_list 6 none ∈ mm_ws := mm_tw (mm_t4 (List.mem_of_getElem? (i := 149) rfl)) rfl
theorem cw_37 : Cond.code yX2_listWithGuest cX2_listWithGuest 3 none ∈ mm_ws := mm_tw (mm_t6 (List.mem_of_getElem? (i := 15) rfl)) rfl
theorem cw_38 : Cond.code yX3_outOf cX3_outOf 2 (some .int) ∈ mm_ws := mm_tw (mm_t5 (List.mem_of_getElem? (i := 153) rfl)) rfl
theorem cw_39 : Cond.code yX3_likeliness cX3_likeliness 3 (some .int) ∈ mm_ws := mm_tw (mm_t5 (List.mem_of_getElem? (i := 115) rfl)) rfl
theorem cw_40 : Cond.code yX3_meanLeft cX3_meanLeft 3 (some .int) ∈ mm_ws := mm_tw (mm_t5 (List.mem_of_getElem? (i := 177) rfl)) rfl
theorem cw_41 : Cond.code yX3_likeliestBreath cX3_likeliestBreath 5 (some .int) ∈ mm_ws := mm_tw (mm_t5 (List.mem_of_getElem? (i := 168) rfl)) rfl
theorem cw_42 : Cond.code yX3_prepare cX3_prepare 2 none ∈ mm_ws := mm_tw (mm_t5 (List.mem_of_getElem? (i := 119) rfl)) rfl
theorem cw_43 : Cond.code yX3_findChoices cX3_findChoices 4 none ∈ mm_ws := mm_tw (mm_t5 (List.mem_of_getElem? (i := 124) rfl)) rfl
theorem cw_44 : Cond.code yX3_isNewChoice cX3_isNewChoice 2 (some .boolean) ∈ mm_ws := mm_tw (mm_t5 (List.mem_of_getElem? (i := 129) rfl)) rfl
theorem cw_45 : Cond.code yX3_total cX3_total 4 (some .int) ∈ mm_ws := mm_tw (mm_t5 (List.mem_of_getElem? (i := 146) rfl)) rfl
theorem cw_46 : Cond.code yX3_likelinessOf cX3_likelinessOf 5 (some .int) ∈ mm_ws := mm_tw (mm_t5 (List.mem_of_getElem? (i := 133) rfl)) rfl
theorem cw_47 : Cond.code yX3_weighChances cX3_weighChances 4 none ∈ mm_ws := mm_tw (mm_t5 (List.mem_of_getElem? (i := 141) rfl)) rfl
theorem cw_48 : Cond.code yX3_meanOf cX3_meanOf 6 (some .int) ∈ mm_ws := mm_tw (mm_t5 (List.mem_of_getElem? (i := 181) rfl)) rfl
theorem cw_49 : Cond.code yX4_begin cX4_begin 2 none ∈ mm_ws := mm_tw (mm_t3 (List.mem_of_getElem? (i := 119) rfl)) rfl
theorem cw_50 : Cond.code yX4_act cX4_act 2 none ∈ mm_ws := mm_tw (mm_t4 (List.mem_of_getElem? (i := 10) rfl)) rfl
theorem cw_51 : Cond.code yX4_takeBack cX4_takeBack 1 (some .boolean) ∈ mm_ws := mm_tw (mm_t4 (List.mem_of_getElem? (i := 48) rfl)) rfl
theorem cw_52 : Cond.code yX4_keepImage cX4_keepImage 1 (some .int) ∈ mm_ws := mm_tw (mm_t6 (List.mem_of_getElem? (i := 43) rfl)) rfl
theorem cw_53 : Cond.code yX4_returnTo cX4_returnTo 2 (some .boolean) ∈ mm_ws := mm_tw (mm_t6 (List.mem_of_getElem? (i := 51) rfl)) rfl
theorem cw_54 : Cond.code yX5_isFull cX5_isFull 1 (some .boolean) ∈ mm_ws := mm_tw (mm_t2 (List.mem_of_getElem? (i := 219) rfl)) rfl
theorem cw_55 : Cond.code yX5_add cX5_add 3 none ∈ mm_ws := mm_tw (mm_t3 (List.mem_of_getElem? (i := 6) rfl)) rfl
theorem cw_56 : Cond.code yX6_hasRoom cX6_hasRoom 1 (some .boolean) ∈ mm_ws := mm_tw (mm_t2 (List.mem_of_getElem? (i := 93) rfl)) rfl
theorem cw_57 : Cond.code yX6_append cX6_append 3 none ∈ mm_ws := mm_tw (mm_t2 (List.mem_of_getElem? (i := 97) rfl)) rfl
theorem cw_58 : Cond.code yX6_read cX6_read 4 (some .int) ∈ mm_ws := mm_tw (mm_t2 (List.mem_of_getElem? (i := 109) rfl)) rfl
theorem cw_59 : Cond.code yX6_place cX6_place 1 (some .int) ∈ mm_ws := mm_tw (mm_t3 (List.mem_of_getElem? (i := 49) rfl)) rfl
theorem cw_60 : Cond.code yX6_fails cX6_fails 2 (some .boolean) ∈ mm_ws := mm_tw (mm_t2 (List.mem_of_getElem? (i := 200) rfl)) rfl
theorem cw_61 : Cond.code yX6_takeLine cX6_takeLine 1 (some .boolean) ∈ mm_ws := mm_tw (mm_t2 (List.mem_of_getElem? (i := 139) rfl)) rfl
theorem cw_62 : Cond.code yX6_takeCake cX6_takeCake 1 (some .boolean) ∈ mm_ws := mm_tw (mm_t2 (List.mem_of_getElem? (i := 196) rfl)) rfl
theorem cw_63 : Cond.code yX6_takePoint cX6_takePoint 4 (some .boolean) ∈ mm_ws := mm_tw (mm_t2 (List.mem_of_getElem? (i := 215) rfl)) rfl
theorem cw_64 : Cond.code yX6_takeKind cX6_takeKind 3 (some .boolean) ∈ mm_ws := mm_tw (mm_t3 (List.mem_of_getElem? (i := 11) rfl)) rfl
theorem cw_65 : Cond.code yX6_kindSaid cX6_kindSaid 1 (some .int) ∈ mm_ws := mm_tw (mm_t3 (List.mem_of_getElem? (i := 15) rfl)) rfl
theorem cw_66 : Cond.code yX6_takePerson cX6_takePerson 2 (some .boolean) ∈ mm_ws := mm_tw (mm_t3 (List.mem_of_getElem? (i := 27) rfl)) rfl
theorem cw_67 : Cond.code yX6_takeShaky cX6_takeShaky 2 (some .boolean) ∈ mm_ws := mm_tw (mm_t3 (List.mem_of_getElem? (i := 33) rfl)) rfl
theorem cw_68 : Cond.code yX6_takeLeft cX6_takeLeft 2 (some .boolean) ∈ mm_ws := mm_tw (mm_t3 (List.mem_of_getElem? (i := 37) rfl)) rfl
theorem cw_69 : Cond.code yX6_takeCandleLeft cX6_takeCandleLeft 3 (some .boolean) ∈ mm_ws := mm_tw (mm_t3 (List.mem_of_getElem? (i := 41) rfl)) rfl
theorem cw_70 : Cond.code yX6_takeNewName cX6_takeNewName 3 (some .boolean) ∈ mm_ws := mm_tw (mm_t2 (List.mem_of_getElem? (i := 223) rfl)) rfl
theorem cw_71 : Cond.code yX6_find cX6_find 4 (some .int) ∈ mm_ws := mm_tw (mm_t2 (List.mem_of_getElem? (i := 237) rfl)) rfl
theorem cw_72 : Cond.code yX6_isName cX6_isName 2 (some .boolean) ∈ mm_ws := mm_tw (mm_t2 (List.mem_of_getElem? (i := 227) rfl)) rfl
theorem cw_73 : Cond.code yX6_says cX6_says 3 (some .boolean) ∈ mm_ws := mm_tw (mm_t2 (List.mem_of_getElem? (i := 144) rfl)) rfl
theorem cw_74 : Cond.code yX6_takeWord cX6_takeWord 2 (some .boolean) ∈ mm_ws := mm_tw (mm_t2 (List.mem_of_getElem? (i := 205) rfl)) rfl
theorem cw_75 : Cond.code yX6_takeWhole cX6_takeWhole 3 (some .boolean) ∈ mm_ws := mm_tw (mm_t2 (List.mem_of_getElem? (i := 209) rfl)) rfl
theorem cw_76 : Cond.code yX6_takeSign cX6_takeSign 2 (some .boolean) ∈ mm_ws := mm_tw (mm_t3 (List.mem_of_getElem? (i := 2) rfl)) rfl
theorem cw_77 : Cond.code yX6_advance cX6_advance 1 none ∈ mm_ws := mm_tw (mm_t2 (List.mem_of_getElem? (i := 120) rfl)) rfl
theorem cw_78 : Cond.code yX6_readWord cX6_readWord 1 none ∈ mm_ws := mm_tw (mm_t2 (List.mem_of_getElem? (i := 127) rfl)) rfl
theorem cw_79 : Cond.code yX6_readWhole cX6_readWhole 1 none ∈ mm_ws := mm_tw (mm_t2 (List.mem_of_getElem? (i := 135) rfl)) rfl
theorem cw_80 : Cond.code yX6_isLetter cX6_isLetter 1 (some .boolean) ∈ mm_ws := mm_tw (mm_t2 (List.mem_of_getElem? (i := 123) rfl)) rfl
theorem cw_81 : Cond.code yX6_isDigit cX6_isDigit 1 (some .boolean) ∈ mm_ws := mm_tw (mm_t2 (List.mem_of_getElem? (i := 131) rfl)) rfl
theorem cw_82 : Cond.code yX7_turnTo cX7_turnTo 2 none ∈ mm_ws := mm_tw (mm_t4 (List.mem_of_getElem? (i := 141) rfl)) rfl
theorem cw_83 : Cond.code yX7_fewestFrom cX7_fewestFrom 2 (some .int) ∈ mm_ws := mm_tw (mm_t4 (List.mem_of_getElem? (i := 137) rfl)) rfl
theorem cw_84 : Cond.code yX7_fewestOf cX7_fewestOf 4 (some .int) ∈ mm_ws := mm_tw (mm_t4 (List.mem_of_getElem? (i := 145) rfl)) rfl
theorem cw_85 : Cond.code yX7_fewestWithout cX7_fewestWithout 4 (some .int) ∈ mm_ws := mm_tw (mm_t6 (List.mem_of_getElem? (i := 35) rfl)) rfl
theorem cw_86 : Cond.code yX7_fewestWithoutCandle cX7_fewestWithoutCandle 4 (some .int) ∈ mm_ws := mm_tw (mm_t6 (List.mem_of_getElem? (i := 27) rfl)) rfl
theorem cw_87 : Cond.code yX7_fewestWithGuest cX7_fewestWithGuest 3 (some .int) ∈ mm_ws := mm_tw (mm_t6 (List.mem_of_getElem? (i := 7) rfl)) rfl
theorem cw_88 : Cond.code yX7_soonestOut cX7_soonestOut 3 (some .int) ∈ mm_ws := mm_tw (mm_t5 (List.mem_of_getElem? (i := 36) rfl)) rfl
theorem cw_89 : Cond.code yX7_distance cX7_distance 6 (some .int) ∈ mm_ws := mm_tw (mm_t4 (List.mem_of_getElem? (i := 163) rfl)) rfl
theorem cw_90 : Cond.code yX7_forget cX7_forget 2 none ∈ mm_ws := mm_tw (mm_t4 (List.mem_of_getElem? (i := 167) rfl)) rfl
theorem cw_91 : Cond.code yX7_note cX7_note 3 none ∈ mm_ws := mm_tw (mm_t4 (List.mem_of_getElem? (i := 171) rfl)) rfl
theorem cw_92 : Cond.code yX7_rowAt cX7_rowAt 3 (some .int) ∈ mm_ws := mm_tw (mm_t4 (List.mem_of_getElem? (i := 181) rfl)) rfl
theorem cw_93 : Cond.code yX7_findRow cX7_findRow 6 none ∈ mm_ws := mm_tw (mm_t4 (List.mem_of_getElem? (i := 185) rfl)) rfl
theorem cw_94 : Cond.code yX7_markWays cX7_markWays 4 none ∈ mm_ws := mm_tw (mm_t4 (List.mem_of_getElem? (i := 189) rfl)) rfl
theorem cw_95 : Cond.code yX7_firstOnWay cX7_firstOnWay 4 (some .int) ∈ mm_ws := mm_tw (mm_t4 (List.mem_of_getElem? (i := 195) rfl)) rfl
theorem cw_96 : Cond.code yX7_leastWay cX7_leastWay 7 (some .int) ∈ mm_ws := mm_tw (mm_t4 (List.mem_of_getElem? (i := 216) rfl)) rfl
theorem cw_97 : Cond.code yX7_setWaysFrom cX7_setWaysFrom 4 none ∈ mm_ws := mm_tw (mm_t4 (List.mem_of_getElem? (i := 233) rfl)) rfl
theorem cw_98 : Cond.code yX7_findWaysFrom cX7_findWaysFrom 7 none ∈ mm_ws := mm_tw (mm_t4 (List.mem_of_getElem? (i := 220) rfl)) rfl
theorem cw_99 : Cond.code yX7_leastWayBehind cX7_leastWayBehind 8 (some .int) ∈ mm_ws := mm_tw (mm_t4 (List.mem_of_getElem? (i := 224) rfl)) rfl
theorem cw_100 : Cond.code yX7_teamFrom cX7_teamFrom 2 (some .int) ∈ mm_ws := mm_tw (mm_t5 (List.mem_of_getElem? (i := 1) rfl)) rfl
theorem cw_101 : Cond.code yX7_findTeam cX7_findTeam 5 (some .int) ∈ mm_ws := mm_tw (mm_t5 (List.mem_of_getElem? (i := 5) rfl)) rfl
theorem cw_102 : Cond.code yX7_canPutOut cX7_canPutOut 3 (some .boolean) ∈ mm_ws := mm_tw (mm_t5 (List.mem_of_getElem? (i := 10) rfl)) rfl
theorem cw_103 : Cond.code yX7_blowLast cX7_blowLast 8 none ∈ mm_ws := mm_tw (mm_t5 (List.mem_of_getElem? (i := 14) rfl)) rfl
theorem cw_104 : Cond.code yX7_fewestBurning cX7_fewestBurning 9 (some .int) ∈ mm_ws := mm_tw (mm_t5 (List.mem_of_getElem? (i := 44) rfl)) rfl
theorem cw_105 : Cond.code yX7_nextRound cX7_nextRound 9 (some .int) ∈ mm_ws := mm_tw (mm_t5 (List.mem_of_getElem? (i := 48) rfl)) rfl
theorem cw_106 : Cond.code yX8_count cX8_count 4 (some .int) ∈ mm_ws := mm_tw (mm_t5 (List.mem_of_getElem? (i := 216) rfl)) rfl
theorem cw_107 : Cond.code yX8_firstBreath cX8_firstBreath 5 (some .int) ∈ mm_ws := mm_tw (mm_t5 (List.mem_of_getElem? (i := 239) rfl)) rfl
theorem cw_108 : Cond.code yX8_findRows cX8_findRows 5 none ∈ mm_ws := mm_tw (mm_t5 (List.mem_of_getElem? (i := 220) rfl)) rfl
theorem cw_109 : Cond.code yX8_countLast cX8_countLast 4 (some .int) ∈ mm_ws := mm_tw (mm_t5 (List.mem_of_getElem? (i := 231) rfl)) rfl
theorem cw_110 : Cond.code yX8_isLeft cX8_isLeft 2 (some .int) ∈ mm_ws := mm_tw (mm_t5 (List.mem_of_getElem? (i := 226) rfl)) rfl
theorem cw_111 : Cond.code yX9_feed cX9_feed 6 (some .int) ∈ mm_ws := mm_tw (mm_t2 (List.mem_of_getElem? (i := 89) rfl)) rfl
theorem cw_112 : Cond.code yX9_cake cX9_cake 3 (some .int) ∈ mm_ws := mm_tw (mm_t2 (List.mem_of_getElem? (i := 101) rfl)) rfl
theorem cw_113 : Cond.code yX9_fault cX9_fault 1 (some .int) ∈ mm_ws := mm_tw (mm_t3 (List.mem_of_getElem? (i := 127) rfl)) rfl
theorem cw_114 : Cond.code yX9_where cX9_where 1 (some .int) ∈ mm_ws := mm_tw (mm_t3 (List.mem_of_getElem? (i := 131) rfl)) rfl
theorem cw_115 : Cond.code yX9_candle cX9_candle 3 (some .int) ∈ mm_ws := mm_tw (mm_t3 (List.mem_of_getElem? (i := 135) rfl)) rfl
theorem cw_116 : Cond.code yX9_fan cX9_fan 2 (some .int) ∈ mm_ws := mm_tw (mm_t3 (List.mem_of_getElem? (i := 143) rfl)) rfl
theorem cw_117 : Cond.code yX9_breath cX9_breath 4 (some .int) ∈ mm_ws := mm_tw (mm_t3 (List.mem_of_getElem? (i := 151) rfl)) rfl
theorem cw_118 : Cond.code yX9_breathOf cX9_breathOf 3 (some .int) ∈ mm_ws := mm_tw (mm_t3 (List.mem_of_getElem? (i := 167) rfl)) rfl
theorem cw_119 : Cond.code yX9_fans cX9_fans 1 (some .int) ∈ mm_ws := mm_tw (mm_t3 (List.mem_of_getElem? (i := 174) rfl)) rfl
theorem cw_120 : Cond.code yX9_spared cX9_spared 1 (some .int) ∈ mm_ws := mm_tw (mm_t3 (List.mem_of_getElem? (i := 182) rfl)) rfl
theorem cw_121 : Cond.code yX9_lights cX9_lights 3 (some .int) ∈ mm_ws := mm_tw (mm_t3 (List.mem_of_getElem? (i := 190) rfl)) rfl
theorem cw_122 : Cond.code yX9_burning cX9_burning 1 (some .int) ∈ mm_ws := mm_tw (mm_t3 (List.mem_of_getElem? (i := 198) rfl)) rfl
theorem cw_123 : Cond.code yX9_dazed cX9_dazed 1 (some .int) ∈ mm_ws := mm_tw (mm_t3 (List.mem_of_getElem? (i := 206) rfl)) rfl
theorem cw_124 : Cond.code yX9_gain cX9_gain 2 (some .int) ∈ mm_ws := mm_tw (mm_t3 (List.mem_of_getElem? (i := 214) rfl)) rfl
theorem cw_125 : Cond.code yX9_greedy cX9_greedy 1 (some .int) ∈ mm_ws := mm_tw (mm_t3 (List.mem_of_getElem? (i := 236) rfl)) rfl
theorem cw_126 : Cond.code yX9_blow cX9_blow 2 (some .int) ∈ mm_ws := mm_tw (mm_t4 (List.mem_of_getElem? (i := 5) rfl)) rfl
theorem cw_127 : Cond.code yX9_light cX9_light 2 (some .boolean) ∈ mm_ws := mm_tw (mm_t4 (List.mem_of_getElem? (i := 18) rfl)) rfl
theorem cw_128 : Cond.code yX9_all cX9_all 1 (some .boolean) ∈ mm_ws := mm_tw (mm_t4 (List.mem_of_getElem? (i := 40) rfl)) rfl
theorem cw_129 : Cond.code yX9_undo cX9_undo 1 (some .boolean) ∈ mm_ws := mm_tw (mm_t4 (List.mem_of_getElem? (i := 44) rfl)) rfl
theorem cw_130 : Cond.code yX9_fewest cX9_fewest 1 (some .int) ∈ mm_ws := mm_tw (mm_t4 (List.mem_of_getElem? (i := 52) rfl)) rfl
theorem cw_131 : Cond.code yX9_row cX9_row 3 (some .int) ∈ mm_ws := mm_tw (mm_t4 (List.mem_of_getElem? (i := 177) rfl)) rfl
theorem cw_132 : Cond.code yX9_from cX9_from 2 (some .int) ∈ mm_ws := mm_tw (mm_t4 (List.mem_of_getElem? (i := 199) rfl)) rfl
theorem cw_133 : Cond.code yX9_by cX9_by 2 (some .int) ∈ mm_ws := mm_tw (mm_t4 (List.mem_of_getElem? (i := 204) rfl)) rfl
theorem cw_134 : Cond.code yX9_inTime cX9_inTime 2 (some .int) ∈ mm_ws := mm_tw (mm_t4 (List.mem_of_getElem? (i := 208) rfl)) rfl
theorem cw_135 : Cond.code yX9_walk cX9_walk 3 (some .int) ∈ mm_ws := mm_tw (mm_t4 (List.mem_of_getElem? (i := 212) rfl)) rfl
theorem cw_136 : Cond.code yX9_each cX9_each 2 (some .int) ∈ mm_ws := mm_tw (mm_t4 (List.mem_of_getElem? (i := 237) rfl)) rfl
theorem cw_137 : Cond.code yX9_team cX9_team 1 (some .int) ∈ mm_ws := mm_tw (mm_t5 (List.mem_of_getElem? (i := 19) rfl)) rfl
theorem cw_138 : Cond.code yX9_greedyEnd cX9_greedyEnd 1 (some .int) ∈ mm_ws := mm_tw (mm_t5 (List.mem_of_getElem? (i := 23) rfl)) rfl
theorem cw_139 : Cond.code yX9_soonest cX9_soonest 2 (some .int) ∈ mm_ws := mm_tw (mm_t5 (List.mem_of_getElem? (i := 32) rfl)) rfl
theorem cw_140 : Cond.code yX9_few cX9_few 2 (some .int) ∈ mm_ws := mm_tw (mm_t5 (List.mem_of_getElem? (i := 40) rfl)) rfl
theorem cw_141 : Cond.code yX9_chance cX9_chance 3 (some .long) ∈ mm_ws := mm_tw (mm_t5 (List.mem_of_getElem? (i := 54) rfl)) rfl
theorem cw_142 : Cond.code yX9_best cX9_best 2 (some .int) ∈ mm_ws := mm_tw (mm_t5 (List.mem_of_getElem? (i := 164) rfl)) rfl
theorem cw_143 : Cond.code yX9_content cX9_content 3 (some .long) ∈ mm_ws := mm_tw (mm_t5 (List.mem_of_getElem? (i := 173) rfl)) rfl
theorem cw_144 : Cond.code yX9_fits cX9_fits 2 (some .int) ∈ mm_ws := mm_tw (mm_t5 (List.mem_of_getElem? (i := 191) rfl)) rfl
theorem cw_145 : Cond.code yX9_fitAt cX9_fitAt 4 (some .int) ∈ mm_ws := mm_tw (mm_t5 (List.mem_of_getElem? (i := 235) rfl)) rfl
theorem cw_146 : Cond.code yX9_more cX9_more 2 (some .int) ∈ mm_ws := mm_tw (mm_t6 (List.mem_of_getElem? (i := 3) rfl)) rfl
theorem cw_147 : Cond.code yX9_less cX9_less 3 (some .int) ∈ mm_ws := mm_tw (mm_t6 (List.mem_of_getElem? (i := 23) rfl)) rfl
theorem cw_148 : Cond.code yX9_image cX9_image 2 (some .int) ∈ mm_ws := mm_tw (mm_t6 (List.mem_of_getElem? (i := 39) rfl)) rfl
theorem cw_149 : Cond.code yX9_back cX9_back 2 (some .boolean) ∈ mm_ws := mm_tw (mm_t6 (List.mem_of_getElem? (i := 47) rfl)) rfl
theorem cw_150 : Cond.code yX9_size cX9_size 2 (some .int) ∈ mm_ws := mm_tw (mm_t6 (List.mem_of_getElem? (i := 55) rfl)) rfl
theorem cw_151 : Cond.code yX9_trouble cX9_trouble 1 (some .int) ∈ mm_ws := mm_tw (mm_t6 (List.mem_of_getElem? (i := 63) rfl)) rfl
theorem cw_152 : Cond.code yX9_sizeOfCake cX9_sizeOfCake 2 (some .int) ∈ mm_ws := mm_tw (mm_t6 (List.mem_of_getElem? (i := 59) rfl)) rfl
theorem cw_153 : Cond.code yX9_isCandle cX9_isCandle 2 (some .boolean) ∈ mm_ws := mm_tw (mm_t3 (List.mem_of_getElem? (i := 139) rfl)) rfl
theorem cw_154 : Cond.code yX9_isPlace cX9_isPlace 2 (some .boolean) ∈ mm_ws := mm_tw (mm_t3 (List.mem_of_getElem? (i := 159) rfl)) rfl
theorem cw_155 : Cond.code yX9_isPerson cX9_isPerson 2 (some .boolean) ∈ mm_ws := mm_tw (mm_t3 (List.mem_of_getElem? (i := 155) rfl)) rfl
theorem cw_156 : Cond.code yX9_isBreath cX9_isBreath 2 (some .boolean) ∈ mm_ws := mm_tw (mm_t3 (List.mem_of_getElem? (i := 147) rfl)) rfl
theorem cw_157 : Cond.code yX9_isRefused cX9_isRefused 3 (some .boolean) ∈ mm_ws := mm_tw (mm_t5 (List.mem_of_getElem? (i := 58) rfl)) rfl
theorem cw_158 : Cond.code yX9_isFitRefused cX9_isFitRefused 2 (some .boolean) ∈ mm_ws := mm_tw (mm_t5 (List.mem_of_getElem? (i := 195) rfl)) rfl
theorem cw_159 : Cond.code yX9_refuse cX9_refuse 2 (some .int) ∈ mm_ws := mm_tw (mm_t2 (List.mem_of_getElem? (i := 105) rfl)) rfl
theorem cw_160 : Cond.code yX9_answer cX9_answer 2 (some .int) ∈ mm_ws := mm_tw (mm_t3 (List.mem_of_getElem? (i := 123) rfl)) rfl
theorem cw_161 : Cond.code yX9_deny cX9_deny 2 (some .boolean) ∈ mm_ws := mm_tw (mm_t4 (List.mem_of_getElem? (i := 22) rfl)) rfl
theorem cw_162 : Cond.code yX9_grant cX9_grant 1 (some .boolean) ∈ mm_ws := mm_tw (mm_t4 (List.mem_of_getElem? (i := 36) rfl)) rfl
theorem cw_163 : Cond.code yX9_inLowestTerms cX9_inLowestTerms 8 (some .long) ∈ mm_ws := mm_tw (mm_t5 (List.mem_of_getElem? (i := 157) rfl)) rfl
theorem cw_164 : Cond.code yX9_commonMeasure cX9_commonMeasure 11 (some .long) ∈ mm_ws := mm_tw (mm_t5 (List.mem_of_getElem? (i := 160) rfl)) rfl
theorem cw_165 : Cond.code yX10_thrown cX10_thrown 1 (some .int) ∈ mm_ws := mm_tw (mm_t7 (List.mem_of_getElem? (i := 26) rfl)) rfl
theorem cw_166 : Cond.code yX10_good cX10_good 1 none ∈ mm_ws := mm_tw (mm_t7 (List.mem_of_getElem? (i := 38) rfl)) rfl
theorem cw_167 : Cond.code yX10_no cX10_no 2 (some .int) ∈ mm_ws := mm_tw (mm_t7 (List.mem_of_getElem? (i := 45) rfl)) rfl
theorem cw_168 : Cond.code yX10_isNot cX10_isNot 2 (some .boolean) ∈ mm_ws := mm_tw (mm_t8 (List.mem_of_getElem? (i := 62) rfl)) rfl
theorem cw_169 : Cond.code yX10_within cX10_within 3 (some .boolean) ∈ mm_ws := mm_tw (mm_t7 (List.mem_of_getElem? (i := 41) rfl)) rfl
theorem cw_170 : Cond.code yX10_has cX10_has 2 (some .boolean) ∈ mm_ws := mm_tw (mm_t7 (List.mem_of_getElem? (i := 165) rfl)) rfl
theorem cw_171 : Cond.code yX10_bits cX10_bits 3 (some .int) ∈ mm_ws := mm_tw (mm_t8 (List.mem_of_getElem? (i := 28) rfl)) rfl
theorem cw_172 : Cond.code yX10_feed cX10_feed 8 (some .int) ∈ mm_ws := mm_tw (mm_t7 (List.mem_of_getElem? (i := 30) rfl)) rfl
theorem cw_173 : Cond.code yX10_look cX10_look 2 (some .int) ∈ mm_ws := mm_tw (mm_t7 (List.mem_of_getElem? (i := 53) rfl)) rfl
theorem cw_174 : Cond.code yX10_isSmall cX10_isSmall 1 (some .boolean) ∈ mm_ws := mm_tw (mm_t7 (List.mem_of_getElem? (i := 56) rfl)) rfl
theorem cw_175 : Cond.code yX10_isDigit cX10_isDigit 1 (some .boolean) ∈ mm_ws := mm_tw (mm_t7 (List.mem_of_getElem? (i := 59) rfl)) rfl
theorem cw_176 : Cond.code yX10_next cX10_next 4 none ∈ mm_ws := mm_tw (mm_t7 (List.mem_of_getElem? (i := 49) rfl)) rfl
theorem cw_177 : Cond.code yX10_wrong cX10_wrong 3 none ∈ mm_ws := mm_tw (mm_t7 (List.mem_of_getElem? (i := 78) rfl)) rfl
theorem cw_178 : Cond.code yX10_isWord cX10_isWord 4 (some .boolean) ∈ mm_ws := mm_tw (mm_t7 (List.mem_of_getElem? (i := 72) rfl)) rfl
theorem cw_179 : Cond.code yX10_takes cX10_takes 2 (some .boolean) ∈ mm_ws := mm_tw (mm_t7 (List.mem_of_getElem? (i := 95) rfl)) rfl
theorem cw_180 : Cond.code yX10_must cX10_must 2 none ∈ mm_ws := mm_tw (mm_t7 (List.mem_of_getElem? (i := 91) rfl)) rfl
theorem cw_181 : Cond.code yX10_mustName cX10_mustName 2 none ∈ mm_ws := mm_tw (mm_t7 (List.mem_of_getElem? (i := 113) rfl)) rfl
theorem cw_182 : Cond.code yX10_find cX10_find 4 (some .int) ∈ mm_ws := mm_tw (mm_t7 (List.mem_of_getElem? (i := 123) rfl)) rfl
theorem cw_183 : Cond.code yX10_newName cX10_newName 3 none ∈ mm_ws := mm_tw (mm_t7 (List.mem_of_getElem? (i := 109) rfl)) rfl
theorem cw_184 : Cond.code yX10_number cX10_number 4 (some .int) ∈ mm_ws := mm_tw (mm_t7 (List.mem_of_getElem? (i := 99) rfl)) rfl
theorem cw_185 : Cond.code yX10_told cX10_told 4 (some .int) ∈ mm_ws := mm_tw (mm_t7 (List.mem_of_getElem? (i := 87) rfl)) rfl
theorem cw_186 : Cond.code yX10_comma cX10_comma 1 (some .boolean) ∈ mm_ws := mm_tw (mm_t7 (List.mem_of_getElem? (i := 136) rfl)) rfl
theorem cw_187 : Cond.code yX10_mustComma cX10_mustComma 1 none ∈ mm_ws := mm_tw (mm_t7 (List.mem_of_getElem? (i := 132) rfl)) rfl
theorem cw_188 : Cond.code yX10_cake cX10_cake 3 (some .int) ∈ mm_ws := mm_tw (mm_t7 (List.mem_of_getElem? (i := 34) rfl)) rfl
theorem cw_189 : Cond.code yX10_begins cX10_begins 4 (some .boolean) ∈ mm_ws := mm_tw (mm_t7 (List.mem_of_getElem? (i := 68) rfl)) rfl
theorem cw_190 : Cond.code yX10_readLine cX10_readLine 1 none ∈ mm_ws := mm_tw (mm_t7 (List.mem_of_getElem? (i := 63) rfl)) rfl
theorem cw_191 : Cond.code yX10_cakeLine cX10_cakeLine 1 none ∈ mm_ws := mm_tw (mm_t7 (List.mem_of_getElem? (i := 82) rfl)) rfl
theorem cw_192 : Cond.code yX10_spot cX10_spot 3 none ∈ mm_ws := mm_tw (mm_t7 (List.mem_of_getElem? (i := 127) rfl)) rfl
theorem cw_193 : Cond.code yX10_candleLine cX10_candleLine 5 none ∈ mm_ws := mm_tw (mm_t7 (List.mem_of_getElem? (i := 105) rfl)) rfl
theorem cw_194 : Cond.code yX10_placeLine cX10_placeLine 2 none ∈ mm_ws := mm_tw (mm_t7 (List.mem_of_getElem? (i := 144) rfl)) rfl
theorem cw_195 : Cond.code yX10_spotLine cX10_spotLine 2 none ∈ mm_ws := mm_tw (mm_t7 (List.mem_of_getElem? (i := 148) rfl)) rfl
theorem cw_196 : Cond.code yX10_personLine cX10_personLine 2 none ∈ mm_ws := mm_tw (mm_t7 (List.mem_of_getElem? (i := 152) rfl)) rfl
theorem cw_197 : Cond.code yX10_shakyLine cX10_shakyLine 1 none ∈ mm_ws := mm_tw (mm_t7 (List.mem_of_getElem? (i := 158) rfl)) rfl
theorem cw_198 : Cond.code yX10_leftLine cX10_leftLine 3 none ∈ mm_ws := mm_tw (mm_t7 (List.mem_of_getElem? (i := 162) rfl)) rfl
theorem cw_199 : Cond.code yX10_fault cX10_fault 1 (some .int) ∈ mm_ws := mm_tw (mm_t7 (List.mem_of_getElem? (i := 193) rfl)) rfl
theorem cw_200 : Cond.code yX10_where cX10_where 1 (some .int) ∈ mm_ws := mm_tw (mm_t7 (List.mem_of_getElem? (i := 197) rfl)) rfl
theorem cw_201 : Cond.code yX10_isCandle cX10_isCandle 2 (some .boolean) ∈ mm_ws := mm_tw (mm_t7 (List.mem_of_getElem? (i := 205) rfl)) rfl
theorem cw_202 : Cond.code yX10_isPlace cX10_isPlace 2 (some .boolean) ∈ mm_ws := mm_tw (mm_t7 (List.mem_of_getElem? (i := 225) rfl)) rfl
theorem cw_203 : Cond.code yX10_isPerson cX10_isPerson 2 (some .boolean) ∈ mm_ws := mm_tw (mm_t7 (List.mem_of_getElem? (i := 221) rfl)) rfl
theorem cw_204 : Cond.code yX10_isBreath cX10_isBreath 2 (some .boolean) ∈ mm_ws := mm_tw (mm_t7 (List.mem_of_getElem? (i := 213) rfl)) rfl
theorem cw_205 : Cond.code yX10_allCandles cX10_allCandles 1 (some .int) ∈ mm_ws := mm_tw (mm_t7 (List.mem_of_getElem? (i := 169) rfl)) rfl
theorem cw_206 : Cond.code yX10_breathMany cX10_breathMany 1 (some .int) ∈ mm_ws := mm_tw (mm_t7 (List.mem_of_getElem? (i := 177) rfl)) rfl
theorem cw_207 : Cond.code yX10_personOf cX10_personOf 2 (some .int) ∈ mm_ws := mm_tw (mm_t7 (List.mem_of_getElem? (i := 185) rfl)) rfl
theorem cw_208 : Cond.code yX10_placeOf cX10_placeOf 2 (some .int) ∈ mm_ws := mm_tw (mm_t7 (List.mem_of_getElem? (i := 189) rfl)) rfl
theorem cw_209 : Cond.code yX10_isIn cX10_isIn 9 (some .boolean) ∈ mm_ws := mm_tw (mm_t7 (List.mem_of_getElem? (i := 181) rfl)) rfl
theorem cw_210 : Cond.code yX10_layFans cX10_layFans 5 none ∈ mm_ws := mm_tw (mm_t7 (List.mem_of_getElem? (i := 173) rfl)) rfl
theorem cw_211 : Cond.code yX10_ofKind cX10_ofKind 4 (some .int) ∈ mm_ws := mm_tw (mm_t8 (List.mem_of_getElem? (i := 5) rfl)) rfl
theorem cw_212 : Cond.code yX10_blown cX10_blown 10 (some .int) ∈ mm_ws := mm_tw (mm_t8 (List.mem_of_getElem? (i := 32) rfl)) rfl
theorem cw_213 : Cond.code yX10_burnOf cX10_burnOf 1 (some .int) ∈ mm_ws := mm_tw (mm_t8 (List.mem_of_getElem? (i := 35) rfl)) rfl
theorem cw_214 : Cond.code yX10_dazeOf cX10_dazeOf 1 (some .int) ∈ mm_ws := mm_tw (mm_t8 (List.mem_of_getElem? (i := 54) rfl)) rfl
theorem cw_215 : Cond.code yX10_candle cX10_candle 3 (some .int) ∈ mm_ws := mm_tw (mm_t7 (List.mem_of_getElem? (i := 201) rfl)) rfl
theorem cw_216 : Cond.code yX10_fan cX10_fan 2 (some .int) ∈ mm_ws := mm_tw (mm_t7 (List.mem_of_getElem? (i := 209) rfl)) rfl
theorem cw_217 : Cond.code yX10_breath cX10_breath 4 (some .int) ∈ mm_ws := mm_tw (mm_t7 (List.mem_of_getElem? (i := 217) rfl)) rfl
theorem cw_218 : Cond.code yX10_breathOf cX10_breathOf 3 (some .int) ∈ mm_ws := mm_tw (mm_t7 (List.mem_of_getElem? (i := 229) rfl)) rfl
theorem cw_219 : Cond.code yX10_fans cX10_fans 6 (some .int) ∈ mm_ws := mm_tw (mm_t7 (List.mem_of_getElem? (i := 233) rfl)) rfl
theorem cw_220 : Cond.code yX10_spared cX10_spared 3 (some .int) ∈ mm_ws := mm_tw (mm_t7 (List.mem_of_getElem? (i := 237) rfl)) rfl
theorem cw_221 : Cond.code yX10_lights cX10_lights 3 (some .int) ∈ mm_ws := mm_tw (mm_t8 (List.mem_of_getElem? (i := 1) rfl)) rfl
theorem cw_222 : Cond.code yX10_burning cX10_burning 1 (some .int) ∈ mm_ws := mm_tw (mm_t8 (List.mem_of_getElem? (i := 9) rfl)) rfl
theorem cw_223 : Cond.code yX10_dazed cX10_dazed 1 (some .int) ∈ mm_ws := mm_tw (mm_t8 (List.mem_of_getElem? (i := 13) rfl)) rfl
theorem cw_224 : Cond.code yX10_allThere cX10_allThere 1 none ∈ mm_ws := mm_tw (mm_t8 (List.mem_of_getElem? (i := 25) rfl)) rfl
theorem cw_225 : Cond.code yX10_gainOf cX10_gainOf 2 (some .int) ∈ mm_ws := mm_tw (mm_t8 (List.mem_of_getElem? (i := 21) rfl)) rfl
theorem cw_226 : Cond.code yX10_gain cX10_gain 2 (some .int) ∈ mm_ws := mm_tw (mm_t8 (List.mem_of_getElem? (i := 17) rfl)) rfl
theorem cw_227 : Cond.code yX10_greediest cX10_greediest 3 (some .int) ∈ mm_ws := mm_tw (mm_t8 (List.mem_of_getElem? (i := 43) rfl)) rfl
theorem cw_228 : Cond.code yX10_greedy cX10_greedy 1 (some .int) ∈ mm_ws := mm_tw (mm_t8 (List.mem_of_getElem? (i := 39) rfl)) rfl
theorem cw_229 : Cond.code yX10_note cX10_note 2 none ∈ mm_ws := mm_tw (mm_t8 (List.mem_of_getElem? (i := 51) rfl)) rfl
theorem cw_230 : Cond.code yX10_blow cX10_blow 3 (some .int) ∈ mm_ws := mm_tw (mm_t8 (List.mem_of_getElem? (i := 47) rfl)) rfl
theorem cw_231 : Cond.code yX10_light cX10_light 2 (some .boolean) ∈ mm_ws := mm_tw (mm_t8 (List.mem_of_getElem? (i := 58) rfl)) rfl
theorem cw_232 : Cond.code yX10_all cX10_all 1 (some .boolean) ∈ mm_ws := mm_tw (mm_t8 (List.mem_of_getElem? (i := 66) rfl)) rfl
theorem cw_233 : Cond.code yX10_undo cX10_undo 1 (some .boolean) ∈ mm_ws := mm_tw (mm_t8 (List.mem_of_getElem? (i := 70) rfl)) rfl
theorem cw_234 : Cond.code yX10_allow cX10_allow 9 none ∈ mm_ws := mm_tw (mm_t8 (List.mem_of_getElem? (i := 78) rfl)) rfl
theorem cw_235 : Cond.code yX10_standOf cX10_standOf 6 (some .int) ∈ mm_ws := mm_tw (mm_t8 (List.mem_of_getElem? (i := 90) rfl)) rfl
theorem cw_236 : Cond.code yX10_dazeIn cX10_dazeIn 5 (some .int) ∈ mm_ws := mm_tw (mm_t8 (List.mem_of_getElem? (i := 101) rfl)) rfl
theorem cw_237 : Cond.code yX10_burnIn cX10_burnIn 1 (some .int) ∈ mm_ws := mm_tw (mm_t8 (List.mem_of_getElem? (i := 97) rfl)) rfl
theorem cw_238 : Cond.code yX10_behind cX10_behind 4 (some .int) ∈ mm_ws := mm_tw (mm_t8 (List.mem_of_getElem? (i := 94) rfl)) rfl
theorem cw_239 : Cond.code yX10_search cX10_search 7 (some .int) ∈ mm_ws := mm_tw (mm_t8 (List.mem_of_getElem? (i := 86) rfl)) rfl
theorem cw_240 : Cond.code yX10_searchNow cX10_searchNow 1 (some .int) ∈ mm_ws := mm_tw (mm_t8 (List.mem_of_getElem? (i := 82) rfl)) rfl
theorem cw_241 : Cond.code yX10_fewest cX10_fewest 1 (some .int) ∈ mm_ws := mm_tw (mm_t8 (List.mem_of_getElem? (i := 74) rfl)) rfl
theorem cw_242 : Cond.code yX10_row cX10_row 5 (some .int) ∈ mm_ws := mm_tw (mm_t8 (List.mem_of_getElem? (i := 105) rfl)) rfl
theorem cw_243 : Cond.code yX10_isOn cX10_isOn 3 (some .boolean) ∈ mm_ws := mm_tw (mm_t8 (List.mem_of_getElem? (i := 109) rfl)) rfl
theorem cw_244 : Cond.code yX10_from cX10_from 2 (some .int) ∈ mm_ws := mm_tw (mm_t8 (List.mem_of_getElem? (i := 113) rfl)) rfl
theorem cw_245 : Cond.code yX10_by cX10_by 2 (some .int) ∈ mm_ws := mm_tw (mm_t8 (List.mem_of_getElem? (i := 117) rfl)) rfl
theorem cw_246 : Cond.code yX10_soonest cX10_soonest 6 (some .int) ∈ mm_ws := mm_tw (mm_t8 (List.mem_of_getElem? (i := 121) rfl)) rfl
theorem cw_247 : Cond.code yX10_few cX10_few 5 (some .int) ∈ mm_ws := mm_tw (mm_t8 (List.mem_of_getElem? (i := 125) rfl)) rfl
theorem cw_248 : Cond.code yX10_inTime cX10_inTime 2 (some .int) ∈ mm_ws := mm_tw (mm_t8 (List.mem_of_getElem? (i := 129) rfl)) rfl
theorem cw_249 : Cond.code yX10_far cX10_far 5 (some .int) ∈ mm_ws := mm_tw (mm_t8 (List.mem_of_getElem? (i := 137) rfl)) rfl
theorem cw_250 : Cond.code yX10_walk cX10_walk 13 (some .int) ∈ mm_ws := mm_tw (mm_t8 (List.mem_of_getElem? (i := 133) rfl)) rfl
theorem cw_251 : Cond.code yX10_teamOf cX10_teamOf 7 (some .int) ∈ mm_ws := mm_tw (mm_t8 (List.mem_of_getElem? (i := 145) rfl)) rfl
theorem cw_252 : Cond.code yX10_each cX10_each 2 (some .int) ∈ mm_ws := mm_tw (mm_t8 (List.mem_of_getElem? (i := 141) rfl)) rfl
theorem cw_253 : Cond.code yX10_team cX10_team 1 (some .int) ∈ mm_ws := mm_tw (mm_t8 (List.mem_of_getElem? (i := 149) rfl)) rfl
theorem cw_254 : Cond.code yX10_greedyEnd cX10_greedyEnd 6 (some .int) ∈ mm_ws := mm_tw (mm_t8 (List.mem_of_getElem? (i := 153) rfl)) rfl
theorem cw_255 : Cond.code yX10_weight cX10_weight 2 (some .int) ∈ mm_ws := mm_tw (mm_t8 (List.mem_of_getElem? (i := 178) rfl)) rfl
theorem cw_256 : Cond.code yX10_weights cX10_weights 5 (some .long) ∈ mm_ws := mm_tw (mm_t8 (List.mem_of_getElem? (i := 174) rfl)) rfl
theorem cw_257 : Cond.code yX10_chanceBy cX10_chanceBy 8 (some .long) ∈ mm_ws := mm_tw (mm_t8 (List.mem_of_getElem? (i := 182) rfl)) rfl
theorem cw_258 : Cond.code yX10_chanceOf cX10_chanceOf 8 (some .long) ∈ mm_ws := mm_tw (mm_t8 (List.mem_of_getElem? (i := 170) rfl)) rfl
theorem cw_259 : Cond.code yX10_forget cX10_forget 2 none ∈ mm_ws := mm_tw (mm_t8 (List.mem_of_getElem? (i := 165) rfl)) rfl
theorem cw_260 : Cond.code yX10_common cX10_common 10 (some .long) ∈ mm_ws := mm_tw (mm_t8 (List.mem_of_getElem? (i := 185) rfl)) rfl
theorem cw_261 : Cond.code yX10_countWhy cX10_countWhy 3 (some .int) ∈ mm_ws := mm_tw (mm_t8 (List.mem_of_getElem? (i := 161) rfl)) rfl
theorem cw_262 : Cond.code yX10_chance cX10_chance 8 (some .long) ∈ mm_ws := mm_tw (mm_t8 (List.mem_of_getElem? (i := 157) rfl)) rfl
theorem cw_263 : Cond.code yX10_contentBy cX10_contentBy 8 (some .long) ∈ mm_ws := mm_tw (mm_t8 (List.mem_of_getElem? (i := 197) rfl)) rfl
theorem cw_264 : Cond.code yX10_contentOf cX10_contentOf 8 (some .long) ∈ mm_ws := mm_tw (mm_t8 (List.mem_of_getElem? (i := 193) rfl)) rfl
theorem cw_265 : Cond.code yX10_content cX10_content 8 (some .long) ∈ mm_ws := mm_tw (mm_t8 (List.mem_of_getElem? (i := 189) rfl)) rfl
theorem cw_266 : Cond.code yX10_best cX10_best 10 (some .int) ∈ mm_ws := mm_tw (mm_t8 (List.mem_of_getElem? (i := 201) rfl)) rfl
theorem cw_267 : Cond.code yX10_fitWhy cX10_fitWhy 3 (some .int) ∈ mm_ws := mm_tw (mm_t8 (List.mem_of_getElem? (i := 209) rfl)) rfl
theorem cw_268 : Cond.code yX10_fitOf cX10_fitOf 8 (some .int) ∈ mm_ws := mm_tw (mm_t8 (List.mem_of_getElem? (i := 213) rfl)) rfl
theorem cw_269 : Cond.code yX10_fits cX10_fits 3 (some .int) ∈ mm_ws := mm_tw (mm_t8 (List.mem_of_getElem? (i := 205) rfl)) rfl
theorem cw_270 : Cond.code yX10_fitAt cX10_fitAt 5 (some .int) ∈ mm_ws := mm_tw (mm_t8 (List.mem_of_getElem? (i := 218) rfl)) rfl
theorem cw_271 : Cond.code yX10_more cX10_more 2 (some .int) ∈ mm_ws := mm_tw (mm_t8 (List.mem_of_getElem? (i := 222) rfl)) rfl
theorem cw_272 : Cond.code yX10_less cX10_less 3 (some .int) ∈ mm_ws := mm_tw (mm_t8 (List.mem_of_getElem? (i := 226) rfl)) rfl
theorem cw_273 : Cond.code yX10_image cX10_image 1 (some .int) ∈ mm_ws := mm_tw (mm_t8 (List.mem_of_getElem? (i := 230) rfl)) rfl
theorem cw_274 : Cond.code yX10_back cX10_back 2 (some .boolean) ∈ mm_ws := mm_tw (mm_t8 (List.mem_of_getElem? (i := 234) rfl)) rfl
theorem cw_275 : Cond.code yX10_led cX10_led 4 (some .int) ∈ mm_ws := mm_tw (mm_t8 (List.mem_of_getElem? (i := 238) rfl)) rfl
theorem cw_276 : Cond.code yX10_size cX10_size 2 (some .int) ∈ mm_ws := mm_tw (mm_t9 (List.mem_of_getElem? (i := 2) rfl)) rfl
theorem cw_277 : Cond.code yX10_trouble cX10_trouble 1 (some .int) ∈ mm_ws := mm_tw (mm_t9 (List.mem_of_getElem? (i := 6) rfl)) rfl
theorem cw_278 : Cond.code yJ6_bitCount_0f7a4 cJ6_bitCount_0f7a4 1 (some .int) ∈ mm_ws := mm_tw (mm_t3 (List.mem_of_getElem? (i := 225) rfl)) rfl
theorem cw_279 : Cond.code yJ7_fill_53178 cJ7_fill_53178 4 none ∈ mm_ws := mm_tw (mm_t3 (List.mem_of_getElem? (i := 87) rfl)) rfl
theorem cw_280 : Cond.code yX3_weighMeans cX3_weighMeans 4 none ∈ mm_ws := mm_tw (mm_t5 (List.mem_of_getElem? (i := 186) rfl)) rfl
theorem cw_281 : Cond.code yX3_partsIn cX3_partsIn 4 (some .int) ∈ mm_ws := mm_tw (mm_t5 (List.mem_of_getElem? (i := 137) rfl)) rfl
set_option maxRecDepth 20000 in
theorem mm_cw_all : ∀ m ∈ mm_P, Cond.code m.1 m.2.1 m.2.2.1 m.2.2.2.1 ∈ mm_ws := by
  unfold mm_P
  exact List.forall_mem_cons.mpr ⟨cw_0, List.forall_mem_cons.mpr ⟨cw_1, List.forall_mem_cons.mpr ⟨cw_2, List.forall_mem_cons.mpr ⟨cw_3, List.forall_mem_cons.mpr ⟨cw_4, List.forall_mem_cons.mpr ⟨cw_5, List.forall_mem_cons.mpr ⟨cw_6, List.forall_mem_cons.mpr ⟨cw_7, List.forall_mem_cons.mpr ⟨cw_8, List.forall_mem_cons.mpr ⟨cw_9, List.forall_mem_cons.mpr ⟨cw_10, List.forall_mem_cons.mpr ⟨cw_11, List.forall_mem_cons.mpr ⟨cw_12, List.forall_mem_cons.mpr ⟨cw_13, List.forall_mem_cons.mpr ⟨cw_14, List.forall_mem_cons.mpr ⟨cw_15, List.forall_mem_cons.mpr ⟨cw_16, List.forall_mem_cons.mpr ⟨cw_17, List.forall_mem_cons.mpr ⟨cw_18, List.forall_mem_cons.mpr ⟨cw_19, List.forall_mem_cons.mpr ⟨cw_20, List.forall_mem_cons.mpr ⟨cw_21, List.forall_mem_cons.mpr ⟨cw_22, List.forall_mem_cons.mpr ⟨cw_23, List.forall_mem_cons.mpr ⟨cw_24, List.forall_mem_cons.mpr ⟨cw_25, List.forall_mem_cons.mpr ⟨cw_26, List.forall_mem_cons.mpr ⟨cw_27, List.forall_mem_cons.mpr ⟨cw_28, List.forall_mem_cons.mpr ⟨cw_29, List.forall_mem_cons.mpr ⟨cw_30, List.forall_mem_cons.mpr ⟨cw_31, List.forall_mem_cons.mpr ⟨cw_32, List.forall_mem_cons.mpr ⟨cw_33, List.forall_mem_cons.mpr ⟨cw_34, List.forall_mem_cons.mpr ⟨cw_35, List.forall_mem_cons.mpr ⟨cw_36, List.forall_mem_cons.mpr ⟨cw_37, List.forall_mem_cons.mpr ⟨cw_38, List.forall_mem_cons.mpr ⟨cw_39, List.forall_mem_cons.mpr ⟨cw_40, List.forall_mem_cons.mpr ⟨cw_41, List.forall_mem_cons.mpr ⟨cw_42, List.forall_mem_cons.mpr ⟨cw_43, List.forall_mem_cons.mpr ⟨cw_44, List.forall_mem_cons.mpr ⟨cw_45, List.forall_mem_cons.mpr ⟨cw_46, List.forall_mem_cons.mpr ⟨cw_47, List.forall_mem_cons.mpr ⟨cw_48, List.forall_mem_cons.mpr ⟨cw_49, List.forall_mem_cons.mpr ⟨cw_50, List.forall_mem_cons.mpr ⟨cw_51, List.forall_mem_cons.mpr ⟨cw_52, List.forall_mem_cons.mpr ⟨cw_53, List.forall_mem_cons.mpr ⟨cw_54, List.forall_mem_cons.mpr ⟨cw_55, List.forall_mem_cons.mpr ⟨cw_56, List.forall_mem_cons.mpr ⟨cw_57, List.forall_mem_cons.mpr ⟨cw_58, List.forall_mem_cons.mpr ⟨cw_59, List.forall_mem_cons.mpr ⟨cw_60, List.forall_mem_cons.mpr ⟨cw_61, List.forall_mem_cons.mpr ⟨cw_62, List.forall_mem_cons.mpr ⟨cw_63, List.forall_mem_cons.mpr ⟨cw_64, List.forall_mem_cons.mpr ⟨cw_65, List.forall_mem_cons.mpr ⟨cw_66, List.forall_mem_cons.mpr ⟨cw_67, List.forall_mem_cons.mpr ⟨cw_68, List.forall_mem_cons.mpr ⟨cw_69, List.forall_mem_cons.mpr ⟨cw_70, List.forall_mem_cons.mpr ⟨cw_71, List.forall_mem_cons.mpr ⟨cw_72, List.forall_mem_cons.mpr ⟨cw_73, List.forall_mem_cons.mpr ⟨cw_74, List.forall_mem_cons.mpr ⟨cw_75, List.forall_mem_cons.mpr ⟨cw_76, List.forall_mem_cons.mpr ⟨cw_77, List.forall_mem_cons.mpr ⟨cw_78, List.forall_mem_cons.mpr ⟨cw_79, List.forall_mem_cons.mpr ⟨cw_80, List.forall_mem_cons.mpr ⟨cw_81, List.forall_mem_cons.mpr ⟨cw_82, List.forall_mem_cons.mpr ⟨cw_83, List.forall_mem_cons.mpr ⟨cw_84, List.forall_mem_cons.mpr ⟨cw_85, List.forall_mem_cons.mpr ⟨cw_86, List.forall_mem_cons.mpr ⟨cw_87, List.forall_mem_cons.mpr ⟨cw_88, List.forall_mem_cons.mpr ⟨cw_89, List.forall_mem_cons.mpr ⟨cw_90, List.forall_mem_cons.mpr ⟨cw_91, List.forall_mem_cons.mpr ⟨cw_92, List.forall_mem_cons.mpr ⟨cw_93, List.forall_mem_cons.mpr ⟨cw_94, List.forall_mem_cons.mpr ⟨cw_95, List.forall_mem_cons.mpr ⟨cw_96, List.forall_mem_cons.mpr ⟨cw_97, List.forall_mem_cons.mpr ⟨cw_98, List.forall_mem_cons.mpr ⟨cw_99, List.forall_mem_cons.mpr ⟨cw_100, List.forall_mem_cons.mpr ⟨cw_101, List.forall_mem_cons.mpr ⟨cw_102, List.forall_mem_cons.mpr ⟨cw_103, List.forall_mem_cons.mpr ⟨cw_104, List.forall_mem_cons.mpr ⟨cw_105, List.forall_mem_cons.mpr ⟨cw_106, List.forall_mem_cons.mpr ⟨cw_107, List.forall_mem_cons.mpr ⟨cw_108, List.forall_mem_cons.mpr ⟨cw_109, List.forall_mem_cons.mpr ⟨cw_110, List.forall_mem_cons.mpr ⟨cw_111, List.forall_mem_cons.mpr ⟨cw_112, List.forall_mem_cons.mpr ⟨cw_113, List.forall_mem_cons.mpr ⟨cw_114, List.forall_mem_cons.mpr ⟨cw_115, List.forall_mem_cons.mpr ⟨cw_116, List.forall_mem_cons.mpr ⟨cw_117, List.forall_mem_cons.mpr ⟨cw_118, List.forall_mem_cons.mpr ⟨cw_119, List.forall_mem_cons.mpr ⟨cw_120, List.forall_mem_cons.mpr ⟨cw_121, List.forall_mem_cons.mpr ⟨cw_122, List.forall_mem_cons.mpr ⟨cw_123, List.forall_mem_cons.mpr ⟨cw_124, List.forall_mem_cons.mpr ⟨cw_125, List.forall_mem_cons.mpr ⟨cw_126, List.forall_mem_cons.mpr ⟨cw_127, List.forall_mem_cons.mpr ⟨cw_128, List.forall_mem_cons.mpr ⟨cw_129, List.forall_mem_cons.mpr ⟨cw_130, List.forall_mem_cons.mpr ⟨cw_131, List.forall_mem_cons.mpr ⟨cw_132, List.forall_mem_cons.mpr ⟨cw_133, List.forall_mem_cons.mpr ⟨cw_134, List.forall_mem_cons.mpr ⟨cw_135, List.forall_mem_cons.mpr ⟨cw_136, List.forall_mem_cons.mpr ⟨cw_137, List.forall_mem_cons.mpr ⟨cw_138, List.forall_mem_cons.mpr ⟨cw_139, List.forall_mem_cons.mpr ⟨cw_140, List.forall_mem_cons.mpr ⟨cw_141, List.forall_mem_cons.mpr ⟨cw_142, List.forall_mem_cons.mpr ⟨cw_143, List.forall_mem_cons.mpr ⟨cw_144, List.forall_mem_cons.mpr ⟨cw_145, List.forall_mem_cons.mpr ⟨cw_146, List.forall_mem_cons.mpr ⟨cw_147, List.forall_mem_cons.mpr ⟨cw_148, List.forall_mem_cons.mpr ⟨cw_149, List.forall_mem_cons.mpr ⟨cw_150, List.forall_mem_cons.mpr ⟨cw_151, List.forall_mem_cons.mpr ⟨cw_152, List.forall_mem_cons.mpr ⟨cw_153, List.forall_mem_cons.mpr ⟨cw_154, List.forall_mem_cons.mpr ⟨cw_155, List.forall_mem_cons.mpr ⟨cw_156, List.forall_mem_cons.mpr ⟨cw_157, List.forall_mem_cons.mpr ⟨cw_158, List.forall_mem_cons.mpr ⟨cw_159, List.forall_mem_cons.mpr ⟨cw_160, List.forall_mem_cons.mpr ⟨cw_161, List.forall_mem_cons.mpr ⟨cw_162, List.forall_mem_cons.mpr ⟨cw_163, List.forall_mem_cons.mpr ⟨cw_164, List.forall_mem_cons.mpr ⟨cw_165, List.forall_mem_cons.mpr ⟨cw_166, List.forall_mem_cons.mpr ⟨cw_167, List.forall_mem_cons.mpr ⟨cw_168, List.forall_mem_cons.mpr ⟨cw_169, List.forall_mem_cons.mpr ⟨cw_170, List.forall_mem_cons.mpr ⟨cw_171, List.forall_mem_cons.mpr ⟨cw_172, List.forall_mem_cons.mpr ⟨cw_173, List.forall_mem_cons.mpr ⟨cw_174, List.forall_mem_cons.mpr ⟨cw_175, List.forall_mem_cons.mpr ⟨cw_176, List.forall_mem_cons.mpr ⟨cw_177, List.forall_mem_cons.mpr ⟨cw_178, List.forall_mem_cons.mpr ⟨cw_179, List.forall_mem_cons.mpr ⟨cw_180, List.forall_mem_cons.mpr ⟨cw_181, List.forall_mem_cons.mpr ⟨cw_182, List.forall_mem_cons.mpr ⟨cw_183, List.forall_mem_cons.mpr ⟨cw_184, List.forall_mem_cons.mpr ⟨cw_185, List.forall_mem_cons.mpr ⟨cw_186, List.forall_mem_cons.mpr ⟨cw_187, List.forall_mem_cons.mpr ⟨cw_188, List.forall_mem_cons.mpr ⟨cw_189, List.forall_mem_cons.mpr ⟨cw_190, List.forall_mem_cons.mpr ⟨cw_191, List.forall_mem_cons.mpr ⟨cw_192, List.forall_mem_cons.mpr ⟨cw_193, List.forall_mem_cons.mpr ⟨cw_194, List.forall_mem_cons.mpr ⟨cw_195, List.forall_mem_cons.mpr ⟨cw_196, List.forall_mem_cons.mpr ⟨cw_197, List.forall_mem_cons.mpr ⟨cw_198, List.forall_mem_cons.mpr ⟨cw_199, List.forall_mem_cons.mpr ⟨cw_200, List.forall_mem_cons.mpr ⟨cw_201, List.forall_mem_cons.mpr ⟨cw_202, List.forall_mem_cons.mpr ⟨cw_203, List.forall_mem_cons.mpr ⟨cw_204, List.forall_mem_cons.mpr ⟨cw_205, List.forall_mem_cons.mpr ⟨cw_206, List.forall_mem_cons.mpr ⟨cw_207, List.forall_mem_cons.mpr ⟨cw_208, List.forall_mem_cons.mpr ⟨cw_209, List.forall_mem_cons.mpr ⟨cw_210, List.forall_mem_cons.mpr ⟨cw_211, List.forall_mem_cons.mpr ⟨cw_212, List.forall_mem_cons.mpr ⟨cw_213, List.forall_mem_cons.mpr ⟨cw_214, List.forall_mem_cons.mpr ⟨cw_215, List.forall_mem_cons.mpr ⟨cw_216, List.forall_mem_cons.mpr ⟨cw_217, List.forall_mem_cons.mpr ⟨cw_218, List.forall_mem_cons.mpr ⟨cw_219, List.forall_mem_cons.mpr ⟨cw_220, List.forall_mem_cons.mpr ⟨cw_221, List.forall_mem_cons.mpr ⟨cw_222, List.forall_mem_cons.mpr ⟨cw_223, List.forall_mem_cons.mpr ⟨cw_224, List.forall_mem_cons.mpr ⟨cw_225, List.forall_mem_cons.mpr ⟨cw_226, List.forall_mem_cons.mpr ⟨cw_227, List.forall_mem_cons.mpr ⟨cw_228, List.forall_mem_cons.mpr ⟨cw_229, List.forall_mem_cons.mpr ⟨cw_230, List.forall_mem_cons.mpr ⟨cw_231, List.forall_mem_cons.mpr ⟨cw_232, List.forall_mem_cons.mpr ⟨cw_233, List.forall_mem_cons.mpr ⟨cw_234, List.forall_mem_cons.mpr ⟨cw_235, List.forall_mem_cons.mpr ⟨cw_236, List.forall_mem_cons.mpr ⟨cw_237, List.forall_mem_cons.mpr ⟨cw_238, List.forall_mem_cons.mpr ⟨cw_239, List.forall_mem_cons.mpr ⟨cw_240, List.forall_mem_cons.mpr ⟨cw_241, List.forall_mem_cons.mpr ⟨cw_242, List.forall_mem_cons.mpr ⟨cw_243, List.forall_mem_cons.mpr ⟨cw_244, List.forall_mem_cons.mpr ⟨cw_245, List.forall_mem_cons.mpr ⟨cw_246, List.forall_mem_cons.mpr ⟨cw_247, List.forall_mem_cons.mpr ⟨cw_248, List.forall_mem_cons.mpr ⟨cw_249, List.forall_mem_cons.mpr ⟨cw_250, List.forall_mem_cons.mpr ⟨cw_251, List.forall_mem_cons.mpr ⟨cw_252, List.forall_mem_cons.mpr ⟨cw_253, List.forall_mem_cons.mpr ⟨cw_254, List.forall_mem_cons.mpr ⟨cw_255, List.forall_mem_cons.mpr ⟨cw_256, List.forall_mem_cons.mpr ⟨cw_257, List.forall_mem_cons.mpr ⟨cw_258, List.forall_mem_cons.mpr ⟨cw_259, List.forall_mem_cons.mpr ⟨cw_260, List.forall_mem_cons.mpr ⟨cw_261, List.forall_mem_cons.mpr ⟨cw_262, List.forall_mem_cons.mpr ⟨cw_263, List.forall_mem_cons.mpr ⟨cw_264, List.forall_mem_cons.mpr ⟨cw_265, List.forall_mem_cons.mpr ⟨cw_266, List.forall_mem_cons.mpr ⟨cw_267, List.forall_mem_cons.mpr ⟨cw_268, List.forall_mem_cons.mpr ⟨cw_269, List.forall_mem_cons.mpr ⟨cw_270, List.forall_mem_cons.mpr ⟨cw_271, List.forall_mem_cons.mpr ⟨cw_272, List.forall_mem_cons.mpr ⟨cw_273, List.forall_mem_cons.mpr ⟨cw_274, List.forall_mem_cons.mpr ⟨cw_275, List.forall_mem_cons.mpr ⟨cw_276, List.forall_mem_cons.mpr ⟨cw_277, List.forall_mem_cons.mpr ⟨cw_278, List.forall_mem_cons.mpr ⟨cw_279, List.forall_mem_cons.mpr ⟨cw_280, List.forall_mem_cons.mpr ⟨cw_281, fun _ h => absurd h List.not_mem_nil⟩⟩⟩⟩⟩⟩⟩⟩⟩⟩⟩⟩⟩⟩⟩⟩⟩⟩⟩⟩⟩⟩⟩⟩⟩⟩⟩⟩⟩⟩⟩⟩⟩⟩⟩⟩⟩⟩⟩⟩⟩⟩⟩⟩⟩⟩⟩⟩⟩⟩⟩⟩⟩⟩⟩⟩⟩⟩⟩⟩⟩⟩⟩⟩⟩⟩⟩⟩⟩⟩⟩⟩⟩⟩⟩⟩⟩⟩⟩⟩⟩⟩⟩⟩⟩⟩⟩⟩⟩⟩⟩⟩⟩⟩⟩⟩⟩⟩⟩⟩⟩⟩⟩⟩⟩⟩⟩⟩⟩⟩⟩⟩⟩⟩⟩⟩⟩⟩⟩⟩⟩⟩⟩⟩⟩⟩⟩⟩⟩⟩⟩⟩⟩⟩⟩⟩⟩⟩⟩⟩⟩⟩⟩⟩⟩⟩⟩⟩⟩⟩⟩⟩⟩⟩⟩⟩⟩⟩⟩⟩⟩⟩⟩⟩⟩⟩⟩⟩⟩⟩⟩⟩⟩⟩⟩⟩⟩⟩⟩⟩⟩⟩⟩⟩⟩⟩⟩⟩⟩⟩⟩⟩⟩⟩⟩⟩⟩⟩⟩⟩⟩⟩⟩⟩⟩⟩⟩⟩⟩⟩⟩⟩⟩⟩⟩⟩⟩⟩⟩⟩⟩⟩⟩⟩⟩⟩⟩⟩⟩⟩⟩⟩⟩⟩⟩⟩⟩⟩⟩⟩⟩⟩⟩⟩⟩⟩⟩⟩⟩⟩⟩⟩⟩⟩⟩⟩⟩⟩⟩⟩⟩⟩⟩⟩⟩⟩⟩⟩⟩⟩⟩⟩⟩⟩⟩⟩⟩⟩⟩⟩⟩⟩
